section
-- ===== PART A: goes FIRST, ahead of the names: the tables' words, and 'selects' of the private methods out of them =====
/-- a private method of a class that the tables say can be made, by its rows of tables_1 -/
def lw_okq (q : MethodName × Nat) : Prop := (q.1.cls ≠ "java/lang/invoke/MethodHandle" ∧ q.1.cls ≠ "java/lang/invoke/VarHandle") ∧ Cond.instantiable q.1.cls q.2 ∈ tables_1 ∧ Cond.privateMethod q.1 ∈ tables_1 ∧ Cond.instanceMethod q.1 ∈ tables_1
theorem lw_p0 : lw_okq (⟨"OneBeatsBoth", "bytesOn", "(I)LOneBeatsBoth$Row;"⟩, 8) := ⟨⟨by decide +kernel, by decide +kernel⟩, List.mem_of_getElem? (i := 22) (by decide +kernel), List.mem_of_getElem? (i := 104) (by decide +kernel), List.mem_of_getElem? (i := 105) (by decide +kernel)⟩
theorem lw_p1 : lw_okq (⟨"OneBeatsBoth", "rowOn", "(I)LOneBeatsBoth$Row;"⟩, 8) := ⟨⟨by decide +kernel, by decide +kernel⟩, List.mem_of_getElem? (i := 22) (by decide +kernel), List.mem_of_getElem? (i := 108) (by decide +kernel), List.mem_of_getElem? (i := 109) (by decide +kernel)⟩
theorem lw_p2 : lw_okq (⟨"OneBeatsBoth", "whyNotOn", "(I)I"⟩, 8) := ⟨⟨by decide +kernel, by decide +kernel⟩, List.mem_of_getElem? (i := 22) (by decide +kernel), List.mem_of_getElem? (i := 115) (by decide +kernel), List.mem_of_getElem? (i := 116) (by decide +kernel)⟩
theorem lw_p3 : lw_okq (⟨"OneBeatsBoth", "isBare", "(I)Z"⟩, 8) := ⟨⟨by decide +kernel, by decide +kernel⟩, List.mem_of_getElem? (i := 22) (by decide +kernel), List.mem_of_getElem? (i := 119) (by decide +kernel), List.mem_of_getElem? (i := 120) (by decide +kernel)⟩
theorem lw_p4 : lw_okq (⟨"OneBeatsBoth", "personOn", "(I)LOneBeatsBoth$Player;"⟩, 8) := ⟨⟨by decide +kernel, by decide +kernel⟩, List.mem_of_getElem? (i := 22) (by decide +kernel), List.mem_of_getElem? (i := 123) (by decide +kernel), List.mem_of_getElem? (i := 124) (by decide +kernel)⟩
theorem lw_p5 : lw_okq (⟨"OneBeatsBoth", "draftFollows", "(III)Z"⟩, 8) := ⟨⟨by decide +kernel, by decide +kernel⟩, List.mem_of_getElem? (i := 22) (by decide +kernel), List.mem_of_getElem? (i := 152) (by decide +kernel), List.mem_of_getElem? (i := 153) (by decide +kernel)⟩
theorem lw_p6 : lw_okq (⟨"OneBeatsBoth$League", "eachHasMaster", "()Z"⟩, 4) := ⟨⟨by decide +kernel, by decide +kernel⟩, List.mem_of_getElem? (i := 47) (by decide +kernel), List.mem_of_getElem? (i := 386) (by decide +kernel), List.mem_of_getElem? (i := 387) (by decide +kernel)⟩
theorem lw_p7 : lw_okq (⟨"OneBeatsBoth", "lawfulTurns", "()I"⟩, 8) := ⟨⟨by decide +kernel, by decide +kernel⟩, List.mem_of_getElem? (i := 22) (by decide +kernel), List.mem_of_getElem? (i := 421) (by decide +kernel), List.mem_of_getElem? (i := 422) (by decide +kernel)⟩
theorem lw_p8 : lw_okq (⟨"OneBeatsBoth", "clearTold", "()V"⟩, 8) := ⟨⟨by decide +kernel, by decide +kernel⟩, List.mem_of_getElem? (i := 22) (by decide +kernel), List.mem_of_getElem? (i := 503) (by decide +kernel), List.mem_of_getElem? (i := 504) (by decide +kernel)⟩
theorem lw_p9 : lw_okq (⟨"OneBeatsBoth", "lawfulWaysAsTold", "()I"⟩, 8) := ⟨⟨by decide +kernel, by decide +kernel⟩, List.mem_of_getElem? (i := 22) (by decide +kernel), List.mem_of_getElem? (i := 507) (by decide +kernel), List.mem_of_getElem? (i := 508) (by decide +kernel)⟩
theorem lw_p10 : lw_okq (⟨"java/lang/Throwable", "fillInStackTrace", "(I)Ljava/lang/Throwable;"⟩, 6) := ⟨⟨by decide +kernel, by decide +kernel⟩, List.mem_of_getElem? (i := 671) (by decide +kernel), List.mem_of_getElem? (i := 669) (by decide +kernel), List.mem_of_getElem? (i := 670) (by decide +kernel)⟩
theorem lw_p11 : lw_okq (⟨"OneBeatsBothModel", "wrongRow", "(II)I"⟩, 19) := ⟨⟨by decide +kernel, by decide +kernel⟩, List.mem_of_getElem? (i := 755) (by decide +kernel), List.mem_of_getElem? (i := 827) (by decide +kernel), List.mem_of_getElem? (i := 828) (by decide +kernel)⟩
theorem lw_p12 : lw_okq (⟨"OneBeatsBothModel", "readsStatement", "()Z"⟩, 19) := ⟨⟨by decide +kernel, by decide +kernel⟩, List.mem_of_getElem? (i := 755) (by decide +kernel), List.mem_of_getElem? (i := 838) (by decide +kernel), List.mem_of_getElem? (i := 839) (by decide +kernel)⟩
theorem lw_p13 : lw_okq (⟨"OneBeatsBothModel", "here", "()I"⟩, 19) := ⟨⟨by decide +kernel, by decide +kernel⟩, List.mem_of_getElem? (i := 755) (by decide +kernel), List.mem_of_getElem? (i := 842) (by decide +kernel), List.mem_of_getElem? (i := 843) (by decide +kernel)⟩
theorem lw_p14 : lw_okq (⟨"OneBeatsBothModel", "readsDigits", "(I)Z"⟩, 19) := ⟨⟨by decide +kernel, by decide +kernel⟩, List.mem_of_getElem? (i := 755) (by decide +kernel), List.mem_of_getElem? (i := 846) (by decide +kernel), List.mem_of_getElem? (i := 847) (by decide +kernel)⟩
theorem lw_p15 : lw_okq (⟨"OneBeatsBothModel", "comesTold", "(I)Z"⟩, 19) := ⟨⟨by decide +kernel, by decide +kernel⟩, List.mem_of_getElem? (i := 755) (by decide +kernel), List.mem_of_getElem? (i := 855) (by decide +kernel), List.mem_of_getElem? (i := 856) (by decide +kernel)⟩
def lw_privs_1 : List (MethodName × Nat) := [(⟨"OneBeatsBoth", "bytesOn", "(I)LOneBeatsBoth$Row;"⟩, 8), (⟨"OneBeatsBoth", "rowOn", "(I)LOneBeatsBoth$Row;"⟩, 8), (⟨"OneBeatsBoth", "whyNotOn", "(I)I"⟩, 8), (⟨"OneBeatsBoth", "isBare", "(I)Z"⟩, 8), (⟨"OneBeatsBoth", "personOn", "(I)LOneBeatsBoth$Player;"⟩, 8), (⟨"OneBeatsBoth", "draftFollows", "(III)Z"⟩, 8), (⟨"OneBeatsBoth$League", "eachHasMaster", "()Z"⟩, 4), (⟨"OneBeatsBoth", "lawfulTurns", "()I"⟩, 8), (⟨"OneBeatsBoth", "clearTold", "()V"⟩, 8), (⟨"OneBeatsBoth", "lawfulWaysAsTold", "()I"⟩, 8), (⟨"java/lang/Throwable", "fillInStackTrace", "(I)Ljava/lang/Throwable;"⟩, 6), (⟨"OneBeatsBothModel", "wrongRow", "(II)I"⟩, 19), (⟨"OneBeatsBothModel", "readsStatement", "()Z"⟩, 19), (⟨"OneBeatsBothModel", "here", "()I"⟩, 19), (⟨"OneBeatsBothModel", "readsDigits", "(I)Z"⟩, 19), (⟨"OneBeatsBothModel", "comesTold", "(I)Z"⟩, 19)]
theorem lw_r1 : ∀ q ∈ lw_privs_1, lw_okq q := List.forall_mem_cons.mpr ⟨lw_p0, List.forall_mem_cons.mpr ⟨lw_p1, List.forall_mem_cons.mpr ⟨lw_p2, List.forall_mem_cons.mpr ⟨lw_p3, List.forall_mem_cons.mpr ⟨lw_p4, List.forall_mem_cons.mpr ⟨lw_p5, List.forall_mem_cons.mpr ⟨lw_p6, List.forall_mem_cons.mpr ⟨lw_p7, List.forall_mem_cons.mpr ⟨lw_p8, List.forall_mem_cons.mpr ⟨lw_p9, List.forall_mem_cons.mpr ⟨lw_p10, List.forall_mem_cons.mpr ⟨lw_p11, List.forall_mem_cons.mpr ⟨lw_p12, List.forall_mem_cons.mpr ⟨lw_p13, List.forall_mem_cons.mpr ⟨lw_p14, List.forall_mem_cons.mpr ⟨lw_p15, fun _ h => absurd h List.not_mem_nil⟩⟩⟩⟩⟩⟩⟩⟩⟩⟩⟩⟩⟩⟩⟩⟩
theorem lw_p16 : lw_okq (⟨"OneBeatsBothModel", "adds", "(II)Z"⟩, 19) := ⟨⟨by decide +kernel, by decide +kernel⟩, List.mem_of_getElem? (i := 755) (by decide +kernel), List.mem_of_getElem? (i := 859) (by decide +kernel), List.mem_of_getElem? (i := 860) (by decide +kernel)⟩
theorem lw_p17 : lw_okq (⟨"OneBeatsBothModel", "joins", "(II)V"⟩, 19) := ⟨⟨by decide +kernel, by decide +kernel⟩, List.mem_of_getElem? (i := 755) (by decide +kernel), List.mem_of_getElem? (i := 863) (by decide +kernel), List.mem_of_getElem? (i := 864) (by decide +kernel)⟩
theorem lw_p18 : lw_okq (⟨"OneBeatsBothModel", "puts", "(III)V"⟩, 19) := ⟨⟨by decide +kernel, by decide +kernel⟩, List.mem_of_getElem? (i := 755) (by decide +kernel), List.mem_of_getElem? (i := 867) (by decide +kernel), List.mem_of_getElem? (i := 868) (by decide +kernel)⟩
theorem lw_p19 : lw_okq (⟨"OneBeatsBothModel", "beaten", "(I)I"⟩, 19) := ⟨⟨by decide +kernel, by decide +kernel⟩, List.mem_of_getElem? (i := 755) (by decide +kernel), List.mem_of_getElem? (i := 871) (by decide +kernel), List.mem_of_getElem? (i := 872) (by decide +kernel)⟩
theorem lw_p20 : lw_okq (⟨"OneBeatsBothModel", "areTwo", "(II)Z"⟩, 19) := ⟨⟨by decide +kernel, by decide +kernel⟩, List.mem_of_getElem? (i := 755) (by decide +kernel), List.mem_of_getElem? (i := 875) (by decide +kernel), List.mem_of_getElem? (i := 876) (by decide +kernel)⟩
theorem lw_p21 : lw_okq (⟨"OneBeatsBothModel", "isOne", "(I)Z"⟩, 19) := ⟨⟨by decide +kernel, by decide +kernel⟩, List.mem_of_getElem? (i := 755) (by decide +kernel), List.mem_of_getElem? (i := 879) (by decide +kernel), List.mem_of_getElem? (i := 880) (by decide +kernel)⟩
theorem lw_p22 : lw_okq (⟨"OneBeatsBothModel", "beats", "(II)V"⟩, 19) := ⟨⟨by decide +kernel, by decide +kernel⟩, List.mem_of_getElem? (i := 755) (by decide +kernel), List.mem_of_getElem? (i := 883) (by decide +kernel), List.mem_of_getElem? (i := 884) (by decide +kernel)⟩
theorem lw_p23 : lw_okq (⟨"OneBeatsBothModel", "leaves", "(I)V"⟩, 19) := ⟨⟨by decide +kernel, by decide +kernel⟩, List.mem_of_getElem? (i := 755) (by decide +kernel), List.mem_of_getElem? (i := 891) (by decide +kernel), List.mem_of_getElem? (i := 892) (by decide +kernel)⟩
theorem lw_p24 : lw_okq (⟨"OneBeatsBothModel", "kind", "(I)I"⟩, 19) := ⟨⟨by decide +kernel, by decide +kernel⟩, List.mem_of_getElem? (i := 755) (by decide +kernel), List.mem_of_getElem? (i := 899) (by decide +kernel), List.mem_of_getElem? (i := 900) (by decide +kernel)⟩
theorem lw_p25 : lw_okq (⟨"OneBeatsBothModel", "figure", "(I)I"⟩, 19) := ⟨⟨by decide +kernel, by decide +kernel⟩, List.mem_of_getElem? (i := 755) (by decide +kernel), List.mem_of_getElem? (i := 903) (by decide +kernel), List.mem_of_getElem? (i := 904) (by decide +kernel)⟩
theorem lw_p26 : lw_okq (⟨"OneBeatsBothModel", "skill", "(I)I"⟩, 19) := ⟨⟨by decide +kernel, by decide +kernel⟩, List.mem_of_getElem? (i := 755) (by decide +kernel), List.mem_of_getElem? (i := 907) (by decide +kernel), List.mem_of_getElem? (i := 908) (by decide +kernel)⟩
theorem lw_p27 : lw_okq (⟨"OneBeatsBothModel", "counts", "(I)Z"⟩, 19) := ⟨⟨by decide +kernel, by decide +kernel⟩, List.mem_of_getElem? (i := 755) (by decide +kernel), List.mem_of_getElem? (i := 914) (by decide +kernel), List.mem_of_getElem? (i := 915) (by decide +kernel)⟩
theorem lw_p28 : lw_okq (⟨"OneBeatsBothModel", "wrongKept", "(I)I"⟩, 19) := ⟨⟨by decide +kernel, by decide +kernel⟩, List.mem_of_getElem? (i := 755) (by decide +kernel), List.mem_of_getElem? (i := 928) (by decide +kernel), List.mem_of_getElem? (i := 929) (by decide +kernel)⟩
theorem lw_p29 : lw_okq (⟨"OneBeatsBothModel", "isLawful", "()Z"⟩, 19) := ⟨⟨by decide +kernel, by decide +kernel⟩, List.mem_of_getElem? (i := 755) (by decide +kernel), List.mem_of_getElem? (i := 944) (by decide +kernel), List.mem_of_getElem? (i := 945) (by decide +kernel)⟩
theorem lw_p30 : lw_okq (⟨"OneBeatsBothModel", "mastersOf", "(I)I"⟩, 19) := ⟨⟨by decide +kernel, by decide +kernel⟩, List.mem_of_getElem? (i := 755) (by decide +kernel), List.mem_of_getElem? (i := 948) (by decide +kernel), List.mem_of_getElem? (i := 949) (by decide +kernel)⟩
theorem lw_p31 : lw_okq (⟨"OneBeatsBothModel", "turnedTo", "(Z)I"⟩, 19) := ⟨⟨by decide +kernel, by decide +kernel⟩, List.mem_of_getElem? (i := 755) (by decide +kernel), List.mem_of_getElem? (i := 964) (by decide +kernel), List.mem_of_getElem? (i := 965) (by decide +kernel)⟩
def lw_privs_2 : List (MethodName × Nat) := [(⟨"OneBeatsBothModel", "adds", "(II)Z"⟩, 19), (⟨"OneBeatsBothModel", "joins", "(II)V"⟩, 19), (⟨"OneBeatsBothModel", "puts", "(III)V"⟩, 19), (⟨"OneBeatsBothModel", "beaten", "(I)I"⟩, 19), (⟨"OneBeatsBothModel", "areTwo", "(II)Z"⟩, 19), (⟨"OneBeatsBothModel", "isOne", "(I)Z"⟩, 19), (⟨"OneBeatsBothModel", "beats", "(II)V"⟩, 19), (⟨"OneBeatsBothModel", "leaves", "(I)V"⟩, 19), (⟨"OneBeatsBothModel", "kind", "(I)I"⟩, 19), (⟨"OneBeatsBothModel", "figure", "(I)I"⟩, 19), (⟨"OneBeatsBothModel", "skill", "(I)I"⟩, 19), (⟨"OneBeatsBothModel", "counts", "(I)Z"⟩, 19), (⟨"OneBeatsBothModel", "wrongKept", "(I)I"⟩, 19), (⟨"OneBeatsBothModel", "isLawful", "()Z"⟩, 19), (⟨"OneBeatsBothModel", "mastersOf", "(I)I"⟩, 19), (⟨"OneBeatsBothModel", "turnedTo", "(Z)I"⟩, 19)]
theorem lw_r2 : ∀ q ∈ lw_privs_2, lw_okq q := List.forall_mem_cons.mpr ⟨lw_p16, List.forall_mem_cons.mpr ⟨lw_p17, List.forall_mem_cons.mpr ⟨lw_p18, List.forall_mem_cons.mpr ⟨lw_p19, List.forall_mem_cons.mpr ⟨lw_p20, List.forall_mem_cons.mpr ⟨lw_p21, List.forall_mem_cons.mpr ⟨lw_p22, List.forall_mem_cons.mpr ⟨lw_p23, List.forall_mem_cons.mpr ⟨lw_p24, List.forall_mem_cons.mpr ⟨lw_p25, List.forall_mem_cons.mpr ⟨lw_p26, List.forall_mem_cons.mpr ⟨lw_p27, List.forall_mem_cons.mpr ⟨lw_p28, List.forall_mem_cons.mpr ⟨lw_p29, List.forall_mem_cons.mpr ⟨lw_p30, List.forall_mem_cons.mpr ⟨lw_p31, fun _ h => absurd h List.not_mem_nil⟩⟩⟩⟩⟩⟩⟩⟩⟩⟩⟩⟩⟩⟩⟩⟩
theorem lw_p32 : lw_okq (⟨"OneBeatsBothModel", "turns", "(II)V"⟩, 19) := ⟨⟨by decide +kernel, by decide +kernel⟩, List.mem_of_getElem? (i := 755) (by decide +kernel), List.mem_of_getElem? (i := 968) (by decide +kernel), List.mem_of_getElem? (i := 969) (by decide +kernel)⟩
theorem lw_p33 : lw_okq (⟨"OneBeatsBothModel", "putsRight", "()V"⟩, 19) := ⟨⟨by decide +kernel, by decide +kernel⟩, List.mem_of_getElem? (i := 755) (by decide +kernel), List.mem_of_getElem? (i := 988) (by decide +kernel), List.mem_of_getElem? (i := 989) (by decide +kernel)⟩
theorem lw_p34 : lw_okq (⟨"OneBeatsBothModel", "tries", "(III)V"⟩, 19) := ⟨⟨by decide +kernel, by decide +kernel⟩, List.mem_of_getElem? (i := 755) (by decide +kernel), List.mem_of_getElem? (i := 992) (by decide +kernel), List.mem_of_getElem? (i := 993) (by decide +kernel)⟩
theorem lw_p35 : lw_okq (⟨"OneBeatsBothModel", "begins", "()V"⟩, 19) := ⟨⟨by decide +kernel, by decide +kernel⟩, List.mem_of_getElem? (i := 755) (by decide +kernel), List.mem_of_getElem? (i := 1005) (by decide +kernel), List.mem_of_getElem? (i := 1006) (by decide +kernel)⟩
theorem lw_p36 : lw_okq (⟨"OneBeatsBothModel", "ends", "()V"⟩, 19) := ⟨⟨by decide +kernel, by decide +kernel⟩, List.mem_of_getElem? (i := 755) (by decide +kernel), List.mem_of_getElem? (i := 1009) (by decide +kernel), List.mem_of_getElem? (i := 1010) (by decide +kernel)⟩
theorem lw_p37 : lw_okq (⟨"OneBeatsBothModel", "matches", "()I"⟩, 19) := ⟨⟨by decide +kernel, by decide +kernel⟩, List.mem_of_getElem? (i := 755) (by decide +kernel), List.mem_of_getElem? (i := 1023) (by decide +kernel), List.mem_of_getElem? (i := 1024) (by decide +kernel)⟩
theorem lw_p38 : lw_okq (⟨"OneBeatsBothModel", "plays", "(I)V"⟩, 19) := ⟨⟨by decide +kernel, by decide +kernel⟩, List.mem_of_getElem? (i := 755) (by decide +kernel), List.mem_of_getElem? (i := 1027) (by decide +kernel), List.mem_of_getElem? (i := 1028) (by decide +kernel)⟩
theorem lw_p39 : lw_okq (⟨"OneBeatsBothModel", "weightNow", "()J"⟩, 19) := ⟨⟨by decide +kernel, by decide +kernel⟩, List.mem_of_getElem? (i := 755) (by decide +kernel), List.mem_of_getElem? (i := 1031) (by decide +kernel), List.mem_of_getElem? (i := 1032) (by decide +kernel)⟩
theorem lw_p40 : lw_okq (⟨"OneBeatsBothModel", "told", "(II)I"⟩, 19) := ⟨⟨by decide +kernel, by decide +kernel⟩, List.mem_of_getElem? (i := 755) (by decide +kernel), List.mem_of_getElem? (i := 1069) (by decide +kernel), List.mem_of_getElem? (i := 1070) (by decide +kernel)⟩
theorem lw_p41 : lw_okq (⟨"OneBeatsBothModel", "isAsPlayed", "(I)Z"⟩, 19) := ⟨⟨by decide +kernel, by decide +kernel⟩, List.mem_of_getElem? (i := 755) (by decide +kernel), List.mem_of_getElem? (i := 1073) (by decide +kernel), List.mem_of_getElem? (i := 1074) (by decide +kernel)⟩
theorem lw_p42 : lw_okq (⟨"OneBeatsBothModel", "drawn", "(I)I"⟩, 19) := ⟨⟨by decide +kernel, by decide +kernel⟩, List.mem_of_getElem? (i := 755) (by decide +kernel), List.mem_of_getElem? (i := 1082) (by decide +kernel), List.mem_of_getElem? (i := 1083) (by decide +kernel)⟩
theorem lw_p43 : lw_okq (⟨"OneBeatsBothModel", "wrongThree", "(II)I"⟩, 19) := ⟨⟨by decide +kernel, by decide +kernel⟩, List.mem_of_getElem? (i := 755) (by decide +kernel), List.mem_of_getElem? (i := 1093) (by decide +kernel), List.mem_of_getElem? (i := 1094) (by decide +kernel)⟩
def lw_privs_3 : List (MethodName × Nat) := [(⟨"OneBeatsBothModel", "turns", "(II)V"⟩, 19), (⟨"OneBeatsBothModel", "putsRight", "()V"⟩, 19), (⟨"OneBeatsBothModel", "tries", "(III)V"⟩, 19), (⟨"OneBeatsBothModel", "begins", "()V"⟩, 19), (⟨"OneBeatsBothModel", "ends", "()V"⟩, 19), (⟨"OneBeatsBothModel", "matches", "()I"⟩, 19), (⟨"OneBeatsBothModel", "plays", "(I)V"⟩, 19), (⟨"OneBeatsBothModel", "weightNow", "()J"⟩, 19), (⟨"OneBeatsBothModel", "told", "(II)I"⟩, 19), (⟨"OneBeatsBothModel", "isAsPlayed", "(I)Z"⟩, 19), (⟨"OneBeatsBothModel", "drawn", "(I)I"⟩, 19), (⟨"OneBeatsBothModel", "wrongThree", "(II)I"⟩, 19)]
theorem lw_r3 : ∀ q ∈ lw_privs_3, lw_okq q := List.forall_mem_cons.mpr ⟨lw_p32, List.forall_mem_cons.mpr ⟨lw_p33, List.forall_mem_cons.mpr ⟨lw_p34, List.forall_mem_cons.mpr ⟨lw_p35, List.forall_mem_cons.mpr ⟨lw_p36, List.forall_mem_cons.mpr ⟨lw_p37, List.forall_mem_cons.mpr ⟨lw_p38, List.forall_mem_cons.mpr ⟨lw_p39, List.forall_mem_cons.mpr ⟨lw_p40, List.forall_mem_cons.mpr ⟨lw_p41, List.forall_mem_cons.mpr ⟨lw_p42, List.forall_mem_cons.mpr ⟨lw_p43, fun _ h => absurd h List.not_mem_nil⟩⟩⟩⟩⟩⟩⟩⟩⟩⟩⟩⟩
def lw_privs : List (MethodName × Nat) := lw_privs_1 ++ (lw_privs_2 ++ (lw_privs_3))
def lw_tbl : List Cond := k2_sels lw_privs ++ tables_1
theorem lw_privs_ok : ∀ q ∈ lw_privs, lw_okq q := by
  show ∀ q ∈ lw_privs_1 ++ (lw_privs_2 ++ (lw_privs_3)), lw_okq q
  exact List.forall_mem_append.mpr ⟨lw_r1, List.forall_mem_append.mpr ⟨lw_r2, lw_r3⟩⟩
-- ===== end of PART A; then your names; then what follows =====
/-! ===== BEGIN printed: names, fields, word lists, decode rows ===== -/
def RX0 : String := "OneBeatsBoth$Champion"
def TX0 : u_T := fun k => match k with
  | _ => ("OneBeatsBoth$Player", "figure", "I", true)
def tyX0 : Nat → FieldType := fun k => match k with
  | _ => .int
abbrev wsX00 : List Cond := u_ws RX0 TX0 1
theorem nmX0 : ∀ a, a < 1 → ∀ b, b < 1 → a ≠ b → (TX0 a).2.1 ≠ (TX0 b).2.1 := by decide +kernel
theorem tyX0_ok : ∀ k, k < 1 → parseFieldDescriptor (TX0 k).2.2.1 = some (tyX0 k) := by decide +kernel
abbrev cX0_init : ByteArray := prog_2_method_1_code
def yX0_init : MethodName := ⟨RX0, "<init>", "(I)V"⟩
abbrev cX0_kind : ByteArray := prog_2_method_2_code
def yX0_kind : MethodName := ⟨RX0, "kind", "()I"⟩
abbrev cX0_skill : ByteArray := prog_2_method_3_code
def yX0_skill : MethodName := ⟨RX0, "skill", "()I"⟩
abbrev cX0_cost : ByteArray := prog_2_method_4_code
def yX0_cost : MethodName := ⟨RX0, "cost", "()I"⟩
def RX1 : String := "OneBeatsBoth$Guest"
def TX1 : u_T := fun k => match k with
  | _ => ("OneBeatsBoth$Player", "figure", "I", true)
def tyX1 : Nat → FieldType := fun k => match k with
  | _ => .int
abbrev wsX10 : List Cond := u_ws RX1 TX1 1
theorem nmX1 : ∀ a, a < 1 → ∀ b, b < 1 → a ≠ b → (TX1 a).2.1 ≠ (TX1 b).2.1 := by decide +kernel
theorem tyX1_ok : ∀ k, k < 1 → parseFieldDescriptor (TX1 k).2.2.1 = some (tyX1 k) := by decide +kernel
abbrev cX1_init : ByteArray := prog_3_method_1_code
def yX1_init : MethodName := ⟨RX1, "<init>", "(I)V"⟩
abbrev cX1_kind : ByteArray := prog_3_method_2_code
def yX1_kind : MethodName := ⟨RX1, "kind", "()I"⟩
abbrev cX1_skill : ByteArray := prog_3_method_3_code
def yX1_skill : MethodName := ⟨RX1, "skill", "()I"⟩
abbrev cX1_cost : ByteArray := prog_3_method_4_code
def yX1_cost : MethodName := ⟨RX1, "cost", "()I"⟩
def RX2 : String := "OneBeatsBoth$League"
def TX2 : u_T := fun k => match k with
  | 0 => ("OneBeatsBoth$League", "people", "[LOneBeatsBoth$Player;", true)
  | 1 => ("OneBeatsBoth$League", "beaten", "[I", true)
  | 2 => ("OneBeatsBoth$League", "size", "I", false)
  | _ => ("OneBeatsBoth$League", "law", "I", false)
def tyX2 : Nat → FieldType := fun k => match k with
  | 0 => .array (.object "OneBeatsBoth$Player")
  | 1 => .array .int
  | 2 => .int
  | _ => .int
abbrev wsX20 : List Cond := u_ws RX2 TX2 4
theorem nmX2 : ∀ a, a < 4 → ∀ b, b < 4 → a ≠ b → (TX2 a).2.1 ≠ (TX2 b).2.1 := by decide +kernel
theorem tyX2_ok : ∀ k, k < 4 → parseFieldDescriptor (TX2 k).2.2.1 = some (tyX2 k) := by decide +kernel
abbrev cX2_init : ByteArray := prog_4_method_1_code
def yX2_init : MethodName := ⟨RX2, "<init>", "(LOneBeatsBoth$Player;)V"⟩
abbrev cX2_become : ByteArray := prog_4_method_2_code
def yX2_become : MethodName := ⟨RX2, "become", "(LOneBeatsBoth$League;)V"⟩
abbrev cX2_has : ByteArray := prog_4_method_3_code
def yX2_has : MethodName := ⟨RX2, "has", "(I)Z"⟩
abbrev cX2_hasBoth : ByteArray := prog_4_method_4_code
def yX2_hasBoth : MethodName := ⟨RX2, "hasBoth", "(II)Z"⟩
abbrev cX2_hasBeaten : ByteArray := prog_4_method_5_code
def yX2_hasBeaten : MethodName := ⟨RX2, "hasBeaten", "(II)Z"⟩
abbrev cX2_seat : ByteArray := prog_4_method_6_code
def yX2_seat : MethodName := ⟨RX2, "seat", "(LOneBeatsBoth$Player;)V"⟩
abbrev cX2_unseat : ByteArray := prog_4_method_7_code
def yX2_unseat : MethodName := ⟨RX2, "unseat", "(I)V"⟩
abbrev cX2_win : ByteArray := prog_4_method_8_code
def yX2_win : MethodName := ⟨RX2, "win", "(II)V"⟩
abbrev cX2_matches : ByteArray := prog_4_method_9_code
def yX2_matches : MethodName := ⟨RX2, "matches", "()I"⟩
abbrev cX2_turn : ByteArray := prog_4_method_10_code
def yX2_turn : MethodName := ⟨RX2, "turn", "(I)V"⟩
abbrev cX2_costOfTurn : ByteArray := prog_4_method_11_code
def yX2_costOfTurn : MethodName := ⟨RX2, "costOfTurn", "(I)I"⟩
abbrev cX2_play : ByteArray := prog_4_method_12_code
def yX2_play : MethodName := ⟨RX2, "play", "(I)V"⟩
abbrev cX2_playSeason : ByteArray := prog_4_method_13_code
def yX2_playSeason : MethodName := ⟨RX2, "playSeason", "(I)I"⟩
abbrev cX2_drawBelow : ByteArray := prog_4_method_14_code
def yX2_drawBelow : MethodName := ⟨RX2, "drawBelow", "(II)I"⟩
abbrev cX2_newcomerBeats : ByteArray := prog_4_method_15_code
def yX2_newcomerBeats : MethodName := ⟨RX2, "newcomerBeats", "(II)V"⟩
abbrev cX2_weight : ByteArray := prog_4_method_16_code
def yX2_weight : MethodName := ⟨RX2, "weight", "()J"⟩
abbrev cX2_isAsTold : ByteArray := prog_4_method_17_code
def yX2_isAsTold : MethodName := ⟨RX2, "isAsTold", "([I)Z"⟩
abbrev cX2_counting : ByteArray := prog_4_method_18_code
def yX2_counting : MethodName := ⟨RX2, "counting", "()I"⟩
abbrev cX2_mastersAmong : ByteArray := prog_4_method_19_code
def yX2_mastersAmong : MethodName := ⟨RX2, "mastersAmong", "(III)I"⟩
abbrev cX2_isLawful : ByteArray := prog_4_method_20_code
def yX2_isLawful : MethodName := ⟨RX2, "isLawful", "()Z"⟩
abbrev cX2_eachHasMaster : ByteArray := prog_4_method_21_code
def yX2_eachHasMaster : MethodName := ⟨RX2, "eachHasMaster", "()Z"⟩
abbrev cX2_firstOrphanPair : ByteArray := prog_4_method_22_code
def yX2_firstOrphanPair : MethodName := ⟨RX2, "firstOrphanPair", "()I"⟩
abbrev cX2_orphanPairs : ByteArray := prog_4_method_23_code
def yX2_orphanPairs : MethodName := ⟨RX2, "orphanPairs", "()I"⟩
abbrev cX2_isRing : ByteArray := prog_4_method_24_code
def yX2_isRing : MethodName := ⟨RX2, "isRing", "(III)Z"⟩
abbrev cX2_allCosts : ByteArray := prog_4_method_25_code
def yX2_allCosts : MethodName := ⟨RX2, "allCosts", "()I"⟩
abbrev cX2_wrongOfThree : ByteArray := prog_4_method_26_code
def yX2_wrongOfThree : MethodName := ⟨RX2, "wrongOfThree", "(III)I"⟩
def RX3 : String := "OneBeatsBoth$Novice"
def TX3 : u_T := fun k => match k with
  | _ => ("OneBeatsBoth$Player", "figure", "I", true)
def tyX3 : Nat → FieldType := fun k => match k with
  | _ => .int
abbrev wsX30 : List Cond := u_ws RX3 TX3 1
theorem nmX3 : ∀ a, a < 1 → ∀ b, b < 1 → a ≠ b → (TX3 a).2.1 ≠ (TX3 b).2.1 := by decide +kernel
theorem tyX3_ok : ∀ k, k < 1 → parseFieldDescriptor (TX3 k).2.2.1 = some (tyX3 k) := by decide +kernel
abbrev cX3_init : ByteArray := prog_5_method_1_code
def yX3_init : MethodName := ⟨RX3, "<init>", "(I)V"⟩
abbrev cX3_kind : ByteArray := prog_5_method_2_code
def yX3_kind : MethodName := ⟨RX3, "kind", "()I"⟩
abbrev cX3_skill : ByteArray := prog_5_method_3_code
def yX3_skill : MethodName := ⟨RX3, "skill", "()I"⟩
abbrev cX3_countsWith : ByteArray := prog_5_method_4_code
def yX3_countsWith : MethodName := ⟨RX3, "countsWith", "(I)Z"⟩
abbrev cX3_cost : ByteArray := prog_5_method_5_code
def yX3_cost : MethodName := ⟨RX3, "cost", "()I"⟩
abbrev cX3_fail : ByteArray := prog_5_method_6_code
def yX3_fail : MethodName := ⟨RX3, "fail", "()V"⟩
def RX4 : String := "OneBeatsBoth$Nuisance"
def TX4 : u_T := fun k => match k with
  | _ => ("OneBeatsBoth$Player", "figure", "I", true)
def tyX4 : Nat → FieldType := fun k => match k with
  | _ => .int
abbrev wsX40 : List Cond := u_ws RX4 TX4 1
theorem nmX4 : ∀ a, a < 1 → ∀ b, b < 1 → a ≠ b → (TX4 a).2.1 ≠ (TX4 b).2.1 := by decide +kernel
theorem tyX4_ok : ∀ k, k < 1 → parseFieldDescriptor (TX4 k).2.2.1 = some (tyX4 k) := by decide +kernel
abbrev cX4_init : ByteArray := prog_6_method_1_code
def yX4_init : MethodName := ⟨RX4, "<init>", "(I)V"⟩
abbrev cX4_kind : ByteArray := prog_6_method_2_code
def yX4_kind : MethodName := ⟨RX4, "kind", "()I"⟩
abbrev cX4_skill : ByteArray := prog_6_method_3_code
def yX4_skill : MethodName := ⟨RX4, "skill", "()I"⟩
abbrev cX4_countsWith : ByteArray := prog_6_method_4_code
def yX4_countsWith : MethodName := ⟨RX4, "countsWith", "(I)Z"⟩
abbrev cX4_cost : ByteArray := prog_6_method_5_code
def yX4_cost : MethodName := ⟨RX4, "cost", "()I"⟩
def RX5 : String := "OneBeatsBoth$Paid"
def TX5 : u_T := fun k => match k with
  | _ => ("OneBeatsBoth$Player", "figure", "I", true)
def tyX5 : Nat → FieldType := fun k => match k with
  | _ => .int
abbrev wsX50 : List Cond := u_ws RX5 TX5 1
theorem nmX5 : ∀ a, a < 1 → ∀ b, b < 1 → a ≠ b → (TX5 a).2.1 ≠ (TX5 b).2.1 := by decide +kernel
theorem tyX5_ok : ∀ k, k < 1 → parseFieldDescriptor (TX5 k).2.2.1 = some (tyX5 k) := by decide +kernel
abbrev cX5_init : ByteArray := prog_7_method_1_code
def yX5_init : MethodName := ⟨RX5, "<init>", "(I)V"⟩
abbrev cX5_kind : ByteArray := prog_7_method_2_code
def yX5_kind : MethodName := ⟨RX5, "kind", "()I"⟩
abbrev cX5_cost : ByteArray := prog_7_method_3_code
def yX5_cost : MethodName := ⟨RX5, "cost", "()I"⟩
abbrev cX5_fail : ByteArray := prog_7_method_4_code
def yX5_fail : MethodName := ⟨RX5, "fail", "()V"⟩
def RX6 : String := "OneBeatsBoth$Player"
def TX6 : u_T := fun k => match k with
  | _ => ("OneBeatsBoth$Player", "figure", "I", true)
def tyX6 : Nat → FieldType := fun k => match k with
  | _ => .int
abbrev wsX60 : List Cond := u_ws RX6 TX6 1
theorem nmX6 : ∀ a, a < 1 → ∀ b, b < 1 → a ≠ b → (TX6 a).2.1 ≠ (TX6 b).2.1 := by decide +kernel
theorem tyX6_ok : ∀ k, k < 1 → parseFieldDescriptor (TX6 k).2.2.1 = some (tyX6 k) := by decide +kernel
abbrev cX6_init : ByteArray := prog_8_method_1_code
def yX6_init : MethodName := ⟨RX6, "<init>", "(I)V"⟩
abbrev cX6_kind : ByteArray := prog_8_method_2_code
def yX6_kind : MethodName := ⟨RX6, "kind", "()I"⟩
abbrev cX6_skill : ByteArray := prog_8_method_3_code
def yX6_skill : MethodName := ⟨RX6, "skill", "()I"⟩
abbrev cX6_countsWith : ByteArray := prog_8_method_4_code
def yX6_countsWith : MethodName := ⟨RX6, "countsWith", "(I)Z"⟩
abbrev cX6_cost : ByteArray := prog_8_method_5_code
def yX6_cost : MethodName := ⟨RX6, "cost", "()I"⟩
abbrev cX6_fail : ByteArray := prog_8_method_6_code
def yX6_fail : MethodName := ⟨RX6, "fail", "()V"⟩
def RX7 : String := "OneBeatsBoth$Priest"
def TX7 : u_T := fun k => match k with
  | _ => ("OneBeatsBoth$Player", "figure", "I", true)
def tyX7 : Nat → FieldType := fun k => match k with
  | _ => .int
abbrev wsX70 : List Cond := u_ws RX7 TX7 1
theorem nmX7 : ∀ a, a < 1 → ∀ b, b < 1 → a ≠ b → (TX7 a).2.1 ≠ (TX7 b).2.1 := by decide +kernel
theorem tyX7_ok : ∀ k, k < 1 → parseFieldDescriptor (TX7 k).2.2.1 = some (tyX7 k) := by decide +kernel
abbrev cX7_init : ByteArray := prog_9_method_1_code
def yX7_init : MethodName := ⟨RX7, "<init>", "(I)V"⟩
abbrev cX7_kind : ByteArray := prog_9_method_2_code
def yX7_kind : MethodName := ⟨RX7, "kind", "()I"⟩
abbrev cX7_countsWith : ByteArray := prog_9_method_3_code
def yX7_countsWith : MethodName := ⟨RX7, "countsWith", "(I)Z"⟩
abbrev cX7_cost : ByteArray := prog_9_method_4_code
def yX7_cost : MethodName := ⟨RX7, "cost", "()I"⟩
abbrev cX7_fail : ByteArray := prog_9_method_5_code
def yX7_fail : MethodName := ⟨RX7, "fail", "()V"⟩
def RX8 : String := "OneBeatsBoth$Row"
def TX8 : u_T := fun k => match k with
  | 0 => ("OneBeatsBoth$Row", "sort", "I", true)
  | _ => ("OneBeatsBoth$Row", "cells", "[I", true)
def tyX8 : Nat → FieldType := fun k => match k with
  | 0 => .int
  | _ => .array .int
abbrev wsX80 : List Cond := u_ws RX8 TX8 2
theorem nmX8 : ∀ a, a < 2 → ∀ b, b < 2 → a ≠ b → (TX8 a).2.1 ≠ (TX8 b).2.1 := by decide +kernel
theorem tyX8_ok : ∀ k, k < 2 → parseFieldDescriptor (TX8 k).2.2.1 = some (tyX8 k) := by decide +kernel
abbrev cX8_init : ByteArray := prog_10_method_1_code
def yX8_init : MethodName := ⟨RX8, "<init>", "(I[I)V"⟩
abbrev cX8_size : ByteArray := prog_10_method_2_code
def yX8_size : MethodName := ⟨RX8, "size", "()I"⟩
abbrev cX8_hasPlaces : ByteArray := prog_10_method_3_code
def yX8_hasPlaces : MethodName := ⟨RX8, "hasPlaces", "(II)Z"⟩
abbrev cX8_at : ByteArray := prog_10_method_4_code
def yX8_at : MethodName := ⟨RX8, "at", "(I)I"⟩
abbrev cX8_change : ByteArray := prog_10_method_5_code
def yX8_change : MethodName := ⟨RX8, "change", "(II)V"⟩
def RX9 : String := "OneBeatsBoth$Twin"
def TX9 : u_T := fun k => match k with
  | _ => ("OneBeatsBoth$Player", "figure", "I", true)
def tyX9 : Nat → FieldType := fun k => match k with
  | _ => .int
abbrev wsX90 : List Cond := u_ws RX9 TX9 1
theorem nmX9 : ∀ a, a < 1 → ∀ b, b < 1 → a ≠ b → (TX9 a).2.1 ≠ (TX9 b).2.1 := by decide +kernel
theorem tyX9_ok : ∀ k, k < 1 → parseFieldDescriptor (TX9 k).2.2.1 = some (tyX9 k) := by decide +kernel
abbrev cX9_init : ByteArray := prog_11_method_1_code
def yX9_init : MethodName := ⟨RX9, "<init>", "(I)V"⟩
abbrev cX9_kind : ByteArray := prog_11_method_2_code
def yX9_kind : MethodName := ⟨RX9, "kind", "()I"⟩
abbrev cX9_skill : ByteArray := prog_11_method_3_code
def yX9_skill : MethodName := ⟨RX9, "skill", "()I"⟩
abbrev cX9_countsWith : ByteArray := prog_11_method_4_code
def yX9_countsWith : MethodName := ⟨RX9, "countsWith", "(I)Z"⟩
abbrev cX9_cost : ByteArray := prog_11_method_5_code
def yX9_cost : MethodName := ⟨RX9, "cost", "()I"⟩
def RX10 : String := "OneBeatsBoth"
def TX10 : u_T := fun k => match k with
  | 0 => ("OneBeatsBoth", "plain", "LOneBeatsBoth$Player;", true)
  | 1 => ("OneBeatsBoth", "now", "LOneBeatsBoth$League;", true)
  | 2 => ("OneBeatsBoth", "draft", "LOneBeatsBoth$League;", true)
  | 3 => ("OneBeatsBoth", "pictured", "LOneBeatsBoth$League;", true)
  | 4 => ("OneBeatsBoth", "hasImage", "Z", false)
  | 5 => ("OneBeatsBoth", "peopleOnShelves", "[LOneBeatsBoth$Player;", true)
  | 6 => ("OneBeatsBoth", "rowsOnShelves", "[LOneBeatsBoth$Row;", true)
  | _ => ("OneBeatsBoth", "told", "[I", true)
def tyX10 : Nat → FieldType := fun k => match k with
  | 0 => .object "OneBeatsBoth$Player"
  | 1 => .object "OneBeatsBoth$League"
  | 2 => .object "OneBeatsBoth$League"
  | 3 => .object "OneBeatsBoth$League"
  | 4 => .boolean
  | 5 => .array (.object "OneBeatsBoth$Player")
  | 6 => .array (.object "OneBeatsBoth$Row")
  | _ => .array .int
abbrev wsX100 : List Cond := u_ws RX10 TX10 8
theorem nmX10 : ∀ a, a < 8 → ∀ b, b < 8 → a ≠ b → (TX10 a).2.1 ≠ (TX10 b).2.1 := by decide +kernel
theorem tyX10_ok : ∀ k, k < 8 → parseFieldDescriptor (TX10 k).2.2.1 = some (tyX10 k) := by decide +kernel
abbrev cX10_init : ByteArray := prog_1_method_1_code
def yX10_init : MethodName := ⟨RX10, "<init>", "()V"⟩
abbrev cX10_league : ByteArray := prog_1_method_2_code
def yX10_league : MethodName := ⟨RX10, "league", "(I)I"⟩
abbrev cX10_one : ByteArray := prog_1_method_3_code
def yX10_one : MethodName := ⟨RX10, "one", "(II)I"⟩
abbrev cX10_comes : ByteArray := prog_1_method_4_code
def yX10_comes : MethodName := ⟨RX10, "comes", "(I)I"⟩
abbrev cX10_beat : ByteArray := prog_1_method_5_code
def yX10_beat : MethodName := ⟨RX10, "beat", "(II)I"⟩
abbrev cX10_law : ByteArray := prog_1_method_6_code
def yX10_law : MethodName := ⟨RX10, "law", "(I)I"⟩
abbrev cX10_lawful : ByteArray := prog_1_method_7_code
def yX10_lawful : MethodName := ⟨RX10, "lawful", "()I"⟩
abbrev cX10_masters : ByteArray := prog_1_method_8_code
def yX10_masters : MethodName := ⟨RX10, "masters", "(II)I"⟩
abbrev cX10_orphans : ByteArray := prog_1_method_9_code
def yX10_orphans : MethodName := ⟨RX10, "orphans", "(I)I"⟩
abbrev cX10_holding : ByteArray := prog_1_method_10_code
def yX10_holding : MethodName := ⟨RX10, "holding", "()I"⟩
abbrev cX10_free : ByteArray := prog_1_method_11_code
def yX10_free : MethodName := ⟨RX10, "free", "()I"⟩
abbrev cX10_rings : ByteArray := prog_1_method_12_code
def yX10_rings : MethodName := ⟨RX10, "rings", "()I"⟩
abbrev cX10_cup : ByteArray := prog_1_method_13_code
def yX10_cup : MethodName := ⟨RX10, "cup", "()I"⟩
abbrev cX10_right : ByteArray := prog_1_method_14_code
def yX10_right : MethodName := ⟨RX10, "right", "()I"⟩
abbrev cX10_cheapest : ByteArray := prog_1_method_15_code
def yX10_cheapest : MethodName := ⟨RX10, "cheapest", "()I"⟩
abbrev cX10_fresh : ByteArray := prog_1_method_16_code
def yX10_fresh : MethodName := ⟨RX10, "fresh", "(III)I"⟩
abbrev cX10_leavers : ByteArray := prog_1_method_17_code
def yX10_leavers : MethodName := ⟨RX10, "leavers", "()I"⟩
abbrev cX10_odds : ByteArray := prog_1_method_18_code
def yX10_odds : MethodName := ⟨RX10, "odds", "(I)J"⟩
abbrev cX10_ways : ByteArray := prog_1_method_19_code
def yX10_ways : MethodName := ⟨RX10, "ways", "(II)I"⟩
abbrev cX10_round : ByteArray := prog_1_method_20_code
def yX10_round : MethodName := ⟨RX10, "round", "(III)I"⟩
abbrev cX10_byRounds : ByteArray := prog_1_method_21_code
def yX10_byRounds : MethodName := ⟨RX10, "byRounds", "(II)I"⟩
abbrev cX10_played : ByteArray := prog_1_method_22_code
def yX10_played : MethodName := ⟨RX10, "played", "(I)I"⟩
abbrev cX10_seeded : ByteArray := prog_1_method_23_code
def yX10_seeded : MethodName := ⟨RX10, "seeded", "(II)I"⟩
abbrev cX10_judge : ByteArray := prog_1_method_24_code
def yX10_judge : MethodName := ⟨RX10, "judge", "(I)I"⟩
abbrev cX10_image : ByteArray := prog_1_method_25_code
def yX10_image : MethodName := ⟨RX10, "image", "()I"⟩
abbrev cX10_restore : ByteArray := prog_1_method_26_code
def yX10_restore : MethodName := ⟨RX10, "restore", "()I"⟩
abbrev cX10_count : ByteArray := prog_1_method_27_code
def yX10_count : MethodName := ⟨RX10, "count", "(I)I"⟩
abbrev cX10_keep : ByteArray := prog_1_method_28_code
def yX10_keep : MethodName := ⟨RX10, "keep", "(IIII)I"⟩
abbrev cX10_row : ByteArray := prog_1_method_29_code
def yX10_row : MethodName := ⟨RX10, "row", "(III)I"⟩
abbrev cX10_put : ByteArray := prog_1_method_30_code
def yX10_put : MethodName := ⟨RX10, "put", "(III)I"⟩
abbrev cX10_element : ByteArray := prog_1_method_31_code
def yX10_element : MethodName := ⟨RX10, "element", "(II)J"⟩
abbrev cX10_copy : ByteArray := prog_1_method_32_code
def yX10_copy : MethodName := ⟨RX10, "copy", "(IIIII)I"⟩
abbrev cX10_price : ByteArray := prog_1_method_33_code
def yX10_price : MethodName := ⟨RX10, "price", "(I)I"⟩
abbrev cX10_toss : ByteArray := prog_1_method_34_code
def yX10_toss : MethodName := ⟨RX10, "toss", "(I)I"⟩
abbrev cX10_isLaw : ByteArray := prog_1_method_35_code
def yX10_isLaw : MethodName := ⟨RX10, "isLaw", "(I)Z"⟩
abbrev cX10_isPerson : ByteArray := prog_1_method_36_code
def yX10_isPerson : MethodName := ⟨RX10, "isPerson", "(II)Z"⟩
abbrev cX10_isShelf : ByteArray := prog_1_method_37_code
def yX10_isShelf : MethodName := ⟨RX10, "isShelf", "(I)Z"⟩
abbrev cX10_isRing : ByteArray := prog_1_method_38_code
def yX10_isRing : MethodName := ⟨RX10, "isRing", "(I)Z"⟩
abbrev cX10_newPerson : ByteArray := prog_1_method_39_code
def yX10_newPerson : MethodName := ⟨RX10, "newPerson", "(II)LOneBeatsBoth$Player;"⟩
abbrev cX10_isBare : ByteArray := prog_1_method_40_code
def yX10_isBare : MethodName := ⟨RX10, "isBare", "(I)Z"⟩
abbrev cX10_personOn : ByteArray := prog_1_method_41_code
def yX10_personOn : MethodName := ⟨RX10, "personOn", "(I)LOneBeatsBoth$Player;"⟩
abbrev cX10_rowOn : ByteArray := prog_1_method_42_code
def yX10_rowOn : MethodName := ⟨RX10, "rowOn", "(I)LOneBeatsBoth$Row;"⟩
abbrev cX10_bytesOn : ByteArray := prog_1_method_43_code
def yX10_bytesOn : MethodName := ⟨RX10, "bytesOn", "(I)LOneBeatsBoth$Row;"⟩
abbrev cX10_whyNotOn : ByteArray := prog_1_method_44_code
def yX10_whyNotOn : MethodName := ⟨RX10, "whyNotOn", "(I)I"⟩
abbrev cX10_digitsBehind : ByteArray := prog_1_method_45_code
def yX10_digitsBehind : MethodName := ⟨RX10, "digitsBehind", "(I)I"⟩
abbrev cX10_brokenPlace : ByteArray := prog_1_method_46_code
def yX10_brokenPlace : MethodName := ⟨RX10, "brokenPlace", "(LOneBeatsBoth$Row;)I"⟩
abbrev cX10_draftFollows : ByteArray := prog_1_method_47_code
def yX10_draftFollows : MethodName := ⟨RX10, "draftFollows", "(III)Z"⟩
abbrev cX10_lawfulTurns : ByteArray := prog_1_method_48_code
def yX10_lawfulTurns : MethodName := ⟨RX10, "lawfulTurns", "()I"⟩
abbrev cX10_leastToTurn : ByteArray := prog_1_method_49_code
def yX10_leastToTurn : MethodName := ⟨RX10, "leastToTurn", "(LOneBeatsBoth$League;IIZ)I"⟩
abbrev cX10_clearTold : ByteArray := prog_1_method_50_code
def yX10_clearTold : MethodName := ⟨RX10, "clearTold", "()V"⟩
abbrev cX10_lawfulWaysAsTold : ByteArray := prog_1_method_51_code
def yX10_lawfulWaysAsTold : MethodName := ⟨RX10, "lawfulWaysAsTold", "()I"⟩
abbrev cX10_commonDivisor : ByteArray := prog_1_method_52_code
def yX10_commonDivisor : MethodName := ⟨RX10, "commonDivisor", "(JJ)J"⟩
abbrev cX10_isHalfOfDifferences : ByteArray := prog_1_method_53_code
def yX10_isHalfOfDifferences : MethodName := ⟨RX10, "isHalfOfDifferences", "(II)Z"⟩
abbrev cX10_setWithUpperHalf : ByteArray := prog_1_method_54_code
def yX10_setWithUpperHalf : MethodName := ⟨RX10, "setWithUpperHalf", "(II)I"⟩
abbrev cX10_isLawfulRing : ByteArray := prog_1_method_55_code
def yX10_isLawfulRing : MethodName := ⟨RX10, "isLawfulRing", "(III)Z"⟩
def RX11 : String := "OneBeatsBothModel"
def TX11 : u_T := fun k => match k with
  | 0 => ("OneBeatsBothModel", "s", "[I", true)
  | 1 => ("OneBeatsBothModel", "image", "[I", true)
  | 2 => ("OneBeatsBothModel", "read", "[I", true)
  | 3 => ("OneBeatsBothModel", "mind", "[I", true)
  | 4 => ("OneBeatsBothModel", "kept", "[I", true)
  | 5 => ("OneBeatsBothModel", "sort", "[I", true)
  | 6 => ("OneBeatsBothModel", "size", "[I", true)
  | 7 => ("OneBeatsBothModel", "element", "[I", true)
  | 8 => ("OneBeatsBothModel", "keptKind", "[I", true)
  | 9 => ("OneBeatsBothModel", "keptFigure", "[I", true)
  | 10 => ("OneBeatsBothModel", "hasImage", "Z", false)
  | 11 => ("OneBeatsBothModel", "thrown", "I", false)
  | 12 => ("OneBeatsBothModel", "pos", "I", false)
  | 13 => ("OneBeatsBothModel", "base", "I", false)
  | 14 => ("OneBeatsBothModel", "end", "I", false)
  | 15 => ("OneBeatsBothModel", "numbers", "[I", true)
  | 16 => ("OneBeatsBothModel", "leastTurned", "I", false)
  | 17 => ("OneBeatsBothModel", "leastPrice", "I", false)
  | _ => ("OneBeatsBothModel", "seed", "I", false)
def tyX11 : Nat → FieldType := fun k => match k with
  | 0 => .array .int
  | 1 => .array .int
  | 2 => .array .int
  | 3 => .array .int
  | 4 => .array .int
  | 5 => .array .int
  | 6 => .array .int
  | 7 => .array .int
  | 8 => .array .int
  | 9 => .array .int
  | 10 => .boolean
  | 11 => .int
  | 12 => .int
  | 13 => .int
  | 14 => .int
  | 15 => .array .int
  | 16 => .int
  | 17 => .int
  | _ => .int
abbrev wsX110 : List Cond := u_ws RX11 TX11 19
theorem nmX11 : ∀ a, a < 19 → ∀ b, b < 19 → a ≠ b → (TX11 a).2.1 ≠ (TX11 b).2.1 := by decide +kernel
theorem tyX11_ok : ∀ k, k < 19 → parseFieldDescriptor (TX11 k).2.2.1 = some (tyX11 k) := by decide +kernel
abbrev cX11_init : ByteArray := prog_13_method_1_code
def yX11_init : MethodName := ⟨RX11, "<init>", "()V"⟩
abbrev cX11_thrown : ByteArray := prog_13_method_2_code
def yX11_thrown : MethodName := ⟨RX11, "thrown", "()I"⟩
abbrev cX11_isIn : ByteArray := prog_13_method_3_code
def yX11_isIn : MethodName := ⟨RX11, "isIn", "(JJJ)Z"⟩
abbrev cX11_isShelf : ByteArray := prog_13_method_4_code
def yX11_isShelf : MethodName := ⟨RX11, "isShelf", "(I)Z"⟩
abbrev cX11_isLaw : ByteArray := prog_13_method_5_code
def yX11_isLaw : MethodName := ⟨RX11, "isLaw", "(I)Z"⟩
abbrev cX11_isOne : ByteArray := prog_13_method_6_code
def yX11_isOne : MethodName := ⟨RX11, "isOne", "(I)Z"⟩
abbrev cX11_areTwo : ByteArray := prog_13_method_7_code
def yX11_areTwo : MethodName := ⟨RX11, "areTwo", "(II)Z"⟩
abbrev cX11_lays : ByteArray := prog_13_method_8_code
def yX11_lays : MethodName := ⟨RX11, "lays", "([I[I)V"⟩
abbrev cX11_begins : ByteArray := prog_13_method_9_code
def yX11_begins : MethodName := ⟨RX11, "begins", "()V"⟩
abbrev cX11_ends : ByteArray := prog_13_method_10_code
def yX11_ends : MethodName := ⟨RX11, "ends", "()V"⟩
abbrev cX11_kind : ByteArray := prog_13_method_11_code
def yX11_kind : MethodName := ⟨RX11, "kind", "(I)I"⟩
abbrev cX11_figure : ByteArray := prog_13_method_12_code
def yX11_figure : MethodName := ⟨RX11, "figure", "(I)I"⟩
abbrev cX11_beaten : ByteArray := prog_13_method_13_code
def yX11_beaten : MethodName := ⟨RX11, "beaten", "(I)I"⟩
abbrev cX11_puts : ByteArray := prog_13_method_14_code
def yX11_puts : MethodName := ⟨RX11, "puts", "(III)V"⟩
abbrev cX11_bits : ByteArray := prog_13_method_15_code
def yX11_bits : MethodName := ⟨RX11, "bits", "(I)I"⟩
abbrev cX11_skillBy : ByteArray := prog_13_method_17_code
def yX11_skillBy : MethodName := ⟨RX11, "skillBy", "(II)I"⟩
abbrev cX11_priceBy : ByteArray := prog_13_method_18_code
def yX11_priceBy : MethodName := ⟨RX11, "priceBy", "(II)I"⟩
abbrev cX11_counts : ByteArray := prog_13_method_19_code
def yX11_counts : MethodName := ⟨RX11, "counts", "(I)Z"⟩
abbrev cX11_skill : ByteArray := prog_13_method_20_code
def yX11_skill : MethodName := ⟨RX11, "skill", "(I)I"⟩
abbrev cX11_beats : ByteArray := prog_13_method_21_code
def yX11_beats : MethodName := ⟨RX11, "beats", "(II)V"⟩
abbrev cX11_turns : ByteArray := prog_13_method_22_code
def yX11_turns : MethodName := ⟨RX11, "turns", "(II)V"⟩
abbrev cX11_mastersOf : ByteArray := prog_13_method_23_code
def yX11_mastersOf : MethodName := ⟨RX11, "mastersOf", "(I)I"⟩
abbrev cX11_isLawful : ByteArray := prog_13_method_24_code
def yX11_isLawful : MethodName := ⟨RX11, "isLawful", "()Z"⟩
abbrev cX11_here : ByteArray := prog_13_method_25_code
def yX11_here : MethodName := ⟨RX11, "here", "()I"⟩
abbrev cX11_readsDigits : ByteArray := prog_13_method_26_code
def yX11_readsDigits : MethodName := ⟨RX11, "readsDigits", "(I)Z"⟩
abbrev cX11_readsStatement : ByteArray := prog_13_method_27_code
def yX11_readsStatement : MethodName := ⟨RX11, "readsStatement", "()Z"⟩
abbrev cX11_joins : ByteArray := prog_13_method_28_code
def yX11_joins : MethodName := ⟨RX11, "joins", "(II)V"⟩
abbrev cX11_adds : ByteArray := prog_13_method_29_code
def yX11_adds : MethodName := ⟨RX11, "adds", "(II)Z"⟩
abbrev cX11_leaves : ByteArray := prog_13_method_30_code
def yX11_leaves : MethodName := ⟨RX11, "leaves", "(I)V"⟩
abbrev cX11_comesTold : ByteArray := prog_13_method_31_code
def yX11_comesTold : MethodName := ⟨RX11, "comesTold", "(I)Z"⟩
abbrev cX11_wrongRow : ByteArray := prog_13_method_32_code
def yX11_wrongRow : MethodName := ⟨RX11, "wrongRow", "(II)I"⟩
abbrev cX11_league : ByteArray := prog_13_method_33_code
def yX11_league : MethodName := ⟨RX11, "league", "(I)I"⟩
abbrev cX11_one : ByteArray := prog_13_method_34_code
def yX11_one : MethodName := ⟨RX11, "one", "(II)I"⟩
abbrev cX11_wrongKept : ByteArray := prog_13_method_35_code
def yX11_wrongKept : MethodName := ⟨RX11, "wrongKept", "(I)I"⟩
abbrev cX11_comes : ByteArray := prog_13_method_36_code
def yX11_comes : MethodName := ⟨RX11, "comes", "(I)I"⟩
abbrev cX11_beat : ByteArray := prog_13_method_37_code
def yX11_beat : MethodName := ⟨RX11, "beat", "(II)I"⟩
abbrev cX11_law : ByteArray := prog_13_method_38_code
def yX11_law : MethodName := ⟨RX11, "law", "(I)I"⟩
abbrev cX11_lawful : ByteArray := prog_13_method_39_code
def yX11_lawful : MethodName := ⟨RX11, "lawful", "()I"⟩
abbrev cX11_masters : ByteArray := prog_13_method_40_code
def yX11_masters : MethodName := ⟨RX11, "masters", "(II)I"⟩
abbrev cX11_orphans : ByteArray := prog_13_method_41_code
def yX11_orphans : MethodName := ⟨RX11, "orphans", "(I)I"⟩
abbrev cX11_turnedTo : ByteArray := prog_13_method_42_code
def yX11_turnedTo : MethodName := ⟨RX11, "turnedTo", "(Z)I"⟩
abbrev cX11_holding : ByteArray := prog_13_method_43_code
def yX11_holding : MethodName := ⟨RX11, "holding", "()I"⟩
abbrev cX11_free : ByteArray := prog_13_method_44_code
def yX11_free : MethodName := ⟨RX11, "free", "()I"⟩
abbrev cX11_rings : ByteArray := prog_13_method_45_code
def yX11_rings : MethodName := ⟨RX11, "rings", "()I"⟩
abbrev cX11_cup : ByteArray := prog_13_method_46_code
def yX11_cup : MethodName := ⟨RX11, "cup", "()I"⟩
abbrev cX11_tries : ByteArray := prog_13_method_47_code
def yX11_tries : MethodName := ⟨RX11, "tries", "(III)V"⟩
abbrev cX11_putsRight : ByteArray := prog_13_method_48_code
def yX11_putsRight : MethodName := ⟨RX11, "putsRight", "()V"⟩
abbrev cX11_right : ByteArray := prog_13_method_49_code
def yX11_right : MethodName := ⟨RX11, "right", "()I"⟩
abbrev cX11_cheapest : ByteArray := prog_13_method_50_code
def yX11_cheapest : MethodName := ⟨RX11, "cheapest", "()I"⟩
abbrev cX11_fresh : ByteArray := prog_13_method_51_code
def yX11_fresh : MethodName := ⟨RX11, "fresh", "(III)I"⟩
abbrev cX11_leavers : ByteArray := prog_13_method_52_code
def yX11_leavers : MethodName := ⟨RX11, "leavers", "()I"⟩
abbrev cX11_plays : ByteArray := prog_13_method_53_code
def yX11_plays : MethodName := ⟨RX11, "plays", "(I)V"⟩
abbrev cX11_matches : ByteArray := prog_13_method_54_code
def yX11_matches : MethodName := ⟨RX11, "matches", "()I"⟩
abbrev cX11_weightNow : ByteArray := prog_13_method_55_code
def yX11_weightNow : MethodName := ⟨RX11, "weightNow", "()J"⟩
abbrev cX11_common : ByteArray := prog_13_method_56_code
def yX11_common : MethodName := ⟨RX11, "common", "(JJ)J"⟩
abbrev cX11_odds : ByteArray := prog_13_method_57_code
def yX11_odds : MethodName := ⟨RX11, "odds", "(I)J"⟩
abbrev cX11_ways : ByteArray := prog_13_method_58_code
def yX11_ways : MethodName := ⟨RX11, "ways", "(II)I"⟩
abbrev cX11_isRound : ByteArray := prog_13_method_59_code
def yX11_isRound : MethodName := ⟨RX11, "isRound", "(I)Z"⟩
abbrev cX11_isSet : ByteArray := prog_13_method_60_code
def yX11_isSet : MethodName := ⟨RX11, "isSet", "(II)Z"⟩
abbrev cX11_areBeaten : ByteArray := prog_13_method_61_code
def yX11_areBeaten : MethodName := ⟨RX11, "areBeaten", "(III)Z"⟩
abbrev cX11_isRoundWell : ByteArray := prog_13_method_62_code
def yX11_isRoundWell : MethodName := ⟨RX11, "isRoundWell", "(III)Z"⟩
abbrev cX11_round : ByteArray := prog_13_method_63_code
def yX11_round : MethodName := ⟨RX11, "round", "(III)I"⟩
abbrev cX11_byRounds : ByteArray := prog_13_method_64_code
def yX11_byRounds : MethodName := ⟨RX11, "byRounds", "(II)I"⟩
abbrev cX11_told : ByteArray := prog_13_method_65_code
def yX11_told : MethodName := ⟨RX11, "told", "(II)I"⟩
abbrev cX11_isAsPlayed : ByteArray := prog_13_method_66_code
def yX11_isAsPlayed : MethodName := ⟨RX11, "isAsPlayed", "(I)Z"⟩
abbrev cX11_played : ByteArray := prog_13_method_67_code
def yX11_played : MethodName := ⟨RX11, "played", "(I)I"⟩
abbrev cX11_drawn : ByteArray := prog_13_method_68_code
def yX11_drawn : MethodName := ⟨RX11, "drawn", "(I)I"⟩
abbrev cX11_seeded : ByteArray := prog_13_method_69_code
def yX11_seeded : MethodName := ⟨RX11, "seeded", "(II)I"⟩
abbrev cX11_wrongThree : ByteArray := prog_13_method_70_code
def yX11_wrongThree : MethodName := ⟨RX11, "wrongThree", "(II)I"⟩
abbrev cX11_judge : ByteArray := prog_13_method_71_code
def yX11_judge : MethodName := ⟨RX11, "judge", "(I)I"⟩
abbrev cX11_image : ByteArray := prog_13_method_72_code
def yX11_image : MethodName := ⟨RX11, "image", "()I"⟩
abbrev cX11_restore : ByteArray := prog_13_method_73_code
def yX11_restore : MethodName := ⟨RX11, "restore", "()I"⟩
abbrev cX11_count : ByteArray := prog_13_method_74_code
def yX11_count : MethodName := ⟨RX11, "count", "(I)I"⟩
abbrev cX11_keep : ByteArray := prog_13_method_75_code
def yX11_keep : MethodName := ⟨RX11, "keep", "(IIII)I"⟩
abbrev cX11_row : ByteArray := prog_13_method_76_code
def yX11_row : MethodName := ⟨RX11, "row", "(III)I"⟩
abbrev cX11_put : ByteArray := prog_13_method_77_code
def yX11_put : MethodName := ⟨RX11, "put", "(III)I"⟩
abbrev cX11_element : ByteArray := prog_13_method_78_code
def yX11_element : MethodName := ⟨RX11, "element", "(II)J"⟩
abbrev cX11_copy : ByteArray := prog_13_method_79_code
def yX11_copy : MethodName := ⟨RX11, "copy", "(IIIII)I"⟩
abbrev cX11_price : ByteArray := prog_13_method_80_code
def yX11_price : MethodName := ⟨RX11, "price", "(I)I"⟩
abbrev cX11_toss : ByteArray := prog_13_method_81_code
def yX11_toss : MethodName := ⟨RX11, "toss", "(I)I"⟩
def RJ6 : String := "java/lang/Integer"
def TJ6 : u_T := fun k => match k with
  | _ => ("", "", "", false)
def tyJ6 : Nat → FieldType := fun k => match k with
  | _ => .int
abbrev wsJ60 : List Cond := u_ws RJ6 TJ6 0
theorem nmJ6 : ∀ a, a < 0 → ∀ b, b < 0 → a ≠ b → (TJ6 a).2.1 ≠ (TJ6 b).2.1 := by decide +kernel
theorem tyJ6_ok : ∀ k, k < 0 → parseFieldDescriptor (TJ6 k).2.2.1 = some (tyJ6 k) := by decide +kernel
abbrev cJ6_bitCount_0f7a4 : ByteArray := prog_17_method_49_code
def yJ6_bitCount_0f7a4 : MethodName := ⟨RJ6, "bitCount", "(I)I"⟩
def RJ0 : String := "java/lang/String"
def TJ0 : u_T := fun k => match k with
  | _ => ("", "", "", false)
def tyJ0 : Nat → FieldType := fun k => match k with
  | _ => .int
abbrev wsJ00 : List Cond := u_ws RJ0 TJ0 0
theorem nmJ0 : ∀ a, a < 0 → ∀ b, b < 0 → a ≠ b → (TJ0 a).2.1 ≠ (TJ0 b).2.1 := by decide +kernel
theorem tyJ0_ok : ∀ k, k < 0 → parseFieldDescriptor (TJ0 k).2.2.1 = some (tyJ0 k) := by decide +kernel
def RJ10 : String := "java/lang/System"
def TJ10 : u_T := fun k => match k with
  | _ => ("", "", "", false)
def tyJ10 : Nat → FieldType := fun k => match k with
  | _ => .int
abbrev wsJ100 : List Cond := u_ws RJ10 TJ10 0
theorem nmJ10 : ∀ a, a < 0 → ∀ b, b < 0 → a ≠ b → (TJ10 a).2.1 ≠ (TJ10 b).2.1 := by decide +kernel
theorem tyJ10_ok : ∀ k, k < 0 → parseFieldDescriptor (TJ10 k).2.2.1 = some (tyJ10 k) := by decide +kernel
def RL : String := "OneBeatsBothLaw"
abbrev cL_element : ByteArray := method_3_code
def yL_element : MethodName := ⟨RL, "element", "(LOneBeatsBoth;II[J)I"⟩
abbrev cL_law : ByteArray := code
def yL_law : MethodName := ⟨RL, "law", "([I)Z"⟩
abbrev vwCl : List vw_C := [(RX0, TX0, 1), (RX1, TX1, 1), (RX2, TX2, 4), (RX3, TX3, 1), (RX4, TX4, 1), (RX5, TX5, 1), (RX6, TX6, 1), (RX7, TX7, 1), (RX8, TX8, 2), (RX9, TX9, 1), (RX10, TX10, 8), (RX11, TX11, 19)]
end
section
/-! words that the class changes with: links to private members of a nest mate, castable classes, arrays over a class -/
def NWs : List Cond := [.fieldLinkNest "OneBeatsBoth$League" 38 "OneBeatsBoth" "LESSER" "[I" "OneBeatsBoth", .fieldLinkNest "OneBeatsBoth$League" 41 "OneBeatsBoth" "GREATER" "[I" "OneBeatsBoth", .castable "OneBeatsBoth$Champion" "OneBeatsBoth$Player", .castable "OneBeatsBoth$Guest" "OneBeatsBoth$Player", .castable "OneBeatsBoth$Novice" "OneBeatsBoth$Player", .castable "OneBeatsBoth$Nuisance" "OneBeatsBoth$Player", .castable "OneBeatsBoth$Paid" "OneBeatsBoth$Player", .castable "OneBeatsBoth$Priest" "OneBeatsBoth$Player", .castable "OneBeatsBoth$Twin" "OneBeatsBoth$Player", .arrayOver (.object "OneBeatsBoth$Player"), .arrayOver (.object "OneBeatsBoth$Row")]
end
section
/-! THE CORE: a judgement J over W in which the heap is held by one map HS (address to object or array), blocks of plain instructions run by a function -/
def WT : List Cond := lw_tbl.filter goodWord
theorem wt_in {w : Cond} (h : w ∈ lw_tbl) (g : goodWord w = true) : w ∈ WT := List.mem_filter.mpr ⟨h, g⟩
theorem wt_good : ∀ w ∈ WT, (w.onTables && w.keeps) = true ∨ ∃ ty, w = .arrayClass ty := fun _ h => good_of_word (List.mem_filter.mp h).2
theorem wt_goodIn {y : MethodName} {b : ByteArray} {n : Nat} {r : Option FieldType} (h : Cond.code y b n r ∈ WT) : GoodIn WT (Cond.code y b n r :: WT) := by
  intro w hw
  rcases List.mem_cons.mp hw with rfl | hw
  · exact ⟨h, wt_good _ h⟩
  · exact ⟨hw, wt_good _ hw⟩
-- the classes and arrays of the tables: class ids, slots, the int array's class, the classes of the two arrays of references, the two tables' addresses
abbrev KP : Type := (Nat → ClassId) × (Nat → Nat → Nat) × ClassId × (Nat → ClassId) × Nat × Nat × Bool
abbrev kD (κ : KP) : va_G := (κ.1, κ.2.1)
abbrev kI (κ : KP) : ClassId := κ.2.2.1
abbrev kR (κ : KP) : Nat → ClassId := κ.2.2.2.1
abbrev kL (κ : KP) : Nat := κ.2.2.2.2.1
abbrev kG (κ : KP) : Nat := κ.2.2.2.2.2.1
/-- may cells be made -/
abbrev kF (κ : KP) : Bool := κ.2.2.2.2.2.2
abbrev rK0 : String := "OneBeatsBoth$Player"
abbrev rK1 : String := "OneBeatsBoth$Row"
abbrev rKt (t : Nat) : String := match t with
  | 0 => rK0
  | _ => rK1
abbrev kT (κ : KP) : List (ClassId × FieldType) := [(kI κ, .int), (kR κ 0, .object rK0), (kR κ 1, .object rK1)]
def tbL (j : Nat) : Int32 := ([0, 0, 1, 0, 1, 2, 0, 1, 2, 3, 0, 1, 2, 3, 4, 0, 1, 2, 3, 4, 5, 0, 1, 2, 3, 4, 5, 6] : List Int32).getD j 0
def tbG (j : Nat) : Int32 := ([1, 2, 2, 3, 3, 3, 4, 4, 4, 4, 5, 5, 5, 5, 5, 6, 6, 6, 6, 6, 6, 7, 7, 7, 7, 7, 7, 7] : List Int32).getD j 0
/-- words that aren't of the steady kinds, but stay all the same -/
def nwK (w : Cond) : Prop := (∃ a i b n d h, w = .fieldLinkNest a i b n d h) ∨ (∃ C T, w = .castable C T) ∨ ∃ C, w = .arrayOver (.object C)
theorem nws_k : ∀ w ∈ NWs, nwK w := by
  unfold NWs
  exact List.forall_mem_cons.mpr ⟨Or.inl ⟨_, _, _, _, _, _, rfl⟩, List.forall_mem_cons.mpr ⟨Or.inl ⟨_, _, _, _, _, _, rfl⟩, List.forall_mem_cons.mpr ⟨Or.inr (Or.inl ⟨_, _, rfl⟩), List.forall_mem_cons.mpr ⟨Or.inr (Or.inl ⟨_, _, rfl⟩), List.forall_mem_cons.mpr ⟨Or.inr (Or.inl ⟨_, _, rfl⟩), List.forall_mem_cons.mpr ⟨Or.inr (Or.inl ⟨_, _, rfl⟩), List.forall_mem_cons.mpr ⟨Or.inr (Or.inl ⟨_, _, rfl⟩), List.forall_mem_cons.mpr ⟨Or.inr (Or.inl ⟨_, _, rfl⟩), List.forall_mem_cons.mpr ⟨Or.inr (Or.inl ⟨_, _, rfl⟩), List.forall_mem_cons.mpr ⟨Or.inr (Or.inr ⟨_, rfl⟩), List.forall_mem_cons.mpr ⟨Or.inr (Or.inr ⟨_, rfl⟩), fun _ h => absurd h List.not_mem_nil⟩⟩⟩⟩⟩⟩⟩⟩⟩⟩⟩
theorem nw_warm {w : Cond} {s U : State} (hk : nwK w) (hW : s.WarmedH U.vm) (h : va_Nw w s) : va_Nw w U := by
  rcases hk with ⟨a, i, b, n, d, h', rfl⟩ | ⟨C, T, rfl⟩ | ⟨C, rfl⟩
  · exact va_Nw.warmF hW h
  · exact va_Nw.warmC hW h
  · exact va_AO.moved hW.alike h
theorem nw_same {w : Cond} {u U : State} (hk : nwK w) (he : u.vm = U.vm) (h : va_Nw w u) : va_Nw w U := by
  rcases hk with ⟨a, i, b, n, d, h', rfl⟩ | ⟨C, T, rfl⟩ | ⟨C, rfl⟩
  · exact va_Nw.same rfl he h
  · exact va_Nw.same rfl he h
  · exact va_AO.moved (by rw [he]; exact Vm.Alike.refl _) h
theorem nw_use {w : Cond} {A : Array Value} {U : State} (hk : nwK w) (h : va_Nw w U) : w.before A U = true := by
  rcases hk with ⟨a, i, b, n, d, h', rfl⟩ | ⟨C, T, rfl⟩ | ⟨C, rfl⟩
  · exact va_Nw.use rfl h
  · exact va_Nw.use rfl h
  · exact va_AO.use h
theorem nw_of {w : Cond} {A : Array Value} {U : State} (hk : nwK w) (h : w.before A U = true) : va_Nw w U := by
  rcases hk with ⟨a, i, b, n, d, h', rfl⟩ | ⟨C, T, rfl⟩ | ⟨C, rfl⟩
  · exact va_Nw.of rfl h
  · exact va_Nw.of rfl h
  · exact va_AO.of h
def KX (κ : KP) (A : Nat → Prop) (U : State) : Prop :=
  va_K (kD κ) vwCl (kT κ) U ∧ va_Z "OneBeatsBoth" "LESSER" "[I" (.ref (kL κ)) A U U.heap ∧ va_Z "OneBeatsBoth" "GREATER" "[I" (.ref (kG κ)) A U U.heap ∧
  va_T .int (kL κ) 28 (fun j => .int (tbL j)) A U U.heap ∧ va_T .int (kG κ) 28 (fun j => .int (tbG j)) A U U.heap ∧ ∀ w ∈ NWs, va_Nw w U
theorem KX_go {κ : KP} {A : Nat → Prop} {s U : State} {H : Heap} {locs : List Loc} (h : KX κ A s) (hS : va_S A s.heap H locs) (hU : U.heap = H) (hW : s.WarmedH U.vm) : KX κ A U := by
  obtain ⟨h1, h2, h3, h4, h5, h6⟩ := h
  have hq : ∀ a : Nat, a < s.heap.size → ¬ A a → U.heap[a]? = s.heap[a]? := by rw [hU]; exact hS.2.1
  exact ⟨va_K.moved hW.alike h1, (va_Z.moved hW.alike h2).kept hq, (va_Z.moved hW.alike h3).kept hq, (va_T.moved hW.alike h4).kept hq, (va_T.moved hW.alike h5).kept hq, fun w hw => nw_warm (nws_k w hw) hW (h6 w hw)⟩
theorem KX_up {κ : KP} {A B : Nat → Prop} {U : State} (h : KX κ A U) (hAB : ∀ q, B q → A q) : KX κ B U := by
  obtain ⟨h1, h2, h3, h4, h5, h6⟩ := h
  exact ⟨h1, h2.narrow hAB, h3.narrow hAB, h4.narrow hAB, h5.narrow hAB, h6⟩
/-- a method's start: arguments, heap, tables; what may be written is all that comes -/
def PP (κ : KP) (A : Nat → Prop) (av : List Value) (HP : Heap → Prop) : Array Value → State → Prop := fun v U => v = av.toArray ∧ HP U.heap ∧ KX κ A U
theorem PP_blind {κ : KP} {A : Nat → Prop} {av : List Value} {HP : Heap → Prop} : FrameBlind (PP κ A av HP) := by
  intro a U g mk h
  obtain ⟨h1, h2, ⟨k1, k2, k3, k4, k5, k6⟩⟩ := h
  have hal : U.vm.Alike (U.calling g mk a).vm := Vm.Alike.refl U.vm
  exact ⟨h1, h2, ⟨va_K.moved hal k1, va_Z.moved hal k2, va_Z.moved hal k3, va_T.moved hal k4, va_T.moved hal k5, fun w hw => nw_same (u := U) (nws_k w hw) rfl (k6 w hw)⟩⟩
def QQ (o : Option Value) (HP : Heap → Prop) (A : Nat → Prop) : Array Value → State → Outcome → State → Prop := fun _ st oc t => oc = .returned o ∧ HP t.heap ∧ va_F A st t
-- a method's fixed part
abbrev JC : Type := (Program × Launch × Jvm.Env × Room) × (State × MethodId × Array Value × List Frame) × (Method × Code) × ((Nat → Prop) × (State → Prop))
abbrev jP (Γ : JC) := Γ.1.1
abbrev jL (Γ : JC) := Γ.1.2.1
abbrev jE (Γ : JC) := Γ.1.2.2.1
abbrev jR (Γ : JC) := Γ.1.2.2.2
abbrev jS (Γ : JC) := Γ.2.1.1
abbrev jM (Γ : JC) := Γ.2.1.2.1
abbrev jV (Γ : JC) := Γ.2.1.2.2.1
abbrev jB (Γ : JC) := Γ.2.1.2.2.2
abbrev jT (Γ : JC) := Γ.2.2.1.1
abbrev jC (Γ : JC) := Γ.2.2.1.2
abbrev jA (Γ : JC) := Γ.2.2.2.1
abbrev jQ (Γ : JC) := Γ.2.2.2.2
def J (Γ : JC) (nL : Nat) (HP : Heap → Prop) (k n pc : Nat) (lv : List (Nat × Value)) (st : List Value) : Prop :=
  ∀ (H : Heap) (locs : List Loc) (ls : Array Slot), HP H → va_S (jA Γ) (jS Γ).heap H locs → lv_has ls nL lv → W (jP Γ) (jL Γ) (jE Γ) (jR Γ) (jS Γ) (jM Γ) (jV Γ) (jB Γ) (jT Γ) (jC Γ) H locs k n (jQ Γ) (F0 (jM Γ) pc ls st)
def JE (Γ : JC) (κ : KP) (cc : ByteArray) (own : String) (nL : Nat) (ret : Option FieldType) : Prop :=
  (jP Γ).tables.exec = Jvm.exec ∧ (jC Γ).code = cc ∧ (jC Γ).maxLocals = nL ∧ (jS Γ).vm.findClass own = some (jM Γ).cls ∧ (∀ w ∈ WT, w.before (jV Γ) (jS Γ) = true) ∧ (jT Γ).locks = false ∧ True ∧ KX κ (jA Γ) (jS Γ) ∧ (jT Γ).sig.returnType = ret
def JQ (Γ : JC) (o : Option Value) (HP : Heap → Prop) (k n : Nat) : Prop := jQ Γ = MQ (jB Γ) (QQ o HP (jA Γ)) (jV Γ) (jS Γ) k n (jA Γ)
theorem met_of {κ : KP} {A : Nat → Prop} {l : Launch} {y : MethodName} {own : String} {cc : ByteArray} {maxL : Nat} {ret : Option FieldType} {rm : Room} {av : List Value} {HP HP' : Heap → Prop} {o : Option Value} {mc ms : Nat} (hy : plainName y.cls = true) (ho : y.cls = own) (hav : (lg_sl av).length ≤ maxL)
    (body : ∀ Γ : JC, JE Γ κ cc own maxL ret → JQ Γ o HP' mc ms → jL Γ = l → jR Γ = rm → jA Γ = A → HP (jS Γ).heap → (y.name = "<init>" → (jT Γ).name = "<init>") → J Γ maxL HP 0 0 0 (lv_args 0 av) []) :
    Met l y (Cond.code y cc maxL ret :: WT) rm (PP κ A av HP) (QQ o HP' A) mc ms A := by
  subst ho
  refine Met.ofW (cc := cc) (maxL := maxL) (ret := ret) hy rfl ?_
  intro p e s m args below meth c s₁ B hml hv
  obtain ⟨rfl, hH, hK⟩ := hv
  have hts := atoms_spec (ws := Cond.code y cc maxL ret :: WT) B.pre
  have hown : s.vm.findClass y.cls = some m.cls := findClass_of_methodNamed B.named
  have E : JE ((p, l, e, (headSpec (Cond.code y cc maxL ret :: WT) rm).room), (s, m, av.toArray, below), (meth, c), (A, MQ below (QQ o HP' A) av.toArray s mc ms A)) κ cc y.cls maxL ret :=
    ⟨B.exec, B.bytes, hml, hown, fun w h => hts w (List.mem_cons_of_mem _ h), B.notSynchronized, trivial, hK, B.returns⟩
  have hin : y.name = "<init>" → meth.name = "<init>" := fun h => by rw [(name_of_methodNamed B.named B.method).1, h]
  have K := body _ E rfl rfl rfl rfl hH hin s.heap [] _ hH va_S.rf (lv_entry av hav)
  rw [lg_entry_eq]
  exact K
section JROWS
variable {Γ : JC} {κ : KP} {cc : ByteArray} {own : String} {nL : Nat} {ret : Option FieldType} {HP HP' : Heap → Prop} {k n pc tgt : Nat} {lv lv' : List (Nat × Value)} {st : List Value} {off : Int} {x y : Int32}
theorem j_imp (h : ∀ H, HP H → HP' H) (kk : J Γ nL HP' k n pc lv st) : J Γ nL HP k n pc lv st := fun H locs ls hH hS hl => kk H locs ls (h H hH) hS hl
theorem j_lv (ks : List Nat) (hs : lv_pick lv ks = lv') (kk : J Γ nL HP k n pc lv' st) : J Γ nL HP k n pc lv st := fun H locs ls hH hS hl => kk H locs ls hH hS (lv_sub hl ks hs)
theorem j_wid {k' n' : Nat} (h1 : k ≤ k') (h2 : n ≤ n') (kk : J Γ nL HP k' n' pc lv st) : J Γ nL HP k n pc lv st := fun H locs ls hH hS hl => W.widen h1 h2 (kk H locs ls hH hS hl)
theorem j_ex {α : Type} {P : α → Heap → Prop} (kk : ∀ a, J Γ nL (P a) k n pc lv st) : J Γ nL (fun H => ∃ a, P a H) k n pc lv st := fun H locs ls ⟨a, hH⟩ hS hl => kk a H locs ls hH hS hl
theorem j_pre {P : Prop} (h : ∀ H, HP H → P) (kk : P → J Γ nL HP k n pc lv st) : J Γ nL HP k n pc lv st := fun H locs ls hH hS hl => kk (h H hH) H locs ls hH hS hl
theorem j_goto (E : JE Γ κ cc own nL ret) (hd : decode cc pc = .ok (.goto off, 3)) (ht : (pc : Int) + off = (tgt : Int)) (kk : J Γ nL HP k n tgt lv st) : J Γ nL HP k n pc lv st :=
  fun H locs ls hH hS hl => lv_goto E.1 E.2.1 hd ht (kk H locs ls hH hS hl)
theorem j_if_eq (E : JE Γ κ cc own nL ret) (hd : decode cc pc = .ok (.ifCond .eq off, 3)) (ht : (pc : Int) + off = (tgt : Int)) (kt : x = 0 → J Γ nL HP k n tgt lv st) (kf : ¬ x = 0 → J Γ nL HP k n (pc + 3) lv st) : J Γ nL HP k n pc lv (.int x :: st) :=
  fun H locs ls hH hS hl => lv_if_eq E.1 E.2.1 hd ht (fun c => kt c H locs ls hH hS hl) (fun c => kf c H locs ls hH hS hl)
theorem j_if_ne (E : JE Γ κ cc own nL ret) (hd : decode cc pc = .ok (.ifCond .ne off, 3)) (ht : (pc : Int) + off = (tgt : Int)) (kt : ¬ x = 0 → J Γ nL HP k n tgt lv st) (kf : x = 0 → J Γ nL HP k n (pc + 3) lv st) : J Γ nL HP k n pc lv (.int x :: st) :=
  fun H locs ls hH hS hl => lv_if_ne E.1 E.2.1 hd ht (fun c => kt c H locs ls hH hS hl) (fun c => kf c H locs ls hH hS hl)
theorem j_if_lt (E : JE Γ κ cc own nL ret) (hd : decode cc pc = .ok (.ifCond .lt off, 3)) (ht : (pc : Int) + off = (tgt : Int)) (kt : x < 0 → J Γ nL HP k n tgt lv st) (kf : ¬ x < 0 → J Γ nL HP k n (pc + 3) lv st) : J Γ nL HP k n pc lv (.int x :: st) :=
  fun H locs ls hH hS hl => lv_if_lt E.1 E.2.1 hd ht (fun c => kt c H locs ls hH hS hl) (fun c => kf c H locs ls hH hS hl)
theorem j_if_ge (E : JE Γ κ cc own nL ret) (hd : decode cc pc = .ok (.ifCond .ge off, 3)) (ht : (pc : Int) + off = (tgt : Int)) (kt : 0 ≤ x → J Γ nL HP k n tgt lv st) (kf : ¬ 0 ≤ x → J Γ nL HP k n (pc + 3) lv st) : J Γ nL HP k n pc lv (.int x :: st) :=
  fun H locs ls hH hS hl => lv_if_ge E.1 E.2.1 hd ht (fun c => kt c H locs ls hH hS hl) (fun c => kf c H locs ls hH hS hl)
theorem j_if_gt (E : JE Γ κ cc own nL ret) (hd : decode cc pc = .ok (.ifCond .gt off, 3)) (ht : (pc : Int) + off = (tgt : Int)) (kt : 0 < x → J Γ nL HP k n tgt lv st) (kf : ¬ 0 < x → J Γ nL HP k n (pc + 3) lv st) : J Γ nL HP k n pc lv (.int x :: st) :=
  fun H locs ls hH hS hl => lv_if_gt E.1 E.2.1 hd ht (fun c => kt c H locs ls hH hS hl) (fun c => kf c H locs ls hH hS hl)
theorem j_if_le (E : JE Γ κ cc own nL ret) (hd : decode cc pc = .ok (.ifCond .le off, 3)) (ht : (pc : Int) + off = (tgt : Int)) (kt : x ≤ 0 → J Γ nL HP k n tgt lv st) (kf : ¬ x ≤ 0 → J Γ nL HP k n (pc + 3) lv st) : J Γ nL HP k n pc lv (.int x :: st) :=
  fun H locs ls hH hS hl => lv_if_le E.1 E.2.1 hd ht (fun c => kt c H locs ls hH hS hl) (fun c => kf c H locs ls hH hS hl)
theorem j_icmp_eq (E : JE Γ κ cc own nL ret) (hd : decode cc pc = .ok (.if_icmp .eq off, 3)) (ht : (pc : Int) + off = (tgt : Int)) (kt : x = y → J Γ nL HP k n tgt lv st) (kf : ¬ x = y → J Γ nL HP k n (pc + 3) lv st) : J Γ nL HP k n pc lv (.int y :: .int x :: st) :=
  fun H locs ls hH hS hl => lv_icmp_eq E.1 E.2.1 hd ht (fun c => kt c H locs ls hH hS hl) (fun c => kf c H locs ls hH hS hl)
theorem j_icmp_ne (E : JE Γ κ cc own nL ret) (hd : decode cc pc = .ok (.if_icmp .ne off, 3)) (ht : (pc : Int) + off = (tgt : Int)) (kt : ¬ x = y → J Γ nL HP k n tgt lv st) (kf : x = y → J Γ nL HP k n (pc + 3) lv st) : J Γ nL HP k n pc lv (.int y :: .int x :: st) :=
  fun H locs ls hH hS hl => lv_icmp_ne E.1 E.2.1 hd ht (fun c => kt c H locs ls hH hS hl) (fun c => kf c H locs ls hH hS hl)
theorem j_icmp_lt (E : JE Γ κ cc own nL ret) (hd : decode cc pc = .ok (.if_icmp .lt off, 3)) (ht : (pc : Int) + off = (tgt : Int)) (kt : x < y → J Γ nL HP k n tgt lv st) (kf : ¬ x < y → J Γ nL HP k n (pc + 3) lv st) : J Γ nL HP k n pc lv (.int y :: .int x :: st) :=
  fun H locs ls hH hS hl => lv_icmp_lt E.1 E.2.1 hd ht (fun c => kt c H locs ls hH hS hl) (fun c => kf c H locs ls hH hS hl)
theorem j_icmp_ge (E : JE Γ κ cc own nL ret) (hd : decode cc pc = .ok (.if_icmp .ge off, 3)) (ht : (pc : Int) + off = (tgt : Int)) (kt : y ≤ x → J Γ nL HP k n tgt lv st) (kf : ¬ y ≤ x → J Γ nL HP k n (pc + 3) lv st) : J Γ nL HP k n pc lv (.int y :: .int x :: st) :=
  fun H locs ls hH hS hl => lv_icmp_ge E.1 E.2.1 hd ht (fun c => kt c H locs ls hH hS hl) (fun c => kf c H locs ls hH hS hl)
theorem j_icmp_gt (E : JE Γ κ cc own nL ret) (hd : decode cc pc = .ok (.if_icmp .gt off, 3)) (ht : (pc : Int) + off = (tgt : Int)) (kt : y < x → J Γ nL HP k n tgt lv st) (kf : ¬ y < x → J Γ nL HP k n (pc + 3) lv st) : J Γ nL HP k n pc lv (.int y :: .int x :: st) :=
  fun H locs ls hH hS hl => lv_icmp_gt E.1 E.2.1 hd ht (fun c => kt c H locs ls hH hS hl) (fun c => kf c H locs ls hH hS hl)
theorem j_icmp_le (E : JE Γ κ cc own nL ret) (hd : decode cc pc = .ok (.if_icmp .le off, 3)) (ht : (pc : Int) + off = (tgt : Int)) (kt : x ≤ y → J Γ nL HP k n tgt lv st) (kf : ¬ x ≤ y → J Γ nL HP k n (pc + 3) lv st) : J Γ nL HP k n pc lv (.int y :: .int x :: st) :=
  fun H locs ls hH hS hl => lv_icmp_le E.1 E.2.1 hd ht (fun c => kt c H locs ls hH hS hl) (fun c => kf c H locs ls hH hS hl)
theorem j_null_y (E : JE Γ κ cc own nL ret) (hd : decode cc pc = .ok (.ifnull off, 3)) (ht : (pc : Int) + off = (tgt : Int)) (kk : J Γ nL HP k n tgt lv st) : J Γ nL HP k n pc lv (.null :: st) :=
  fun H locs ls hH hS hl => lv_ifnullN E.1 E.2.1 hd ht (kk H locs ls hH hS hl)
theorem j_null_n {a : Nat} (E : JE Γ κ cc own nL ret) (hd : decode cc pc = .ok (.ifnull off, 3)) (kk : J Γ nL HP k n (pc + 3) lv st) : J Γ nL HP k n pc lv (.ref a :: st) :=
  fun H locs ls hH hS hl => lv_ifnull E.1 E.2.1 hd (kk H locs ls hH hS hl)
theorem j_nonnull_y {a : Nat} (E : JE Γ κ cc own nL ret) (hd : decode cc pc = .ok (.ifnonnull off, 3)) (ht : (pc : Int) + off = (tgt : Int)) (kk : J Γ nL HP k n tgt lv st) : J Γ nL HP k n pc lv (.ref a :: st) :=
  fun H locs ls hH hS hl => lv_ifnonnull E.1 E.2.1 hd ht (kk H locs ls hH hS hl)
theorem j_nonnull_n (E : JE Γ κ cc own nL ret) (hd : decode cc pc = .ok (.ifnonnull off, 3)) (kk : J Γ nL HP k n (pc + 3) lv st) : J Γ nL HP k n pc lv (.null :: st) :=
  fun H locs ls hH hS hl => lv_ifnonnullN E.1 E.2.1 hd (kk H locs ls hH hS hl)
theorem j_irem (E : JE Γ κ cc own nL ret) (hd : decode cc pc = .ok (.irem, 1)) (h0 : ¬ y = 0) (kk : J Γ nL HP k n (pc + 1) lv (.int (x - x / y * y) :: st)) : J Γ nL HP k n pc lv (.int y :: .int x :: st) :=
  fun H locs ls hH hS hl => lv_irem E.1 E.2.1 hd h0 (kk H locs ls hH hS hl)
theorem j_idiv (E : JE Γ κ cc own nL ret) (hd : decode cc pc = .ok (.idiv, 1)) (h0 : ¬ y = 0) (kk : J Γ nL HP k n (pc + 1) lv (.int (x / y) :: st)) : J Γ nL HP k n pc lv (.int y :: .int x :: st) :=
  fun H locs ls hH hS hl => lv_idiv E.1 E.2.1 hd h0 (kk H locs ls hH hS hl)
theorem j_lrem {u v : Int64} (E : JE Γ κ cc own nL ret) (hd : decode cc pc = .ok (.lrem, 1)) (h0 : ¬ v = 0) (kk : J Γ nL HP k n (pc + 1) lv (.long (u - u / v * v) :: st)) : J Γ nL HP k n pc lv (.long v :: .long u :: st) :=
  fun H locs ls hH hS hl => lv_lrem E.1 E.2.1 hd h0 (kk H locs ls hH hS hl)
theorem j_ldiv {u v : Int64} (E : JE Γ κ cc own nL ret) (hd : decode cc pc = .ok (.ldiv, 1)) (h0 : ¬ v = 0) (kk : J Γ nL HP k n (pc + 1) lv (.long (u / v) :: st)) : J Γ nL HP k n pc lv (.long v :: .long u :: st) :=
  fun H locs ls hH hS hl => lv_ldiv E.1 E.2.1 hd h0 (kk H locs ls hH hS hl)
theorem j_ldc {i : Nat} (E : JE Γ κ cc own nL ret) (hd : decode cc pc = .ok (.ldc i, 2)) (hw : Cond.constant own i x ∈ WT) (kk : J Γ nL HP k n (pc + 2) lv (.int x :: st)) : J Γ nL HP k n pc lv st :=
  fun H locs ls hH hS hl => lv_ldc E.1 E.2.1 E.2.2.2.1 (E.2.2.2.2.1 _ hw) hd (kk H locs ls hH hS hl)
theorem j_ldcw {i : Nat} (E : JE Γ κ cc own nL ret) (hd : decode cc pc = .ok (.ldc_w i, 3)) (hw : Cond.constant own i x ∈ WT) (kk : J Γ nL HP k n (pc + 3) lv (.int x :: st)) : J Γ nL HP k n pc lv st :=
  fun H locs ls hH hS hl => lv_ldcw E.1 E.2.1 E.2.2.2.1 (E.2.2.2.2.1 _ hw) hd (kk H locs ls hH hS hl)
theorem j_ldc2 {i : Nat} {u : Int64} (E : JE Γ κ cc own nL ret) (hd : decode cc pc = .ok (.ldc2_w i, 3)) (hw : Cond.constantLong own i u ∈ WT) (kk : J Γ nL HP k n (pc + 3) lv (.long u :: st)) : J Γ nL HP k n pc lv st :=
  fun H locs ls hH hS hl => lv_ldc2 E.1 E.2.1 E.2.2.2.1 (E.2.2.2.2.1 _ hw) hd (kk H locs ls hH hS hl)
-- ends
theorem j_iret (E : JE Γ κ cc own nL (some .int)) (hQ : JQ Γ (some (.int x)) HP' k n) (hd : decode cc pc = .ok (.ireturn, 1)) (h : ∀ H, HP H → HP' H) : J Γ nL HP k n pc lv [.int x] := by
  intro H locs ls hH hS hl
  rw [hQ]
  exact W.iret E.1 E.2.1 E.2.2.2.2.2.2.2.2 (fun t ht _ => ⟨rfl, by rw [ht]; exact h H hH, hS.F ht⟩) hS.2.2 hd E.2.2.2.2.2.1
theorem j_zret (E : JE Γ κ cc own nL (some .boolean)) (hQ : JQ Γ (some (.int x)) HP' k n) (hb : narrow .boolean (.int x) = .int x) (hd : decode cc pc = .ok (.ireturn, 1)) (h : ∀ H, HP H → HP' H) : J Γ nL HP k n pc lv [.int x] := by
  intro H locs ls hH hS hl
  rw [hQ]
  exact W.zret E.1 E.2.1 E.2.2.2.2.2.2.2.2 hb (fun t ht _ => ⟨rfl, by rw [ht]; exact h H hH, hS.F ht⟩) hS.2.2 hd E.2.2.2.2.2.1
theorem j_lret {u : Int64} (E : JE Γ κ cc own nL (some .long)) (hQ : JQ Γ (some (.long u)) HP' k n) (hd : decode cc pc = .ok (.lreturn, 1)) (h : ∀ H, HP H → HP' H) : J Γ nL HP k n pc lv [.long u] := by
  intro H locs ls hH hS hl
  rw [hQ]
  exact W.lret E.1 E.2.1 E.2.2.2.2.2.2.2.2 (fun t ht _ => ⟨rfl, by rw [ht]; exact h H hH, hS.F ht⟩) hS.2.2 hd E.2.2.2.2.2.1
theorem j_vret (E : JE Γ κ cc own nL none) (hQ : JQ Γ none HP' k n) (hd : decode cc pc = .ok (.return_, 1)) (h : ∀ H, HP H → HP' H) : J Γ nL HP k n pc lv [] := by
  intro H locs ls hH hS hl
  rw [hQ]
  exact W.vret E.1 E.2.1 E.2.2.2.2.2.2.2.2 (fun t ht _ => ⟨rfl, by rw [ht]; exact h H hH, hS.F ht⟩) hS.2.2 hd E.2.2.2.2.2.1
theorem j_aret {v : Value} {rt : FieldType} (E : JE Γ κ cc own nL (some rt)) (hQ : JQ Γ (some v) HP' k n) (hrt : (∃ n, rt = .object n) ∨ ∃ t, rt = .array t) (hv : v = .null ∨ ∃ a, v = .ref a) (hd : decode cc pc = .ok (.areturn, 1)) (h : ∀ H, HP H → HP' H) : J Γ nL HP k n pc lv [v] := by
  intro H locs ls hH hS hl
  rw [hQ]
  exact W.aret E.1 E.2.1 E.2.2.2.2.2.2.2.2 hrt hv (fun t ht _ => ⟨rfl, by rw [ht]; exact h H hH, hS.F ht⟩) hS.2.2 hd E.2.2.2.2.2.1
theorem j_tin {dflt lo hi : Int} {offs : Array Int} {len : Nat} {c : Int32} (E : JE Γ κ cc own nL ret) (hd : decode cc pc = .ok (.tableswitch dflt lo hi offs, len)) (hx : x = c) (h1 : ¬ c.toInt < lo) (h2 : ¬ hi < c.toInt) (ho : offs[(c.toInt - lo).toNat]? = some off) (ht : (pc : Int) + off = (tgt : Int)) (kk : J Γ nL HP k n tgt lv st) : J Γ nL HP k n pc lv (.int x :: st) := by
  subst hx
  exact fun H locs ls hH hS hl => lv_tableIn E.1 E.2.1 hd h1 h2 ho ht (kk H locs ls hH hS hl)
theorem j_tout {dflt lo hi : Int} {offs : Array Int} {len : Nat} (E : JE Γ κ cc own nL ret) (hd : decode cc pc = .ok (.tableswitch dflt lo hi offs, len)) (h : x.toInt < lo ∨ hi < x.toInt) (ht : (pc : Int) + dflt = (tgt : Int)) (kk : J Γ nL HP k n tgt lv st) : J Γ nL HP k n pc lv (.int x :: st) :=
  fun H locs ls hH hS hl => lv_tableOut E.1 E.2.1 hd h ht (kk H locs ls hH hS hl)
theorem j_lkp {dflt : Int} {ps : Array (Int × Int)} {len : Nat} (E : JE Γ κ cc own nL ret) (hd : decode cc pc = .ok (.lookupswitch dflt ps, len)) (hp : (ps.toList.zip (ps.toList.drop 1)).all (fun (a, next) => a.1 < next.1) = true) (ho : Op.lookupswitch.offset ps.toList dflt x.toInt = off) (ht : (pc : Int) + off = (tgt : Int)) (kk : J Γ nL HP k n tgt lv st) : J Γ nL HP k n pc lv (.int x :: st) :=
  fun H locs ls hH hS hl => lv_lookup E.1 E.2.1 hd hp ho ht (kk H locs ls hH hS hl)
theorem kx_L (E : JE Γ κ cc own nL ret) : va_Z "OneBeatsBoth" "LESSER" "[I" (.ref (kL κ)) (jA Γ) (jS Γ) (jS Γ).heap := E.2.2.2.2.2.2.2.1.2.1
theorem kx_G (E : JE Γ κ cc own nL ret) : va_Z "OneBeatsBoth" "GREATER" "[I" (.ref (kG κ)) (jA Γ) (jS Γ) (jS Γ).heap := E.2.2.2.2.2.2.2.1.2.2.1
theorem kx_TL (E : JE Γ κ cc own nL ret) : va_T .int (kL κ) 28 (fun j => .int (tbL j)) (jA Γ) (jS Γ) (jS Γ).heap := E.2.2.2.2.2.2.2.1.2.2.2.1
theorem kx_TG (E : JE Γ κ cc own nL ret) : va_T .int (kG κ) 28 (fun j => .int (tbG j)) (jA Γ) (jS Γ) (jS Γ).heap := E.2.2.2.2.2.2.2.1.2.2.2.2.1
theorem j_nw (E : JE Γ κ cc own nL ret) {w : Cond} (h : w ∈ NWs) : w.before (jV Γ) (jS Γ) = true := nw_use (nws_k w h) (E.2.2.2.2.2.2.2.1.2.2.2.2.2 w h)
end JROWS
-- the shapes of the functions, and how a value says which way was gone
def obd {α β : Type} (x : Option α) (f : α → Option β) : Option β := match x with
  | none => none
  | some v => f v
def ogd {α : Type} (c : Bool) (a : Option α) : Option α := match c with
  | true => a
  | false => none
def osm {α β γ : Type} (x : α ⊕ β) (f : α → Option γ) (g : β → Option γ) : Option γ := match x with
  | .inl a => f a
  | .inr b => g b
def onl {α : Type} (v : Value) (a : Option α) (f : Nat → Option α) : Option α := match v with
  | .null => a
  | .ref b => f b
  | _ => none
def orf {α : Type} (v : Value) (f : Nat → Option α) : Option α := match v with
  | .ref b => f b
  | _ => none
def onz {α : Type} (y : Int32) (a : Option α) : Option α := if y = 0 then none else a
def onzl {α : Type} (y : Int64) (a : Option α) : Option α := if y = 0 then none else a
def isB (v : Int32) : Bool := decide (v = 0) || decide (v = 1)
def isR (v : Value) : Bool := match v with
  | .null => true
  | .ref _ => true
  | _ => false
theorem g_inj {α : Type} {a b : α} (h : some a = some b) : b = a := (Option.some.inj h).symm
theorem g_t {α : Type} {c : Prop} [Decidable c] {a b : α} {r : α} (h : (if c then a else b) = r) (hc : c) : a = r := by rw [if_pos hc] at h; exact h
theorem g_f {α : Type} {c : Prop} [Decidable c] {a b : α} {r : α} (h : (if c then a else b) = r) (hc : ¬ c) : b = r := by rw [if_neg hc] at h; exact h
theorem obd_at {α β : Type} {x : Option α} {f : α → Option β} {r : β} (h : obd x f = some r) : ∃ v, x = some v ∧ f v = some r := by
  cases x with
  | none => cases h
  | some v => exact ⟨v, rfl, h⟩
theorem ogd_at {α : Type} {c : Bool} {a : Option α} {r : α} (h : ogd c a = some r) : c = true ∧ a = some r := by
  cases c with
  | true => exact ⟨rfl, h⟩
  | false => cases h
theorem onl_at {α : Type} {v : Value} {a : Option α} {f : Nat → Option α} {r : α} (h : onl v a f = some r) : (v = .null ∧ a = some r) ∨ ∃ b, v = .ref b ∧ f b = some r := by
  unfold onl at h
  split at h
  · exact Or.inl ⟨rfl, h⟩
  · exact Or.inr ⟨_, rfl, h⟩
  · cases h
theorem orf_at {α : Type} {v : Value} {f : Nat → Option α} {r : α} (h : orf v f = some r) : ∃ b, v = .ref b ∧ f b = some r := by
  unfold orf at h
  split at h
  · exact ⟨_, rfl, h⟩
  · cases h
theorem onz_at {α : Type} {y : Int32} {a : Option α} {r : α} (h : onz y a = some r) : ¬ y = 0 ∧ a = some r := by
  unfold onz at h
  split at h
  · cases h
  · rename_i hc; exact ⟨hc, h⟩
theorem onzl_at {α : Type} {y : Int64} {a : Option α} {r : α} (h : onzl y a = some r) : ¬ y = 0 ∧ a = some r := by
  unfold onzl at h
  split at h
  · cases h
  · rename_i hc; exact ⟨hc, h⟩
theorem nb_1 : narrow .boolean (.int (Int32.ofInt 1)) = .int (Int32.ofInt 1) := rfl
theorem nb_0 : narrow .boolean (.int (Int32.ofInt 0)) = .int (Int32.ofInt 0) := rfl
theorem fb_1 : fits .boolean (.int (Int32.ofInt 1)) = true := by decide +kernel
theorem fb_0 : fits .boolean (.int (Int32.ofInt 0)) = true := by decide +kernel
theorem isB_n {v : Int32} (h : isB v = true) : narrow .boolean (.int v) = .int v := by
  unfold isB at h
  rw [Bool.or_eq_true, decide_eq_true_eq, decide_eq_true_eq] at h
  rcases h with rfl | rfl <;> rfl
theorem isR_n {v : Value} (h : isR v = true) : v = .null ∨ ∃ a, v = .ref a := by
  unfold isR at h
  split at h
  · exact Or.inl rfl
  · exact Or.inr ⟨_, rfl⟩
  · cases h
/-- a loop: its step goes on, or comes to its end -/
def iter {V R : Type} (step : V → Option (V ⊕ R)) : Nat → V → Option R
  | 0, _ => none
  | n + 1, v => match step v with
    | none => none
    | some (.inl w) => iter step n w
    | some (.inr r) => some r
theorem j_iter {V R : Type} {step : V → Option (V ⊕ R)} {P : V → Prop} {G : R → Prop} (hs : ∀ w q, step w = some q → (∀ w', q = .inl w' → P w') → (∀ o, q = .inr o → G o) → P w) : ∀ (fu : Nat) (w : V) (o : R), iter step fu w = some o → G o → P w
  | 0, _, _, h, _ => by cases h
  | fu + 1, w, o, h, hG => by
    unfold iter at h
    cases hq : step w with
    | none => rw [hq] at h; cases h
    | some q =>
      rw [hq] at h
      cases q with
      | inl w1 => exact hs w _ hq (fun w' e => by cases e; exact j_iter hs fu w1 o h hG) (fun o' e => by cases e)
      | inr r => exact hs w _ hq (fun w' e => by cases e) (fun o' e => by cases e; cases h; exact hG)
def FU : Nat := 1000000
end
section
/-! BLOCKS of plain instructions: run by a function -/
def bl : Instr → Nat
  | .aload _ => 2 | .astore _ => 2 | .bipush _ => 2 | .iload _ => 2 | .istore _ => 2 | .lload _ => 2 | .lstore _ => 2
  | .sipush _ => 3 | .iinc _ _ => 3
  | _ => 1
def bget (lv : List (Nat × Value)) (i : Nat) : Option Value := match lv with
  | [] => none
  | (j, v) :: r => match Nat.beq j i with
    | true => some v
    | false => bget r i
def bk1 (i : Nat) (q : Nat × Value) : Bool := !(q.1 == i) && !(q.1 + 1 == i && q.2.category == 2)
def bk2 (i : Nat) (q : Nat × Value) : Bool := !(q.1 == i) && (!(q.1 == i + 1) && !(q.1 + 1 == i && q.2.category == 2))
def bset1 (nL : Nat) (lv : List (Nat × Value)) (i : Nat) (v : Value) (st : List Value) : Option (List (Nat × Value) × List Value) := match Nat.blt i nL with
  | true => some ((i, v) :: lv.filter (bk1 i), st)
  | false => none
def bset2 (nL : Nat) (lv : List (Nat × Value)) (i : Nat) (v : Value) (st : List Value) : Option (List (Nat × Value) × List Value) := match Nat.blt (i + 1) nL with
  | true => some ((i, v) :: lv.filter (bk2 i), st)
  | false => none
def bldi (lv : List (Nat × Value)) (i : Nat) (st : List Value) : Option (List (Nat × Value) × List Value) := match bget lv i with
  | some (.int x) => some (lv, .int x :: st)
  | _ => none
def bldl (lv : List (Nat × Value)) (i : Nat) (st : List Value) : Option (List (Nat × Value) × List Value) := match bget lv i with
  | some (.long x) => some (lv, .long x :: st)
  | _ => none
def blda (lv : List (Nat × Value)) (i : Nat) (st : List Value) : Option (List (Nat × Value) × List Value) := match bget lv i with
  | some (.ref x) => some (lv, .ref x :: st)
  | some .null => some (lv, .null :: st)
  | _ => none
def bsta (nL : Nat) (lv : List (Nat × Value)) (i : Nat) (st : List Value) : Option (List (Nat × Value) × List Value) := match st with
  | .ref x :: r => bset1 nL lv i (.ref x) r
  | .null :: r => bset1 nL lv i .null r
  | _ => none
def bsti (nL : Nat) (lv : List (Nat × Value)) (i : Nat) (st : List Value) : Option (List (Nat × Value) × List Value) := match st with
  | .int x :: r => bset1 nL lv i (.int x) r
  | _ => none
def bstl (nL : Nat) (lv : List (Nat × Value)) (i : Nat) (st : List Value) : Option (List (Nat × Value) × List Value) := match st with
  | .long x :: r => bset2 nL lv i (.long x) r
  | _ => none
def bii (f : Int32 → Int32 → Int32) (lv : List (Nat × Value)) (st : List Value) : Option (List (Nat × Value) × List Value) := match st with
  | .int y :: .int x :: r => some (lv, .int (f x y) :: r)
  | _ => none
def bll (f : Int64 → Int64 → Int64) (lv : List (Nat × Value)) (st : List Value) : Option (List (Nat × Value) × List Value) := match st with
  | .long y :: .long x :: r => some (lv, .long (f x y) :: r)
  | _ => none
def bi (f : Int32 → Value) (lv : List (Nat × Value)) (st : List Value) : Option (List (Nat × Value) × List Value) := match st with
  | .int x :: r => some (lv, f x :: r)
  | _ => none
def bcat1 (v : Value) : Bool := match v with
  | .long _ => false
  | .double _ => false
  | _ => true
def bs (nL : Nat) (i : Instr) (lv : List (Nat × Value)) (st : List Value) : Option (List (Nat × Value) × List Value) := match i with
  | .aconst_null => some (lv, .null :: st)
  | .aload i => blda lv i st
  | .aload_n i => blda lv i.val st
  | .astore i => bsta nL lv i st
  | .astore_n i => bsta nL lv i.val st
  | .bipush b => some (lv, .int (Int8.ofInt b).toInt32 :: st)
  | .sipush b => some (lv, .int (Int16.ofInt b).toInt32 :: st)
  | .iconst c => some (lv, .int (Int32.ofInt c) :: st)
  | .lconst c => some (lv, .long (Int64.ofNat c.val) :: st)
  | .iload i => bldi lv i st
  | .iload_n i => bldi lv i.val st
  | .lload i => bldl lv i st
  | .lload_n i => bldl lv i.val st
  | .istore i => bsti nL lv i st
  | .istore_n i => bsti nL lv i.val st
  | .lstore i => bstl nL lv i st
  | .lstore_n i => bstl nL lv i.val st
  | .iinc i c => match bget lv i with
    | some (.int x) => bset1 nL lv i (.int (x + Int32.ofInt c)) st
    | _ => none
  | .iadd => bii (fun x y => x + y) lv st
  | .isub => bii (fun x y => x - y) lv st
  | .imul => bii (fun x y => x * y) lv st
  | .iand => bii (fun x y => x &&& y) lv st
  | .ior => bii (fun x y => x ||| y) lv st
  | .ixor => bii (fun x y => x ^^^ y) lv st
  | .ishl => bii (fun x y => x <<< (y &&& 31)) lv st
  | .ishr => bii (fun x y => x >>> (y &&& 31)) lv st
  | .iushr => bii (fun x y => (x.toUInt32 >>> (y.toUInt32 &&& Int32.toUInt32 31)).toInt32) lv st
  | .ineg => bi (fun x => .int (-x)) lv st
  | .ladd => bll (fun x y => x + y) lv st
  | .lsub => bll (fun x y => x - y) lv st
  | .lmul => bll (fun x y => x * y) lv st
  | .i2l => bi (fun x => .long x.toInt64) lv st
  | .i2b => bi (fun x => .int x.toInt8.toInt32) lv st
  | .i2s => bi (fun x => .int x.toInt16.toInt32) lv st
  | .l2i => match st with
    | .long x :: r => some (lv, .int x.toInt32 :: r)
    | _ => none
  | .lcmp => match st with
    | .long y :: .long x :: r => some (lv, .int (lg_cmp x y) :: r)
    | _ => none
  | .dup => match st with
    | v :: r => match bcat1 v with
      | true => some (lv, v :: v :: r)
      | false => none
    | _ => none
  | .pop => match st with
    | v :: r => match bcat1 v with
      | true => some (lv, r)
      | false => none
    | _ => none
  | .dup_x1 => match st with
    | v :: w :: r => match bcat1 v && bcat1 w with
      | true => some (lv, v :: w :: v :: r)
      | false => none
    | _ => none
  | .dup2 => match st with
    | v :: w :: r => match bcat1 v && bcat1 w with
      | true => some (lv, v :: w :: v :: w :: r)
      | false => none
    | _ => none
  | _ => none
def bdec (cc : ByteArray) (pc : Nat) (is : List Instr) : Bool := match is with
  | [] => true
  | i :: r => (match decode cc pc with
    | .ok (j, m) => decide (j = i) && Nat.beq m (bl i)
    | _ => false) && bdec cc (pc + bl i) r
def brun (nL : Nat) (is : List Instr) (pc : Nat) (lv : List (Nat × Value)) (st : List Value) : Option (Nat × List (Nat × Value) × List Value) := match is with
  | [] => some (pc, lv, st)
  | i :: r => match bs nL i lv st with
    | none => none
    | some q => brun nL r (pc + bl i) q.1 q.2
theorem bget_at {ls : Array Slot} {nL : Nat} : ∀ {lv : List (Nat × Value)} {i : Nat} {v : Value}, lv_has ls nL lv → bget lv i = some v → ls[i]? = some (.val v)
  | [], _, _, _, h => by simp [bget] at h
  | (j, w) :: r, i, v, hl, h => by
    unfold bget at h
    cases hb : Nat.beq j i with
    | true =>
      rw [hb] at h
      cases h
      rw [← Nat.eq_of_beq_eq_true hb]
      exact hl.2.2 (j, w) List.mem_cons_self
    | false =>
      rw [hb] at h
      exact bget_at ⟨hl.1, hl.2.1, fun q hq => hl.2.2 q (List.mem_cons_of_mem _ hq)⟩ h
theorem bget_k : ∀ {lv : List (Nat × Value)} {i : Nat} {v : Value}, bget lv i = some v → ∃ k : Nat, lv[k]? = some (i, v)
  | [], _, _, h => by simp [bget] at h
  | (j, w) :: r, i, v, h => by
    unfold bget at h
    cases hb : Nat.beq j i with
    | true =>
      rw [hb] at h
      cases h
      exact ⟨0, by rw [← Nat.eq_of_beq_eq_true hb]; rfl⟩
    | false =>
      rw [hb] at h
      obtain ⟨k, hk⟩ := bget_k h
      exact ⟨k + 1, by simpa using hk⟩
theorem bcat1_eq {v : Value} (h : bcat1 v = true) : v.category = 1 := by cases v <;> first | rfl | cases h
theorem blt_of {a b : Nat} (h : Nat.blt a b = true) : a < b := Nat.le_of_ble_eq_true h
section JBLOCK
variable {Γ : JC} {κ : KP} {cc : ByteArray} {own : String} {nL : Nat} {ret : Option FieldType} {HP : Heap → Prop} {k n pc : Nat} {lv lv' : List (Nat × Value)} {st st' : List Value}
theorem j_set1 {i : Nat} {v : Value} {r : List Value} {P : Prop} (hb : bset1 nL lv i v r = some (lv', st')) (kk : i < nL → (i, v) :: lv.filter (bk1 i) = lv' → r = st' → P) : P := by
  unfold bset1 at hb
  cases hc : Nat.blt i nL with
  | true =>
    rw [hc] at hb
    simp only [Option.some.injEq, Prod.mk.injEq] at hb
    exact kk (blt_of hc) hb.1 hb.2
  | false => rw [hc] at hb; cases hb
theorem j_set2 {i : Nat} {v : Value} {r : List Value} {P : Prop} (hb : bset2 nL lv i v r = some (lv', st')) (kk : i + 1 < nL → (i, v) :: lv.filter (bk2 i) = lv' → r = st' → P) : P := by
  unfold bset2 at hb
  cases hc : Nat.blt (i + 1) nL with
  | true =>
    rw [hc] at hb
    simp only [Option.some.injEq, Prod.mk.injEq] at hb
    exact kk (blt_of hc) hb.1 hb.2
  | false => rw [hc] at hb; cases hb
theorem j_ldi {i : Nat} {P : Prop} (hb : bldi lv i st = some (lv', st')) (kk : ∀ x : Int32, bget lv i = some (.int x) → lv = lv' → .int x :: st = st' → P) : P := by
  unfold bldi at hb
  split at hb
  · rename_i x hx
    simp only [Option.some.injEq, Prod.mk.injEq] at hb
    exact kk x hx hb.1 hb.2
  · cases hb
theorem j_ldl {i : Nat} {P : Prop} (hb : bldl lv i st = some (lv', st')) (kk : ∀ x : Int64, bget lv i = some (.long x) → lv = lv' → .long x :: st = st' → P) : P := by
  unfold bldl at hb
  split at hb
  · rename_i x hx
    simp only [Option.some.injEq, Prod.mk.injEq] at hb
    exact kk x hx hb.1 hb.2
  · cases hb
theorem j_lda {i : Nat} {P : Prop} (hb : blda lv i st = some (lv', st')) (kk : ∀ x : Nat, bget lv i = some (.ref x) → lv = lv' → .ref x :: st = st' → P) (k0 : bget lv i = some .null → lv = lv' → .null :: st = st' → P) : P := by
  unfold blda at hb
  split at hb
  · rename_i x hx
    simp only [Option.some.injEq, Prod.mk.injEq] at hb
    exact kk x hx hb.1 hb.2
  · rename_i hx
    simp only [Option.some.injEq, Prod.mk.injEq] at hb
    exact k0 hx hb.1 hb.2
  · cases hb
theorem j_ii {f : Int32 → Int32 → Int32} {P : Prop} (hb : bii f lv st = some (lv', st')) (kk : ∀ (x y : Int32) (r : List Value), st = .int y :: .int x :: r → lv = lv' → .int (f x y) :: r = st' → P) : P := by
  unfold bii at hb
  split at hb
  · rename_i y x r
    simp only [Option.some.injEq, Prod.mk.injEq] at hb
    exact kk x y r rfl hb.1 hb.2
  · cases hb
theorem j_ll {f : Int64 → Int64 → Int64} {P : Prop} (hb : bll f lv st = some (lv', st')) (kk : ∀ (x y : Int64) (r : List Value), st = .long y :: .long x :: r → lv = lv' → .long (f x y) :: r = st' → P) : P := by
  unfold bll at hb
  split at hb
  · rename_i y x r
    simp only [Option.some.injEq, Prod.mk.injEq] at hb
    exact kk x y r rfl hb.1 hb.2
  · cases hb
theorem j_bi {f : Int32 → Value} {P : Prop} (hb : bi f lv st = some (lv', st')) (kk : ∀ (x : Int32) (r : List Value), st = .int x :: r → lv = lv' → f x :: r = st' → P) : P := by
  unfold bi at hb
  split at hb
  · rename_i x r
    simp only [Option.some.injEq, Prod.mk.injEq] at hb
    exact kk x r rfl hb.1 hb.2
  · cases hb
theorem j_sti {i : Nat} {P : Prop} (hb : bsti nL lv i st = some (lv', st')) (kk : ∀ (x : Int32), st = .int x :: st' → i < nL → (i, Value.int x) :: lv.filter (bk1 i) = lv' → P) : P := by
  unfold bsti at hb
  split at hb
  · rename_i x r
    exact j_set1 hb (fun h1 h2 h3 => kk x (by rw [h3]) h1 h2)
  · cases hb
theorem j_stl {i : Nat} {P : Prop} (hb : bstl nL lv i st = some (lv', st')) (kk : ∀ (x : Int64), st = .long x :: st' → i + 1 < nL → (i, Value.long x) :: lv.filter (bk2 i) = lv' → P) : P := by
  unfold bstl at hb
  split at hb
  · rename_i x r
    exact j_set2 hb (fun h1 h2 h3 => kk x (by rw [h3]) h1 h2)
  · cases hb
theorem j_sta {i : Nat} {P : Prop} (hb : bsta nL lv i st = some (lv', st')) (kk : ∀ (x : Nat), st = .ref x :: st' → i < nL → (i, Value.ref x) :: lv.filter (bk1 i) = lv' → P) (k0 : st = .null :: st' → i < nL → (i, Value.null) :: lv.filter (bk1 i) = lv' → P) : P := by
  unfold bsta at hb
  split at hb
  · rename_i x r
    exact j_set1 hb (fun h1 h2 h3 => kk x (by rw [h3]) h1 h2)
  · rename_i r
    exact j_set1 hb (fun h1 h2 h3 => k0 (by rw [h3]) h1 h2)
  · cases hb
set_option maxHeartbeats 4000000 in
theorem j_bs (E : JE Γ κ cc own nL ret) {i : Instr} (hd : decode cc pc = .ok (i, bl i)) (hb : bs nL i lv st = some (lv', st')) (kk : J Γ nL HP k n (pc + bl i) lv' st') : J Γ nL HP k n pc lv st := by
  intro H locs ls hH hS hl
  have hx := E.1
  have hc := E.2.1
  have K := kk H locs
  cases i <;> (try (cases hb; done)) <;> simp only [bs] at hb
  case aconst_null => cases hb; exact lv_null hx hc hd (K ls hH hS hl)
  case aload i => exact j_lda hb (fun x h1 h2 h3 => by subst h2; subst h3; exact lv_aload hx hc hd (bget_at hl h1) (K ls hH hS hl)) (fun h1 h2 h3 => by subst h2; subst h3; exact lv_aloadN hx hc hd (bget_at hl h1) (K ls hH hS hl))
  case aload_n i => exact j_lda hb (fun x h1 h2 h3 => by subst h2; subst h3; exact lv_aload_n hx hc hd rfl (bget_at hl h1) (K ls hH hS hl)) (fun h1 h2 h3 => by subst h2; subst h3; exact lv_aload_nN hx hc hd rfl (bget_at hl h1) (K ls hH hS hl))
  case astore i => exact j_sta hb (fun x h1 h2 h3 => by subst h1; exact lv_astore hx hc hd hl h2 h3 (fun ls' hl' => K ls' hH hS hl')) (fun h1 h2 h3 => by subst h1; exact lv_astoreN hx hc hd hl h2 h3 (fun ls' hl' => K ls' hH hS hl'))
  case astore_n i => exact j_sta hb (fun x h1 h2 h3 => by subst h1; exact lv_astore_n hx hc hd rfl hl h2 h3 (fun ls' hl' => K ls' hH hS hl')) (fun h1 h2 h3 => by subst h1; exact lv_astore_nN hx hc hd rfl hl h2 h3 (fun ls' hl' => K ls' hH hS hl'))
  case bipush b => cases hb; exact lv_bipush hx hc hd rfl (K ls hH hS hl)
  case sipush b => cases hb; exact lv_sipush hx hc hd rfl (K ls hH hS hl)
  case iconst c => cases hb; exact lv_iconst hx hc hd rfl (K ls hH hS hl)
  case lconst c => cases hb; exact lv_lconst hx hc hd rfl (K ls hH hS hl)
  case iload i => exact j_ldi hb (fun x h1 h2 h3 => by subst h2; subst h3; exact lv_iload hx hc hd (bget_at hl h1) (K ls hH hS hl))
  case iload_n i => exact j_ldi hb (fun x h1 h2 h3 => by subst h2; subst h3; exact lv_iload_n hx hc hd rfl (bget_at hl h1) (K ls hH hS hl))
  case lload i => exact j_ldl hb (fun x h1 h2 h3 => by subst h2; subst h3; exact lv_lload hx hc hd (bget_at hl h1) (K ls hH hS hl))
  case lload_n i => exact j_ldl hb (fun x h1 h2 h3 => by subst h2; subst h3; exact lv_lload_n hx hc hd rfl (bget_at hl h1) (K ls hH hS hl))
  case istore i => exact j_sti hb (fun x h1 h2 h3 => by subst h1; exact lv_istore hx hc hd hl h2 h3 (fun ls' hl' => K ls' hH hS hl'))
  case istore_n i => exact j_sti hb (fun x h1 h2 h3 => by subst h1; exact lv_istore_n hx hc hd rfl hl h2 h3 (fun ls' hl' => K ls' hH hS hl'))
  case lstore i => exact j_stl hb (fun x h1 h2 h3 => by subst h1; exact lv_lstore hx hc hd hl h2 h3 (fun ls' hl' => K ls' hH hS hl'))
  case lstore_n i => exact j_stl hb (fun x h1 h2 h3 => by subst h1; exact lv_lstore_n hx hc hd rfl hl h2 h3 (fun ls' hl' => K ls' hH hS hl'))
  case iinc i c =>
    split at hb
    · rename_i x hg
      obtain ⟨q, hq⟩ := bget_k hg
      exact j_set1 hb (fun h1 h2 h3 => by subst h3; exact lv_iinc hx hc hd hl hq rfl h1 h2 (fun ls' hl' => K ls' hH hS hl'))
    · cases hb
  case iadd => exact j_ii hb (fun x y r h1 h2 h3 => by subst h1; subst h2; subst h3; exact lv_iadd hx hc hd (K ls hH hS hl))
  case isub => exact j_ii hb (fun x y r h1 h2 h3 => by subst h1; subst h2; subst h3; exact lv_isub hx hc hd (K ls hH hS hl))
  case imul => exact j_ii hb (fun x y r h1 h2 h3 => by subst h1; subst h2; subst h3; exact lv_imul hx hc hd (K ls hH hS hl))
  case iand => exact j_ii hb (fun x y r h1 h2 h3 => by subst h1; subst h2; subst h3; exact lv_iand hx hc hd (K ls hH hS hl))
  case ior => exact j_ii hb (fun x y r h1 h2 h3 => by subst h1; subst h2; subst h3; exact lv_ior hx hc hd (K ls hH hS hl))
  case ixor => exact j_ii hb (fun x y r h1 h2 h3 => by subst h1; subst h2; subst h3; exact lv_ixor hx hc hd (K ls hH hS hl))
  case ishl => exact j_ii hb (fun x y r h1 h2 h3 => by subst h1; subst h2; subst h3; exact lv_ishl hx hc hd (K ls hH hS hl))
  case ishr => exact j_ii hb (fun x y r h1 h2 h3 => by subst h1; subst h2; subst h3; exact lv_ishr hx hc hd (K ls hH hS hl))
  case iushr => exact j_ii hb (fun x y r h1 h2 h3 => by subst h1; subst h2; subst h3; exact lv_iushr hx hc hd rfl (K ls hH hS hl))
  case ineg => exact j_bi hb (fun x r h1 h2 h3 => by subst h1; subst h2; subst h3; exact lv_ineg hx hc hd (K ls hH hS hl))
  case ladd => exact j_ll hb (fun x y r h1 h2 h3 => by subst h1; subst h2; subst h3; exact lv_ladd hx hc hd (K ls hH hS hl))
  case lsub => exact j_ll hb (fun x y r h1 h2 h3 => by subst h1; subst h2; subst h3; exact lv_lsub hx hc hd (K ls hH hS hl))
  case lmul => exact j_ll hb (fun x y r h1 h2 h3 => by subst h1; subst h2; subst h3; exact lv_lmul hx hc hd (K ls hH hS hl))
  case i2l => exact j_bi hb (fun x r h1 h2 h3 => by subst h1; subst h2; subst h3; exact lv_i2l hx hc hd rfl (K ls hH hS hl))
  case i2b => exact j_bi hb (fun x r h1 h2 h3 => by subst h1; subst h2; subst h3; exact lv_i2b hx hc hd rfl (K ls hH hS hl))
  case i2s => exact j_bi hb (fun x r h1 h2 h3 => by subst h1; subst h2; subst h3; exact lv_i2s hx hc hd rfl (K ls hH hS hl))
  case l2i =>
    split at hb
    · cases hb; exact lv_l2i hx hc hd rfl (K ls hH hS hl)
    · cases hb
  case lcmp =>
    split at hb
    · cases hb; exact W.lcmp hx hc hd (K ls hH hS hl)
    · cases hb
  case dup =>
    split at hb
    · split at hb
      · rename_i h1; cases hb; exact lv_dup hx hc hd (bcat1_eq h1) (K ls hH hS hl)
      · cases hb
    · cases hb
  case pop =>
    split at hb
    · split at hb
      · rename_i h1; cases hb; exact lv_pop hx hc hd (bcat1_eq h1) (K ls hH hS hl)
      · cases hb
    · cases hb
  case dup_x1 =>
    split at hb
    · split at hb
      · rename_i h1; cases hb; rw [Bool.and_eq_true] at h1; exact lv_dup_x1 hx hc hd (bcat1_eq h1.1) (bcat1_eq h1.2) (K ls hH hS hl)
      · cases hb
    · cases hb
  case dup2 =>
    split at hb
    · split at hb
      · rename_i h1; cases hb; rw [Bool.and_eq_true] at h1; exact lv_dup2_11 hx hc hd (bcat1_eq h1.1) (bcat1_eq h1.2) (K ls hH hS hl)
      · cases hb
    · cases hb
theorem j_blk : ∀ {is : List Instr} {pc pc' : Nat} {lv lv' : List (Nat × Value)} {st st' : List Value}, JE Γ κ cc own nL ret → bdec cc pc is = true → brun nL is pc lv st = some (pc', lv', st') → J Γ nL HP k n pc' lv' st' → J Γ nL HP k n pc lv st
  | [], pc, pc', lv, lv', st, st', E, hd, hr, kk => by
    simp only [brun, Option.some.injEq, Prod.mk.injEq] at hr
    obtain ⟨rfl, rfl, rfl⟩ := hr
    exact kk
  | i :: r, pc, pc', lv, lv', st, st', E, hd, hr, kk => by
    unfold bdec at hd
    rw [Bool.and_eq_true] at hd
    obtain ⟨h1, h2⟩ := hd
    have hdec : decode cc pc = .ok (i, bl i) := by
      revert h1
      split
      · rename_i j m hj
        intro h1
        rw [Bool.and_eq_true, decide_eq_true_eq] at h1
        rw [hj, h1.1, Nat.eq_of_beq_eq_true h1.2]
      · intro h1; cases h1
    unfold brun at hr
    cases hq : bs nL i lv st with
    | none => rw [hq] at hr; cases hr
    | some q =>
      rw [hq] at hr
      exact j_bs E hdec (lv' := q.1) (st' := q.2) hq (j_blk E h2 hr kk)
end JBLOCK
end
section
/-! THE HEAP as one map: rows that read, write, make -/
-- an object (its class's number, its fields), an array of ints, an array of references (of rows: true, of people: false)
abbrev HO : Type := (Nat × List Value) ⊕ ((Nat × (Nat → Int32)) ⊕ (Bool × Nat × (Nat → Option Nat)))
abbrev HM : Type := (Nat → Option HO) × Nat
abbrev kB (κ : KP) (b : Bool) : ClassId := match b with
  | false => kR κ 0
  | true => kR κ 1
abbrev rkB (b : Bool) : String := match b with
  | false => rK0
  | true => rK1
abbrev tkB (b : Bool) : Nat := match b with
  | false => 1
  | true => 2
theorem kT_at (κ : KP) (b : Bool) : (kT κ)[tkB b]? = some (kB κ b, .object (rkB b)) := by cases b <;> rfl
def toE (κ : KP) (o : HO) : va_E := match o with
  | .inl o => .inr o
  | .inr (.inl a) => .inl (kI κ, a.1, .inl a.2)
  | .inr (.inr a) => .inl (kB κ a.1, a.2.1, .inr (.inr (.inr (.inr a.2.2))))
def HS (κ : KP) (A : Nat → Prop) (σ : HM) (H : Heap) : Prop := (H.size = σ.2 ∧ (kF κ = true → ∀ q, σ.2 ≤ q → A q)) ∧ ∀ a o, σ.1 a = some o → A a ∧ va_at (kD κ) vwCl (a, toE κ o) H
def hset (σ : HM) (a : Nat) (o : HO) : HM := (va_up σ.1 a (some o), σ.2)
def hnew (σ : HM) (o : HO) : HM := (va_up σ.1 σ.2 (some o), σ.2 + 1)
def hobj (σ : HM) (a : Nat) : Option (Nat × List Value) := match σ.1 a with
  | some (.inl o) => some o
  | _ => none
def hia (σ : HM) (a : Nat) : Option (Nat × (Nat → Int32)) := match σ.1 a with
  | some (.inr (.inl o)) => some o
  | _ => none
def hra (σ : HM) (a : Nat) : Option (Bool × Nat × (Nat → Option Nat)) := match σ.1 a with
  | some (.inr (.inr o)) => some o
  | _ => none
def hcls (σ : HM) (a : Nat) : Option Nat := (hobj σ a).map (fun o => o.1)
def inb (i : Int32) (n : Nat) : Bool := decide (0 ≤ i.toInt) && decide (i.toInt < n)
def hfld (σ : HM) (S : List Nat) (k a : Nat) : Option Value := match hobj σ a with
  | some o => if S.contains o.1 then o.2[k]? else none
  | none => none
def hfi (σ : HM) (S : List Nat) (k a : Nat) : Option Int32 := match hfld σ S k a with
  | some (.int x) => some x
  | _ => none
def hput (σ : HM) (S : List Nat) (k a : Nat) (v : Value) : Option HM := match hobj σ a with
  | some o => if S.contains o.1 && decide (k < o.2.length) then some (hset σ a (.inl (o.1, o.2.set k v))) else none
  | none => none
def hald (σ : HM) (a : Nat) (i : Int32) : Option Int32 := match hia σ a with
  | some x => if inb i x.1 then some (x.2 i.toNatClampNeg) else none
  | none => none
def hast (σ : HM) (a : Nat) (i v : Int32) : Option HM := match hia σ a with
  | some x => if inb i x.1 then some (hset σ a (.inr (.inl (x.1, upd x.2 i.toNatClampNeg v)))) else none
  | none => none
def hlen (σ : HM) (a : Nat) : Option Int32 := match σ.1 a with
  | some (.inr (.inl x)) => some (Int32.ofNat x.1)
  | some (.inr (.inr x)) => some (Int32.ofNat x.2.1)
  | _ => none
def hrld (σ : HM) (a : Nat) (i : Int32) : Option Value := match hra σ a with
  | some x => if inb i x.2.1 then some (va_rf (x.2.2 i.toNatClampNeg)) else none
  | none => none
def rS (b : Bool) : List Nat := match b with
  | false => [0, 1, 3, 4, 5, 6, 7, 9]
  | true => [8]
def hrst (σ : HM) (a : Nat) (i : Int32) (v : Value) : Option HM := match hra σ a with
  | some x => if inb i x.2.1 then (match v with
    | .null => some (hset σ a (.inr (.inr (x.1, x.2.1, va_up x.2.2 i.toNatClampNeg none))))
    | .ref b => (match hcls σ b with
      | some c => if (rS x.1).contains c then some (hset σ a (.inr (.inr (x.1, x.2.1, va_up x.2.2 i.toNatClampNeg (some b))))) else none
      | none => none)
    | _ => none) else none
  | none => none
def hcpi (σ : HM) (a0 : Nat) (sp : Int32) (a : Nat) (dp n : Int32) : Option HM := match hia σ a0, hia σ a with
  | some x, some y => if decide (0 ≤ sp.toInt) && decide (0 ≤ dp.toInt) && decide (0 ≤ n.toInt) && decide (sp.toNatClampNeg + n.toNatClampNeg ≤ x.1) && decide (dp.toNatClampNeg + n.toNatClampNeg ≤ y.1) then some (hset σ a (.inr (.inl (y.1, va_cpy x.2 y.2 sp.toNatClampNeg dp.toNatClampNeg n.toNatClampNeg)))) else none
  | _, _ => none
def hok (σ : HM) (b : Bool) (r : Option Nat) : Bool := match r with
  | none => true
  | some y => match hcls σ y with
    | some c => (rS b).contains c
    | none => false
def hcpr (σ : HM) (a0 : Nat) (sp : Int32) (a : Nat) (dp n : Int32) : Option HM := match hra σ a0, hra σ a with
  | some x, some y => if decide (0 ≤ sp.toInt) && decide (0 ≤ dp.toInt) && decide (0 ≤ n.toInt) && decide (sp.toNatClampNeg + n.toNatClampNeg ≤ x.2.1) && decide (dp.toNatClampNeg + n.toNatClampNeg ≤ y.2.1) && (List.range n.toNatClampNeg).all (fun i => hok σ y.1 (x.2.2 (sp.toNatClampNeg + i))) then some (hset σ a (.inr (.inr (y.1, y.2.1, va_cpy x.2.2 y.2.2 sp.toNatClampNeg dp.toNatClampNeg n.toNatClampNeg)))) else none
  | _, _ => none
theorem inb_in {i : Int32} {n : Nat} (h : inb i n = true) : vp_in i n := by
  unfold inb at h
  rw [Bool.and_eq_true, decide_eq_true_eq, decide_eq_true_eq] at h
  exact vp_in_iff.mpr h
theorem hobj_at {σ : HM} {a : Nat} {o : Nat × List Value} (h : hobj σ a = some o) : σ.1 a = some (.inl o) := by
  unfold hobj at h
  split at h
  · rename_i q hq; cases h; exact hq
  · cases h
theorem hia_at {σ : HM} {a : Nat} {o : Nat × (Nat → Int32)} (h : hia σ a = some o) : σ.1 a = some (.inr (.inl o)) := by
  unfold hia at h
  split at h
  · rename_i q hq; cases h; exact hq
  · cases h
theorem hra_at {σ : HM} {a : Nat} {o : Bool × Nat × (Nat → Option Nat)} (h : hra σ a = some o) : σ.1 a = some (.inr (.inr o)) := by
  unfold hra at h
  split at h
  · rename_i q hq; cases h; exact hq
  · cases h
theorem hcls_at {σ : HM} {a c : Nat} (h : hcls σ a = some c) : ∃ fs, σ.1 a = some (.inl (c, fs)) := by
  unfold hcls at h
  cases ho : hobj σ a with
  | none => rw [ho] at h; cases h
  | some o => rw [ho] at h; cases h; exact ⟨o.2, hobj_at ho⟩
theorem HS.put {κ : KP} {A : Nat → Prop} {σ : HM} {H H1 : Heap} {a : Nat} {o o0 : HO} (h : HS κ A σ H) (h0 : σ.1 a = some o0) (he : va_at (kD κ) vwCl (a, toE κ o) H1) (z : H1.size = H.size) (oq : ∀ q : Nat, q ≠ a → H1[q]? = H[q]?) : HS κ A (hset σ a o) H1 := by
  refine ⟨⟨z.trans h.1.1, h.1.2⟩, fun q e hq => ?_⟩
  by_cases hqa : q = a
  · subst hqa
    simp only [hset, va_up, if_true] at hq
    cases hq
    exact ⟨(h.2 q _ h0).1, he⟩
  · simp only [hset, va_up, if_neg hqa] at hq
    exact ⟨(h.2 q _ hq).1, (h.2 q _ hq).2.kept (oq q hqa)⟩
theorem HS.push {κ : KP} {A : Nat → Prop} {σ : HM} {H H1 : Heap} {o : HO} (h : HS κ A σ H) (hκ : kF κ = true) (he : va_at (kD κ) vwCl (H.size, toE κ o) H1) (z : H1.size = H.size + 1) (oq : ∀ q : Nat, q < H.size → H1[q]? = H[q]?) : HS κ A (hnew σ o) H1 := by
  have hA : A H.size := h.1.2 hκ _ (by rw [h.1.1]; exact Nat.le_refl _)
  refine ⟨⟨z.trans (by rw [h.1.1]; rfl), fun hf q hq => h.1.2 hf q (Nat.le_trans (Nat.le_succ _) hq)⟩, fun q e hq => ?_⟩
  by_cases hqa : q = σ.2
  · subst hqa
    simp only [hnew, va_up, if_true] at hq
    cases hq
    rw [← h.1.1]
    exact ⟨hA, he⟩
  · simp only [hnew, va_up, if_neg hqa] at hq
    exact ⟨(h.2 q _ hq).1, (h.2 q _ hq).2.kept (oq q (h.2 q _ hq).2.lt)⟩
/-- a field that is read -/
def FG (own : String) (idx : Nat) (S : List Nat) (k : Nat) : Prop := ∃ (ref nm ds : String), Cond.fieldLink own idx ref nm ds ∈ WT ∧ ∀ c ∈ S, ∃ (C : String) (T : u_T) (N : Nat), vwCl[c]? = some (C, T, N) ∧ k < N ∧ (T k).2.1 = nm ∧ (T k).2.2.1 = ds ∧ (∀ w ∈ u_ws C T N, w ∈ WT) ∧ ((T k).1 = ref ∨ Cond.sameField ref (T k).1 nm ds ∈ WT)
/-- a field that is written -/
def FP (own : String) (idx : Nat) (S : List Nat) (k : Nat) (ty : FieldType) (fin : Bool) : Prop := ∃ (ref nm ds : String), Cond.fieldLink own idx ref nm ds ∈ WT ∧ parseFieldDescriptor ds = some ty ∧ ∀ c ∈ S, ∃ (C : String) (T : u_T) (N : Nat) (ty0 : Nat → FieldType), vwCl[c]? = some (C, T, N) ∧ k < N ∧ (T k).2.1 = nm ∧ (T k).2.2.1 = ds ∧ (∀ w ∈ u_ws C T N, w ∈ WT) ∧ ((T k).1 = ref ∨ Cond.sameField ref (T k).1 nm ds ∈ WT) ∧ (T k).2.2.2 = fin ∧ (∀ j, j < N → parseFieldDescriptor (T j).2.2.1 = some (ty0 j)) ∧ (∀ a, a < N → ∀ b, b < N → a ≠ b → (T a).2.1 ≠ (T b).2.1) ∧ (fin = true → (T k).1 = own)
section JHEAP
variable {Γ : JC} {κ : KP} {cc : ByteArray} {own : String} {nL : Nat} {ret : Option FieldType} {A : Nat → Prop} {σ σ' : HM} {k n pc idx a i : Nat} {S : List Nat} {lv : List (Nat × Value)} {st : List Value}
theorem hfld_at {v : Value} (h : hfld σ S i a = some v) : ∃ o, σ.1 a = some (.inl o) ∧ o.1 ∈ S ∧ o.2[i]? = some v := by
  unfold hfld at h
  split at h
  · rename_i o ho
    split at h
    · rename_i hc
      exact ⟨o, hobj_at ho, by simpa using hc, h⟩
    · cases h
  · cases h
theorem j_getf {v : Value} (E : JE Γ κ cc own nL ret) (F : FG own idx S i) (hd : decode cc pc = .ok (.getfield idx, 3)) (hv : hfld σ S i a = some v) (kk : J Γ nL (HS κ A σ) k n (pc + 3) lv (v :: st)) : J Γ nL (HS κ A σ) k n pc lv (.ref a :: st) := by
  intro H locs ls hH hS hl
  obtain ⟨o, h1, h2, h3⟩ := hfld_at hv
  obtain ⟨ref, nm, ds, f1, f2⟩ := F
  obtain ⟨C, T, N, g1, g2, rfl, rfl, g5, g6⟩ := f2 _ h2
  refine va_get (D := kD κ) (ci := o.1) (fs := o.2) (C := C) (T := T) (N := N) (ref := ref) (ws := [(a, .inr o)]) E.1 E.2.1 E.2.2.2.2.1 g5 E.2.2.2.1 E.2.2.2.2.2.2.2.1.1 ?_ 0 rfl g1 i g2 (E.2.2.2.2.1 _ f1) ?_ h3 hd (kk H locs ls hH hS hl)
  · intro q e hq
    cases q with
    | zero => cases hq; exact (hH.2 a _ h1).2
    | succ q => simp at hq
  · rcases g6 with g6 | g6
    · intro x hx; rw [← g6]; exact hx
    · exact u_same (E.2.2.2.2.1 _ g6)
theorem hfi_at {x : Int32} (h : hfi σ S i a = some x) : hfld σ S i a = some (.int x) := by
  unfold hfi at h
  split at h
  · rename_i y hy; cases h; exact hy
  · cases h
theorem j_getI {x : Int32} (E : JE Γ κ cc own nL ret) (F : FG own idx S i) (hd : decode cc pc = .ok (.getfield idx, 3)) (hv : hfi σ S i a = some x) (kk : J Γ nL (HS κ A σ) k n (pc + 3) lv (.int x :: st)) : J Γ nL (HS κ A σ) k n pc lv (.ref a :: st) := j_getf E F hd (hfi_at hv) kk
theorem hput_at {v : Value} (h : hput σ S i a v = some σ') : ∃ o, σ.1 a = some (.inl o) ∧ o.1 ∈ S ∧ i < o.2.length ∧ σ' = hset σ a (.inl (o.1, o.2.set i v)) := by
  unfold hput at h
  split at h
  · rename_i o ho
    split at h
    · rename_i hc
      rw [Bool.and_eq_true, decide_eq_true_eq] at hc
      exact ⟨o, hobj_at ho, by simpa using hc.1, hc.2, (Option.some.inj h).symm⟩
    · cases h
  · cases h
theorem j_put {v : Value} {ty : FieldType} (E : JE Γ κ cc own nL ret) (F : FP own idx S i ty false) (hd : decode cc pc = .ok (.putfield idx, 3)) (hn : narrow ty v = v) (hf : fits ty v = true) (hv : hput σ S i a v = some σ') (hAA : ∀ q, A q → jA Γ q) (kk : J Γ nL (HS κ A σ') k n (pc + 3) lv st) : J Γ nL (HS κ A σ) k n pc lv (v :: .ref a :: st) := by
  intro H locs ls hH hS hl
  obtain ⟨o, h1, h2, h3, rfl⟩ := hput_at hv
  obtain ⟨ref, nm, ds, f1, f0, f2⟩ := F
  obtain ⟨C, T, N, ty0, hc, hk, rfl, rfl, hin, g6, hfin, hty, hnm, -⟩ := f2 _ h2
  obtain ⟨hAa, hat⟩ := hH.2 a _ h1
  have hK := E.2.2.2.2.2.2.2.1.1
  have hts := E.2.2.2.2.1
  have hap := va_apart (own := own) hts hin ty0 hty hnm hK hc
  obtain ⟨r, r1, cell, q1, q2, q3, q4⟩ := hat
  have hr : r = (C, T, N) := Option.some.inj (r1.symm.trans hc)
  subst hr
  obtain ⟨hSl, hfc, kC, hkC, hkind⟩ := hK.1 o.1 _ hc
  obtain ⟨cf, kf, fi, f, hi, hsl⟩ := hSl i hk
  have hlay := hts _ (hin _ (u_in_lay hk))
  unfold u_lay at hlay
  rw [if_neg (by rw [hfin]; decide)] at hlay
  have hst := (u_facts hfc hkC (u_lays hts hin hk) hi).1
  have h6 := u_store hfc hkC hkind hlay hi f0 hn hf
  have hsame : (jS Γ).fieldFound? ref (T i).2.1 (T i).2.2.1 = some (cf, kf, fi, f) := by
    rcases g6 with g6 | g6
    · rw [← g6]; exact hi
    · exact u_same (hts _ g6) _ hi
  refine W.putK E.1 E.2.1 (f := f) ⟨E.2.2.2.1, hts _ f1, ⟨_, _, _, hsame⟩, hst⟩ (by rw [q2]; exact h6) q1 q3 (by rw [hsl]; exact k2_hasslot (q4 i hk)) rfl rfl hd fun H' e1 e2 e3 => ?_
  rw [hsl] at e1 ⊢
  exact kk H' _ ls (hH.put h1 ⟨_, hc, t_OB.to (V := updV (vp_V o.2) i v) ⟨_, e1, q2, q3, t_set q4 hap hk v⟩ (fun j _ => vp_updV_set h3 v j)⟩ e2 e3) (hS.put e2 e3 (hAA a hAa)) hl
theorem j_putF {v : Value} {ty : FieldType} (E : JE Γ κ cc own nL ret) (F : FP own idx S i ty true) (hI : (jT Γ).name = "<init>") (hd : decode cc pc = .ok (.putfield idx, 3)) (hn : narrow ty v = v) (hf : fits ty v = true) (hv : hput σ S i a v = some σ') (hAA : ∀ q, A q → jA Γ q) (kk : J Γ nL (HS κ A σ') k n (pc + 3) lv st) : J Γ nL (HS κ A σ) k n pc lv (v :: .ref a :: st) := by
  intro H locs ls hH hS hl
  obtain ⟨o, h1, h2, h3, rfl⟩ := hput_at hv
  obtain ⟨ref, nm, ds, f1, f0, f2⟩ := F
  obtain ⟨C, T, N, ty0, hc, hk, rfl, rfl, hin, g6, hfin, hty, hnm, hdecl⟩ := f2 _ h2
  obtain ⟨hAa, hat⟩ := hH.2 a _ h1
  have hK := E.2.2.2.2.2.2.2.1.1
  have hts := E.2.2.2.2.1
  have hap := va_apart (own := own) hts hin ty0 hty hnm hK hc
  obtain ⟨r, r1, cell, q1, q2, q3, q4⟩ := hat
  have hr : r = (C, T, N) := Option.some.inj (r1.symm.trans hc)
  subst hr
  obtain ⟨hSl, hfc, kC, hkC, hkind⟩ := hK.1 o.1 _ hc
  obtain ⟨cf, kf, fi, f, hi, hsl⟩ := hSl i hk
  have hlay := hts _ (hin _ (u_in_lay hk))
  unfold u_lay at hlay
  rw [if_pos hfin] at hlay
  have hst := (u_facts hfc hkC (u_lays hts hin hk) hi).1
  have hcf : (jM Γ).cls = cf := by
    obtain ⟨_, _, c', _, _, _, -, -, hf', -, -, -, hown2, -⟩ := Cond.laysFinal_spec hlay
    have e1 : c' = cf := by have := hi.symm.trans hf'; simp at this; exact this.1.symm
    rw [hdecl rfl] at hown2
    rw [← e1]; exact Option.some.inj (E.2.2.2.1.symm.trans hown2)
  have h6 := u_fits hfc hkC hkind (Or.inr hlay) hi f0 hn hf
  have hsame : (jS Γ).fieldFound? ref (T i).2.1 (T i).2.2.1 = some (cf, kf, fi, f) := by
    rcases g6 with g6 | g6
    · rw [← g6]; exact hi
    · exact u_same (hts _ g6) _ hi
  refine W.putFinK E.1 E.2.1 E.2.2.2.1 (hts _ f1) hsame hst hcf hI (by rw [q2]; exact h6) q1 q3 (by rw [hsl]; exact k2_hasslot (q4 i hk)) rfl rfl hd fun H' e1 e2 e3 => ?_
  rw [hsl] at e1 ⊢
  exact kk H' _ ls (hH.put h1 ⟨_, hc, t_OB.to (V := updV (vp_V o.2) i v) ⟨_, e1, q2, q3, t_set q4 hap hk v⟩ (fun j _ => vp_updV_set h3 v j)⟩ e2 e3) (hS.put e2 e3 (hAA a hAa)) hl
-- arrays
theorem hald_at {ix x : Int32} (h : hald σ a ix = some x) : ∃ q, σ.1 a = some (.inr (.inl q)) ∧ vp_in ix q.1 ∧ q.2 ix.toNatClampNeg = x := by
  unfold hald at h
  split at h
  · rename_i q hq
    split at h
    · rename_i hi; cases h; exact ⟨q, hia_at hq, inb_in hi, rfl⟩
    · cases h
  · cases h
theorem j_iald {ix x : Int32} (E : JE Γ κ cc own nL ret) (hd : decode cc pc = .ok (.iaload, 1)) (hv : hald σ a ix = some x) (kk : J Γ nL (HS κ A σ) k n (pc + 1) lv (.int x :: st)) : J Γ nL (HS κ A σ) k n pc lv (.int ix :: .ref a :: st) := by
  intro H locs ls hH hS hl
  obtain ⟨q, h1, h2, rfl⟩ := hald_at hv
  refine va_iald (D := kD κ) (cl := vwCl) (ws := [(a, .inl (kI κ, q.1, .inl q.2))]) E.1 E.2.1 E.2.2.2.2.2.2.2.1.1 ?_ 0 0 rfl rfl h2 hd (kk H locs ls hH hS hl)
  intro j e hq
  cases j with
  | zero => cases hq; exact (hH.2 a _ h1).2
  | succ j => simp at hq
theorem hast_at {ix x : Int32} (h : hast σ a ix x = some σ') : ∃ q, σ.1 a = some (.inr (.inl q)) ∧ vp_in ix q.1 ∧ σ' = hset σ a (.inr (.inl (q.1, upd q.2 ix.toNatClampNeg x))) := by
  unfold hast at h
  split at h
  · rename_i q hq
    split at h
    · rename_i hi; exact ⟨q, hia_at hq, inb_in hi, (Option.some.inj h).symm⟩
    · cases h
  · cases h
theorem j_iast {ix x : Int32} (E : JE Γ κ cc own nL ret) (hd : decode cc pc = .ok (.iastore, 1)) (hv : hast σ a ix x = some σ') (hAA : ∀ q, A q → jA Γ q) (kk : J Γ nL (HS κ A σ') k n (pc + 1) lv st) : J Γ nL (HS κ A σ) k n pc lv (.int x :: .int ix :: .ref a :: st) := by
  intro H locs ls hH hS hl
  obtain ⟨q, h1, h2, rfl⟩ := hast_at hv
  obtain ⟨hAa, hat⟩ := hH.2 a _ h1
  have hK := E.2.2.2.2.2.2.2.1.1
  refine W.iast E.1 E.2.1 (show H[a]? = some (vp_cell (kI κ) (q.1, .inl q.2)) from hat) ((hK.2 0 _ rfl).1 q.1 (fun j => .int (q.2 j))) (fun z => by cases z) (by show ¬ (ix < 0 ∨ (arrV _ _ _).slots.size ≤ _); rw [arrV_size]; exact h2) rfl rfl hd fun H1 e z oq => ?_
  refine kk H1 _ ls (hH.put h1 ?_ z oq) (hS.put z oq (hAA a hAa)) hl
  show H1[a]? = some (vp_cell _ _)
  rw [e]
  rw [vp_cell_i, vp_cell_i, arrV_store]
  congr 2
  funext j
  by_cases hj : j = ix.toNatClampNeg
  · subst hj
    simp [updV, upd]
  · simp [updV, upd, hj]
theorem j_alen {x : Int32} (E : JE Γ κ cc own nL ret) (hd : decode cc pc = .ok (.arraylength, 1)) (hv : hlen σ a = some x) (kk : J Γ nL (HS κ A σ) k n (pc + 1) lv (.int x :: st)) : J Γ nL (HS κ A σ) k n pc lv (.ref a :: st) := by
  intro H locs ls hH hS hl
  unfold hlen at hv
  split at hv
  · rename_i q h1
    cases hv
    refine va_alen (D := kD κ) (cl := vwCl) (ws := [(a, .inl (kI κ, q.1, .inl q.2))]) (ty := .int) E.1 E.2.1 E.2.2.2.2.2.2.2.1.1 ?_ 0 0 rfl rfl rfl hd (kk H locs ls hH hS hl)
    intro j e hq
    cases j with
    | zero => cases hq; exact (hH.2 a _ h1).2
    | succ j => simp at hq
  · rename_i q h1
    cases hv
    obtain ⟨b, m, f⟩ := q
    refine va_alen (D := kD κ) (cl := vwCl) (ws := [(a, .inl (kB κ b, m, .inr (.inr (.inr (.inr f)))))]) (ty := .object (rkB b)) E.1 E.2.1 E.2.2.2.2.2.2.2.1.1 ?_ 0 (tkB b) rfl (kT_at κ b) rfl hd (kk H locs ls hH hS hl)
    intro j e hq
    cases j with
    | zero => cases hq; exact (hH.2 a _ h1).2
    | succ j => simp at hq
  · cases hv
theorem hrld_at {ix : Int32} {v : Value} (h : hrld σ a ix = some v) : ∃ q, σ.1 a = some (.inr (.inr q)) ∧ vp_in ix q.2.1 ∧ va_rf (q.2.2 ix.toNatClampNeg) = v := by
  unfold hrld at h
  split at h
  · rename_i q hq
    split at h
    · rename_i hi; cases h; exact ⟨q, hra_at hq, inb_in hi, rfl⟩
    · cases h
  · cases h
theorem j_rald {ix : Int32} {v : Value} (E : JE Γ κ cc own nL ret) (hd : decode cc pc = .ok (.aaload, 1)) (hv : hrld σ a ix = some v) (kk : J Γ nL (HS κ A σ) k n (pc + 1) lv (v :: st)) : J Γ nL (HS κ A σ) k n pc lv (.int ix :: .ref a :: st) := by
  intro H locs ls hH hS hl
  obtain ⟨⟨b, m, f⟩, h1, h2, rfl⟩ := hrld_at hv
  refine va_aldq (D := kD κ) (cl := vwCl) (ws := [(a, .inl (kB κ b, m, .inr (.inr (.inr (.inr f)))))]) (C := rkB b) E.1 E.2.1 E.2.2.2.2.2.2.2.1.1 ?_ 0 (tkB b) rfl (kT_at κ b) h2 hd (kk H locs ls hH hS hl)
  intro j e hq
  cases j with
  | zero => cases hq; exact (hH.2 a _ h1).2
  | succ j => simp at hq
/-- what may lie in the arrays of references: classes below the one that they are of -/
def RA (b : Bool) : Prop := ∀ c ∈ rS b, ∃ q : vw_C, vwCl[c]? = some q ∧ (Cond.castable q.1 (rkB b) ∈ NWs ∨ q.1 = (rkB b))
theorem hrst_at {ix : Int32} {v : Value} (h : hrst σ a ix v = some σ') : ∃ q, σ.1 a = some (.inr (.inr q)) ∧ vp_in ix q.2.1 ∧ ((v = .null ∧ σ' = hset σ a (.inr (.inr (q.1, q.2.1, va_up q.2.2 ix.toNatClampNeg none)))) ∨ ∃ y c fs, v = .ref y ∧ σ.1 y = some (.inl (c, fs)) ∧ c ∈ rS q.1 ∧ σ' = hset σ a (.inr (.inr (q.1, q.2.1, va_up q.2.2 ix.toNatClampNeg (some y))))) := by
  unfold hrst at h
  split at h
  · rename_i q hq
    split at h
    · rename_i hi
      refine ⟨q, hra_at hq, inb_in hi, ?_⟩
      split at h
      · exact Or.inl ⟨rfl, (Option.some.inj h).symm⟩
      · rename_i y
        split at h
        · rename_i c hc
          split at h
          · rename_i hcon
            obtain ⟨fs, hfs⟩ := hcls_at hc
            exact Or.inr ⟨y, c, fs, rfl, hfs, by simpa using hcon, (Option.some.inj h).symm⟩
          · cases h
        · cases h
      · cases h
    · cases h
  · cases h
theorem j_assign (E : JE Γ κ cc own nL ret) {b : Bool} (hRA : RA b) {c : Nat} (hc : c ∈ rS b) {comp : ClassId} (hcomp : (jS Γ).vm.findClass (rkB b) = some comp) : ∃ (q : vw_C), vwCl[c]? = some q ∧ (jS Γ).vm.findClass q.1 = some ((kD κ).1 c) ∧ (∃ kC : Class, (jS Γ).vm.classes[(kD κ).1 c]? = some kC) ∧ (jS Γ).vm.assignable ((kD κ).1 c) comp = true := by
  obtain ⟨q, hq, h⟩ := hRA c hc
  have hK := E.2.2.2.2.2.2.2.1.1
  have hcls := (hK.1 c q hq).2
  obtain ⟨kC, hkC, -⟩ := hcls.2
  refine ⟨q, hq, hcls.1, ⟨kC, hkC⟩, ?_⟩
  rcases h with h | h
  · obtain ⟨c0, t1, f1, f2, f3⟩ := Cond.castable_spec (j_nw E h)
    cases hcls.1.symm.trans f1
    cases hcomp.symm.trans f2
    exact f3
  · rw [← h] at hcomp
    cases hcls.1.symm.trans hcomp
    exact va_assign hcls
theorem j_rast {ix : Int32} {v : Value} (E : JE Γ κ cc own nL ret) (hRA : ∀ b, RA b) (hd : decode cc pc = .ok (.aastore, 1)) (hv : hrst σ a ix v = some σ') (hAA : ∀ q, A q → jA Γ q) (kk : J Γ nL (HS κ A σ') k n (pc + 1) lv st) : J Γ nL (HS κ A σ) k n pc lv (v :: .int ix :: .ref a :: st) := by
  intro H locs ls hH hS hl
  have hK := E.2.2.2.2.2.2.2.1.1
  obtain ⟨⟨b, m, f⟩, h1, h2, h3⟩ := hrst_at hv
  obtain ⟨hAa, hat⟩ := hH.2 a _ h1
  have hlt : ix.toNatClampNeg < m := Nat.not_le.mp fun q => h2 (Or.inr q)
  have h0 : ¬ ix < 0 := fun q => h2 (Or.inl q)
  have hty := kT_at κ b
  rcases h3 with ⟨rfl, rfl⟩ | ⟨y, c, fs, rfl, hy, hc, rfl⟩
  · refine va_WaastN (C := rkB b) E.1 E.2.1 (show H[a]? = some (vp_cell (kB κ b) (m, .inr (.inr (.inr (.inr f))))) from hat) ((hK.2 _ _ hty).1 m (fun j => va_rf (f j))) (fun h => by cases h) (by show ¬ (ix < 0 ∨ (arrV _ _ _).slots.size ≤ _); rw [arrV_size]; exact h2) rfl rfl hd fun H1 e z oq => ?_
    refine kk H1 _ ls (hH.put h1 ?_ z oq) (hS.put z oq (hAA a hAa)) hl
    show H1[a]? = some (vp_cell _ _)
    rw [e]
    rw [vp_cell_q, vp_cell_q, arrV_store]
    congr 2
    funext j
    by_cases hj : j = ix.toNatClampNeg
    · subst hj
      simp [updV, va_up, va_rf]
    · simp [updV, va_up, hj]
  · obtain ⟨kA, comp, k1, k2, k3, -⟩ := (hK.2 _ _ hty).2
    obtain ⟨kE, hkE, -⟩ := Vm.findClass_spec k3
    obtain ⟨q, hq, hqc, ⟨kC, hkC⟩, hasg⟩ := j_assign E (hRA b) hc k3
    obtain ⟨r', hr', cellV, g1, g2, g3, -⟩ := (hH.2 y _ hy).2
    refine W.aast E.1 E.2.1 (show H[a]? = some (vp_cell (kB κ b) (m, .inr (.inr (.inr (.inr f))))) from hat) (fun q h => by cases h) (fun h => by cases h) k1 k2 rfl hkE ⟨h0, by show _ < (arrV _ _ _).slots.size; rw [arrV_size]; exact hlt⟩ g1 (fun q h => by rw [g3] at h; cases h) (by rw [g2]; exact hkC) (by rw [g2]; exact hasg) rfl rfl hd fun H1 e z oq => ?_
    refine kk H1 _ ls (hH.put h1 ?_ z oq) (hS.put z oq (hAA a hAa)) hl
    show H1[a]? = some (vp_cell _ _)
    rw [e]
    rw [vp_cell_q, vp_cell_q, arrV_store]
    congr 2
    funext j
    by_cases hj : j = ix.toNatClampNeg
    · subst hj
      simp [updV, va_up, va_rf]
    · simp [updV, va_up, hj]
-- statics
theorem j_gets {C nm ds ref : String} {v : Value} (E : JE Γ κ cc own nL ret) (hZ : va_Z C nm ds v (jA Γ) (jS Γ) (jS Γ).heap) (hw : Cond.fieldLink own idx C nm ds ∈ WT) (hd : decode cc pc = .ok (.getstatic idx, 3)) {HP : Heap → Prop} (kk : J Γ nL HP k n (pc + 3) lv (v :: st)) : J Γ nL HP k n pc lv st :=
  fun H locs ls hH hS hl => va_gets E.1 E.2.1 hZ hS E.2.2.2.1 (E.2.2.2.2.1 _ hw) (fun _ h => h) hd (kk H locs ls hH hS hl)
theorem j_getsN {C nm ds host : String} {v : Value} (E : JE Γ κ cc own nL ret) (hZ : va_Z C nm ds v (jA Γ) (jS Γ) (jS Γ).heap) (hw : Cond.fieldLinkNest own idx C nm ds host ∈ NWs) (hd : decode cc pc = .ok (.getstatic idx, 3)) {HP : Heap → Prop} (kk : J Γ nL HP k n (pc + 3) lv (v :: st)) : J Γ nL HP k n pc lv st :=
  fun H locs ls hH hS hl => va_getsN E.1 E.2.1 hZ hS E.2.2.2.1 (j_nw E hw) (fun _ h => h) hd (kk H locs ls hH hS hl)
theorem j_tld {t N : Nat} {f : Nat → Int32} {ix : Int32} (E : JE Γ κ cc own nL ret) (hT : va_T .int t N (fun j => .int (f j)) (jA Γ) (jS Γ) (jS Γ).heap) (hd : decode cc pc = .ok (.iaload, 1)) (hi : inb ix N = true) {HP : Heap → Prop} (kk : J Γ nL HP k n (pc + 1) lv (.int (f ix.toNatClampNeg) :: st)) : J Γ nL HP k n pc lv (.int ix :: .ref t :: st) :=
  fun H locs ls hH hS hl => va_ti E.1 E.2.1 hT hS (inb_in hi) rfl hd (kk H locs ls hH hS hl)
-- making
theorem j_new {C : String} {T : u_T} {N ci : Nat} {ty0 : Nat → FieldType} {fs : List Value} (E : JE Γ κ cc own nL ret) (hc : vwCl[ci]? = some (C, T, N)) (hw : Cond.classLink own idx C ∈ WT ∧ Cond.instantiable C N ∈ WT ∧ Cond.initialized C ∈ WT) (hin : ∀ w ∈ u_ws C T N, w ∈ WT) (hty : ∀ j, j < N → parseFieldDescriptor (T j).2.2.1 = some (ty0 j)) (hfs : ∀ j, j < N → defaultValue (ty0 j) = vp_V fs j) (hd : decode cc pc = .ok (.new idx, 3)) (hk : k + 1 ≤ (jR Γ).cells) (hn : n + N ≤ (jR Γ).slots) (hκ : kF κ = true)
    (kk : J Γ nL (HS κ A (hnew σ (.inl (ci, fs)))) (k + 1) (n + N) (pc + 3) lv (.ref σ.2 :: st)) : J Γ nL (HS κ A σ) k n pc lv st := by
  intro H locs ls hH hS hl
  have hts := E.2.2.2.2.1
  have hKn := E.2.2.2.2.2.2.2.1.1.1 ci _ hc
  refine W.newcK E.1 E.2.1 E.2.2.2.1 (hts _ hw.1) (hts _ hw.2.1) (hts _ hw.2.2) rfl hd hk hn hKn.2.1 rfl fun H1 kC hkC e1 z1 o1 => ?_
  have hP : HS κ A (hnew σ (.inl (ci, fs))) H1 := hH.push hκ ⟨_, hc, (u_born ty0 hts hin hKn hkC e1 hty).to hfs⟩ z1 o1
  rw [hH.1.1]
  exact kk H1 locs ls hP ⟨Nat.le_trans hS.1 (by omega), fun x h1 h2 => (o1 x (Nat.lt_of_lt_of_le h1 hS.1)).trans (hS.2.1 x h1 h2), hS.2.2⟩ hl
theorem j_newa {m : Int32} {N : Nat} (E : JE Γ κ cc own nL ret) (hw : Cond.arrayClass .int ∈ WT) (hm : ¬ m < 0) (hN : m.toNatClampNeg = N) (hsm : N ≤ 100000) (hd : decode cc pc = .ok (.newarray .int, 2)) (hk : k + 1 ≤ (jR Γ).cells) (hn : n + N ≤ (jR Γ).slots) (hκ : kF κ = true)
    (kk : J Γ nL (HS κ A (hnew σ (.inr (.inl (N, fun _ => 0))))) (k + 1) (n + N) (pc + 2) lv (.ref σ.2 :: st)) : J Γ nL (HS κ A σ) k n pc lv (.int m :: st) := by
  intro H locs ls hH hS hl
  have hts := E.2.2.2.2.1
  refine va_newaK (atype := .int) E.1 E.2.1 (hts _ hw) rfl hd rfl hm hN (by show N * 4 ≤ _; omega) hk hn rfl fun H1 cA e1 z1 o1 hAr hNm => ?_
  have hcA : cA = kI κ := Option.some.inj (hNm.symm.trans (E.2.2.2.2.2.2.2.1.1.2 0 _ rfl).2)
  subst hcA
  have hP : HS κ A (hnew σ (.inr (.inl (N, fun _ => 0)))) H1 := hH.push hκ e1 z1 o1
  rw [hH.1.1]
  exact kk H1 locs ls hP ⟨Nat.le_trans hS.1 (by omega), fun x h1 h2 => (o1 x (Nat.lt_of_lt_of_le h1 hS.1)).trans (hS.2.1 x h1 h2), hS.2.2⟩ hl
theorem j_newr {m : Int32} {N : Nat} (b : Bool) (E : JE Γ κ cc own nL ret) (hw : Cond.classLink own idx (rkB b) ∈ WT ∧ Cond.arrayOver (.object (rkB b)) ∈ NWs) (hm : ¬ m < 0) (hN : m.toNatClampNeg = N) (hsm : N ≤ 100000) (hd : decode cc pc = .ok (.anewarray idx, 3)) (hk : k + 1 ≤ (jR Γ).cells) (hn : n + N ≤ (jR Γ).slots) (hκ : kF κ = true)
    (kk : J Γ nL (HS κ A (hnew σ (.inr (.inr (b, N, fun _ => none))))) (k + 1) (n + N) (pc + 3) lv (.ref σ.2 :: st)) : J Γ nL (HS κ A σ) k n pc lv (.int m :: st) := by
  intro H locs ls hH hS hl
  subst hN
  have hts := E.2.2.2.2.1
  refine W.anew E.1 E.2.1 E.2.2.2.1 (hts _ hw.1) (j_nw E hw.2) rfl hd rfl hm (by omega) hk hn fun cA kA comp f1 f2 f3 f4 => ?_
  generalize hH1 : H.push ({ cls := cA, slots := Array.replicate m.toNatClampNeg .null, vm := .none } : Cell) = H1
  have z1 : H1.size = H.size + 1 := by rw [← hH1, Array.size_push]
  have e1 : H1[H.size]? = some (arrV cA m.toNatClampNeg (fun _ => .null)) := by rw [← hH1, Array.getElem?_push_size, ← arrV_new]
  have o1 : ∀ q : Nat, q < H.size → H1[q]? = H[q]? := fun q hq => by rw [← hH1, Array.getElem?_push, if_neg (Nat.ne_of_lt hq)]
  have hcA : cA = kB κ b := by
    cases b
    · obtain ⟨_, _, -, -, -, h4⟩ := (E.2.2.2.2.2.2.2.1.1.2 1 _ rfl).2
      exact Option.some.inj (f1.symm.trans h4)
    · obtain ⟨_, _, -, -, -, h4⟩ := (E.2.2.2.2.2.2.2.1.1.2 2 _ rfl).2
      exact Option.some.inj (f1.symm.trans h4)
  subst hcA
  have hP : HS κ A (hnew σ (.inr (.inr (b, m.toNatClampNeg, fun _ => none)))) H1 := hH.push hκ e1 z1 o1
  rw [hH.1.1]
  exact kk H1 locs ls hP ⟨Nat.le_trans hS.1 (by omega), fun x h1 h2 => (o1 x (Nat.lt_of_lt_of_le h1 hS.1)).trans (hS.2.1 x h1 h2), hS.2.2⟩ hl
end JHEAP
/-- the receiver's class is looked at -/
def ocl {α : Type} (σ : HM) (a c : Nat) (x : Option α) : Option α := if hcls σ a = some c then x else none
theorem ocl_at {α : Type} {σ : HM} {a c : Nat} {x : Option α} {r : α} (h : ocl σ a c x = some r) : hcls σ a = some c ∧ x = some r := by
  unfold ocl at h
  split at h
  · rename_i hc; exact ⟨hc, h⟩
  · cases h
abbrev sP : List Nat := [0, 1, 3, 4, 5, 6, 7, 9]
end
section
/-! CALLS -/
section JCALL
variable {Γ : JC} {κ : KP} {cc : ByteArray} {own : String} {nL : Nat} {ret : Option FieldType} {HP HP1 P P1 : Heap → Prop} {A1 : Nat → Prop} {k n pc idx mc ms : Nat} {lv : List (Nat × Value)} {st rest : List Value} {o : Option Value}
theorem j_run {a : Array Value} (E : JE Γ κ cc own nL ret) (hA1 : ∀ q, A1 q → jA Γ q)
    (hpost : ∀ H H1, HP H → P1 H1 → H.size ≤ H1.size → (∀ q, q < H.size → ¬ A1 q → H1[q]? = H[q]?) → HP1 H1)
    (hr : ∀ (H : Heap) (locs : List Loc) (ls : Array Slot), HP H → va_S (jA Γ) (jS Γ).heap H locs → lv_has ls nL lv → va_Run (jP Γ) (jL Γ) (jE Γ) (jR Γ) (jS Γ) (jM Γ) (jV Γ) (jB Γ) (jT Γ) (jC Γ) H locs k n mc ms (F0 (jM Γ) pc ls st) rest (QQ o P1 A1 a) A1)
    (kk : J Γ nL HP1 (k + mc) (n + ms) (pc + 3) lv (o.toList ++ rest)) : J Γ nL HP k n pc lv st := by
  intro H locs ls hH hS hl T hT X
  obtain ⟨v, st₀, t, T', L, h0, X', hL, e1, e2, ⟨hv, hp, hz, hk⟩, stp⟩ := hr H locs ls hH hS hl T hT X
  cases hv
  rw [h0] at hz hk
  have hS' : va_S (jA Γ) (jS Γ).heap T'.heap (locs ++ L) := ⟨Nat.le_trans hS.1 (by rw [e1]; exact hz), fun q h1 h2 => by rw [e1, hk q (Nat.lt_of_lt_of_le h1 hS.1) (fun z => h2 (hA1 q z))]; exact hS.2.1 q h1 h2, fun q hq => by
      rcases List.mem_append.mp hq with h | h
      · exact hS.2.2 q h
      · exact hA1 _ (hL q h)⟩
  obtain ⟨t2, a1, b1⟩ := kk T'.heap (locs ++ L) ls (hpost H T'.heap hH (by rw [e1]; exact hp) (by rw [e1]; exact hz) (fun q h1 h2 => by rw [e1]; exact hk q h1 h2)) hS' hl T' rfl X'
  exact ⟨t2, stp t2 a1, b1⟩
/-- how much a callee may take: frames and words of locals by its level -/
def rmL (d mc ms : Nat) : Room := { frames := d, cells := mc, slots := ms, locals := 40 * d }
theorem rmL_le {d D mL : Nat} {C S : Nat} (h : d < D) (hm : mL ≤ 21) : (rmL d mc ms).frames + 1 ≤ (rmL D C S).frames ∧ 8 + (mL + 11) + (rmL d mc ms).locals ≤ (rmL D C S).locals := by
  show d + 1 ≤ D ∧ 8 + (mL + 11) + 40 * d ≤ 40 * D
  omega
theorem j_cwords (E : JE Γ κ cc own nL ret) {y : MethodName} {bytes : ByteArray} {maxL N d : Nat} {ret' : Option FieldType} (hR : (rmL d mc ms).frames + 1 ≤ (jR Γ).frames ∧ 8 + (maxL + 11) + (rmL d mc ms).locals ≤ (jR Γ).locals) (hc : Cond.code y bytes maxL ret' ∈ WT) (hi : Cond.initialized y.cls ∈ WT) (hl : Cond.methodLink own idx y ∈ WT)
    (hd : y.cls ≠ "java/lang/invoke/MethodHandle" ∧ y.cls ≠ "java/lang/invoke/VarHandle" ∧ (parseMethodDescriptor y.desc).map (fun d => d.parameters.length) = some N) :
    CallB (jR Γ) (jS Γ) (jV Γ) own idx y bytes maxL ret' (Cond.code y bytes maxL ret' :: WT) (rmL d mc ms) mc ms N :=
  callB_of N E.2.2.2.2.1 (wt_goodIn hc) rfl rfl rfl (E.2.2.2.2.1 _ hi) (E.2.2.2.2.1 _ hl) hd hR
theorem j_fix (E : JE Γ κ cc own nL ret) : CallFix (jP Γ) (jM Γ) (jC Γ) cc nL (jS Γ) (jV Γ) WT own := ⟨E.1, E.2.1, E.2.2.1, E.2.2.2.1, E.2.2.2.2.1⟩
theorem j_start (E : JE Γ κ cc own nL ret) (hA1 : ∀ q, A1 q → jA Γ q) {H : Heap} {locs : List Loc} (hS : va_S (jA Γ) (jS Γ).heap H locs) (hp : P H) {As : List Value} : ∀ U : State, U.heap = H → (jS Γ).WarmedH U.vm → PP κ A1 As P As.toArray U :=
  fun U hU hW => ⟨rfl, by rw [hU]; exact hp, KX_up (KX_go E.2.2.2.2.2.2.2.1 hS hU hW) hA1⟩
/-- the words of a static call -/
def CS (own : String) (idx : Nat) (y : MethodName) (bytes : ByteArray) (maxL N : Nat) (ret' : Option FieldType) : Prop := Cond.code y bytes maxL ret' ∈ WT ∧ Cond.initialized y.cls ∈ WT ∧ Cond.methodLink own idx y ∈ WT ∧ Cond.static y ∈ WT ∧ (y.cls ≠ "java/lang/invoke/MethodHandle" ∧ y.cls ≠ "java/lang/invoke/VarHandle" ∧ (parseMethodDescriptor y.desc).map (fun d => d.parameters.length) = some N)
theorem j_calls {y : MethodName} {bytes : ByteArray} {maxL N d : Nat} {ret' : Option FieldType} (As : List Value) (rest : List Value) (E : JE Γ κ cc own nL ret) (w : CS own idx y bytes maxL N ret') (hR : (rmL d mc ms).frames + 1 ≤ (jR Γ).frames ∧ 8 + (maxL + 11) + (rmL d mc ms).locals ≤ (jR Γ).locals) (hA1 : ∀ q, A1 q → jA Γ q)
    (hM : Met (jL Γ) y (Cond.code y bytes maxL ret' :: WT) (rmL d mc ms) (PP κ A1 As P) (QQ o P1 A1) mc ms A1) (hpre : ∀ H, HP H → P H)
    (hpost : ∀ H H1, HP H → P1 H1 → H.size ≤ H1.size → (∀ q, q < H.size → ¬ A1 q → H1[q]? = H[q]?) → HP1 H1)
    (hst : st = As.reverse ++ rest) (hn : As.length = N) (hcat : (rest.map fun v => v.category).sum ≤ 8) (hd : decode cc pc = .ok (.invokestatic idx, 3)) (hk : k + mc ≤ (jR Γ).cells ∧ n + ms ≤ (jR Γ).slots)
    (kk : J Γ nL HP1 (k + mc) (n + ms) (pc + 3) lv (o.toList ++ rest)) : J Γ nL HP k n pc lv st := by
  refine j_run (a := As.toArray) E hA1 hpost (fun H locs ls hH hS hl => ?_) kk
  exact va_runS (As := As) (rest := rest) (j_fix E) hM ⟨j_cwords E hR w.1 w.2.1 w.2.2.1 w.2.2.2.2, E.2.2.2.2.1 _ w.2.2.2.1⟩ ⟨PP_blind, j_start E hA1 hS (hpre H hH)⟩ rfl hn hl.1 hst (lv_room hcat) hd hk
/-- an object of class number c at a: what calls ask of it -/
theorem j_recv {A : Nat → Prop} {σ : HM} {H : Heap} {a c : Nat} {q : vw_C} (E : JE Γ κ cc own nL ret) (hH : HS κ A σ H) (hc : hcls σ a = some c) (hq : vwCl[c]? = some q) : ∃ cell : Cell, H[a]? = some cell ∧ cell.vm.isStatics = false ∧ (jS Γ).vm.findClass q.1 = some cell.cls := by
  obtain ⟨fs, hfs⟩ := hcls_at hc
  refine va_recv (ws := [(a, .inr (c, fs))]) (q0 := 0) E.2.2.2.2.2.2.2.1.1 (?_ : va_P (kD κ) vwCl [(a, .inr (c, fs))] H) hq rfl
  intro j e hj
  cases j with
  | zero => cases hj; exact (hH.2 a _ hfs).2
  | succ j => simp at hj
/-- the words of a virtual call of a method that the receiver's class itself holds, named through it -/
def CV (own : String) (idx : Nat) (C : String) (y : MethodName) (bytes : ByteArray) (maxL N : Nat) (ret' : Option FieldType) : Prop := Cond.code y bytes maxL ret' ∈ WT ∧ Cond.initialized y.cls ∈ WT ∧ Cond.methodLink own idx y ∈ WT ∧ Cond.instanceMethod y ∈ WT ∧ Cond.selects C y y ∈ WT ∧ (y.cls ≠ "java/lang/invoke/MethodHandle" ∧ y.cls ≠ "java/lang/invoke/VarHandle" ∧ (parseMethodDescriptor y.desc).map (fun d => d.parameters.length) = some N)
theorem j_callv {y : MethodName} {bytes : ByteArray} {maxL N d : Nat} {ret' : Option FieldType} {b : Nat} {C : String} (As : List Value) (rest : List Value) (E : JE Γ κ cc own nL ret) (w : CV own idx C y bytes maxL N ret') (hR : (rmL d mc ms).frames + 1 ≤ (jR Γ).frames ∧ 8 + (maxL + 11) + (rmL d mc ms).locals ≤ (jR Γ).locals) (hA1 : ∀ q, A1 q → jA Γ q)
    (hM : Met (jL Γ) y (Cond.code y bytes maxL ret' :: WT) (rmL d mc ms) (PP κ A1 (.ref b :: As) P) (QQ o P1 A1) mc ms A1) (hpre : ∀ H, HP H → P H)
    (hpost : ∀ H H1, HP H → P1 H1 → H.size ≤ H1.size → (∀ q, q < H.size → ¬ A1 q → H1[q]? = H[q]?) → HP1 H1)
    (hrv : ∀ H, HP H → ∃ cell : Cell, H[b]? = some cell ∧ cell.vm.isStatics = false ∧ (jS Γ).vm.findClass C = some cell.cls)
    (hst : st = As.reverse ++ .ref b :: rest) (hn : As.length = N) (hcat : (rest.map fun v => v.category).sum ≤ 8) (hd : decode cc pc = .ok (.invokevirtual idx, 3)) (hk : k + mc ≤ (jR Γ).cells ∧ n + ms ≤ (jR Γ).slots)
    (kk : J Γ nL HP1 (k + mc) (n + ms) (pc + 3) lv (o.toList ++ rest)) : J Γ nL HP k n pc lv st := by
  refine j_run (a := (Value.ref b :: As).toArray) E hA1 hpost (fun H locs ls hH hS hl => ?_) kk
  exact va_runV (As := As) (rest := rest) (j_fix E) hM ⟨j_cwords E hR w.1 w.2.1 w.2.2.1 w.2.2.2.2.2, E.2.2.2.2.1 _ w.2.2.2.1, E.2.2.2.2.1 _ w.2.2.2.2.1⟩ ⟨PP_blind, hrv H hH, j_start E hA1 hS (hpre H hH)⟩ rfl hn hl.1 hst (lv_room hcat) hd hk
/-- the words of a virtual call of a method x that C inherits or overrides by y -/
def CU (own : String) (idx : Nat) (C owner : String) (x y : MethodName) (bytes : ByteArray) (maxL N : Nat) (ret' : Option FieldType) : Prop := Cond.code y bytes maxL ret' ∈ WT ∧ Cond.initialized y.cls ∈ WT ∧ Cond.methodLink own idx x ∈ WT ∧ Cond.instanceMethod y ∈ WT ∧ Cond.selects C x y ∈ WT ∧ Cond.sameMethod x.cls owner x.name x.desc ∈ WT ∧ Cond.instanceMethod ⟨owner, x.name, x.desc⟩ ∈ WT ∧ (∃ b0 m0 r0, Cond.code ⟨owner, x.name, x.desc⟩ b0 m0 r0 ∈ WT) ∧ (owner ≠ "java/lang/invoke/MethodHandle" ∧ owner ≠ "java/lang/invoke/VarHandle" ∧ (parseMethodDescriptor x.desc).map (fun d => d.parameters.length) = some N)
theorem j_callu {x y : MethodName} {bytes : ByteArray} {maxL N d : Nat} {ret' : Option FieldType} {b : Nat} {C owner : String} (As : List Value) (rest : List Value) (E : JE Γ κ cc own nL ret) (w : CU own idx C owner x y bytes maxL N ret') (hR : (rmL d mc ms).frames + 1 ≤ (jR Γ).frames ∧ 8 + (maxL + 11) + (rmL d mc ms).locals ≤ (jR Γ).locals) (hA1 : ∀ q, A1 q → jA Γ q)
    (hM : Met (jL Γ) y (Cond.code y bytes maxL ret' :: WT) (rmL d mc ms) (PP κ A1 (.ref b :: As) P) (QQ o P1 A1) mc ms A1) (hpre : ∀ H, HP H → P H)
    (hpost : ∀ H H1, HP H → P1 H1 → H.size ≤ H1.size → (∀ q, q < H.size → ¬ A1 q → H1[q]? = H[q]?) → HP1 H1)
    (hrv : ∀ H, HP H → ∃ cell : Cell, H[b]? = some cell ∧ cell.vm.isStatics = false ∧ (jS Γ).vm.findClass C = some cell.cls)
    (hst : st = As.reverse ++ .ref b :: rest) (hn : As.length = N) (hcat : (rest.map fun v => v.category).sum ≤ 8) (hd : decode cc pc = .ok (.invokevirtual idx, 3)) (hk : k + mc ≤ (jR Γ).cells ∧ n + ms ≤ (jR Γ).slots)
    (kk : J Γ nL HP1 (k + mc) (n + ms) (pc + 3) lv (o.toList ++ rest)) : J Γ nL HP k n pc lv st := by
  refine j_run (a := (Value.ref b :: As).toArray) E hA1 hpost (fun H locs ls hH hS hl => ?_) kk
  obtain ⟨w1, w2, w3, w4, w5, w6, w7, ⟨b0, m0, r0, w8⟩, w9, w10, w11⟩ := w
  have ok := E.2.2.2.2.1
  have cu : va_CU (jR Γ) (jS Γ) (jV Γ) own C owner idx x y bytes maxL ret' (Cond.code y bytes maxL ret' :: WT) (rmL d mc ms) mc ms N :=
    ⟨⟨rfl, rfl, hR.1, hR.2, pay_in ok (wt_goodIn w1), List.mem_cons_self⟩, ok _ w1, ok _ w2, ⟨w9, w10⟩, fun sig h => by rw [h] at w11; exact (Option.some.inj w11).symm, ok _ w3, ok _ w6, va_Decl.of (ok _ w7) (ok _ w8), ok _ w5, ok _ w4⟩
  exact va_runU (As := As) (rest := rest) (j_fix E) hM cu ⟨PP_blind, hrv H hH, j_start E hA1 hS (hpre H hH)⟩ rfl hn hl.1 hst (lv_room hcat) hd hk
/-- the words of super.m(..) -/
def CX (own : String) (idx : Nat) (y : MethodName) (bytes : ByteArray) (maxL N : Nat) (ret' : Option FieldType) : Prop := Cond.code y bytes maxL ret' ∈ WT ∧ Cond.initialized y.cls ∈ WT ∧ Cond.methodLink own idx y ∈ WT ∧ Cond.instanceMethod y ∈ WT ∧ Cond.sameMethod y.cls y.cls y.name y.desc ∈ WT ∧ Cond.superclass own y.cls ∈ WT ∧ (y.name ≠ "<init>" ∧ (parseMethodDescriptor y.desc).map (fun d => d.parameters.length) = some N)
theorem j_callx {A : Nat → Prop} {σ : HM} {y : MethodName} {bytes : ByteArray} {maxL N d : Nat} {ret' : Option FieldType} {b : Nat} (As : List Value) (rest : List Value) (E : JE Γ κ cc own nL ret) (w : CX own idx y bytes maxL N ret') (hR : (rmL d mc ms).frames + 1 ≤ (jR Γ).frames ∧ 8 + (maxL + 11) + (rmL d mc ms).locals ≤ (jR Γ).locals) (hA1 : ∀ q, A1 q → jA Γ q)
    (hM : Met (jL Γ) y (Cond.code y bytes maxL ret' :: WT) (rmL d mc ms) (PP κ A1 (.ref b :: As) (HS κ A σ)) (QQ o P1 A1) mc ms A1) {c : Nat} (hcl : hcls σ b = some c) (hcv : c < 12)
    (hpost : ∀ H H1, HS κ A σ H → P1 H1 → H.size ≤ H1.size → (∀ q, q < H.size → ¬ A1 q → H1[q]? = H[q]?) → HP1 H1)
    (hst : st = As.reverse ++ .ref b :: rest) (hn : As.length = N) (hcat : (rest.map fun v => v.category).sum ≤ 8) (hd : decode cc pc = .ok (.invokespecial idx, 3)) (hk : k + mc ≤ (jR Γ).cells ∧ n + ms ≤ (jR Γ).slots)
    (kk : J Γ nL HP1 (k + mc) (n + ms) (pc + 3) lv (o.toList ++ rest)) : J Γ nL (HS κ A σ) k n pc lv st := by
  refine j_run (a := (Value.ref b :: As).toArray) E hA1 hpost (fun H locs ls hH hS hl => ?_) kk
  obtain ⟨w1, w2, w3, w4, w5, w6, w7, w8⟩ := w
  have ok := E.2.2.2.2.1
  obtain ⟨q, hq⟩ : ∃ q, vwCl[c]? = some q := ⟨_, List.getElem?_eq_getElem (l := vwCl) hcv⟩
  have cs : va_CS (jR Γ) (jS Γ) (jV Γ) own idx y bytes maxL ret' (Cond.code y bytes maxL ret' :: WT) (rmL d mc ms) mc ms N :=
    ⟨⟨rfl, rfl, hR.1, hR.2, pay_in ok (wt_goodIn w1), List.mem_cons_self⟩, ok _ w3, ok _ w5, ok _ w6, ok _ w4, ok _ w2, ok _ w1, w7, fun sig h => by rw [h] at w8; exact (Option.some.inj w8).symm⟩
  exact va_runSU (C := q.1) (As := As) (rest := rest) (E.2.2.2.2.2.2.2.1.1.1 c q hq).2 (j_fix E) hM cs ⟨PP_blind, j_recv E hH hcl hq, j_start E hA1 hS hH⟩ rfl hn hl.1 hst (lv_room hcat) hd hk
/-- the words of a constructor's call -/
def CI (own : String) (idx : Nat) (y : MethodName) (bytes : ByteArray) (maxL N : Nat) : Prop := Cond.code y bytes maxL none ∈ WT ∧ Cond.initialized y.cls ∈ WT ∧ Cond.methodLink own idx y ∈ WT ∧ Cond.instanceMethod y ∈ WT ∧ y.name = "<init>" ∧ (y.cls ≠ "java/lang/invoke/MethodHandle" ∧ y.cls ≠ "java/lang/invoke/VarHandle" ∧ (parseMethodDescriptor y.desc).map (fun d => d.parameters.length) = some N)
theorem j_calli {y : MethodName} {bytes : ByteArray} {maxL N d : Nat} {b : Nat} (As : List Value) (rest : List Value) (E : JE Γ κ cc own nL ret) (w : CI own idx y bytes maxL N) (hR : (rmL d mc ms).frames + 1 ≤ (jR Γ).frames ∧ 8 + (maxL + 11) + (rmL d mc ms).locals ≤ (jR Γ).locals) (hA1 : ∀ q, A1 q → jA Γ q)
    (hM : Met (jL Γ) y (Cond.code y bytes maxL none :: WT) (rmL d mc ms) (PP κ A1 (.ref b :: As) P) (QQ none P1 A1) mc ms A1) (hpre : ∀ H, HP H → P H)
    (hpost : ∀ H H1, HP H → P1 H1 → H.size ≤ H1.size → (∀ q, q < H.size → ¬ A1 q → H1[q]? = H[q]?) → HP1 H1)
    (hst : st = As.reverse ++ .ref b :: rest) (hn : As.length = N) (hcat : (rest.map fun v => v.category).sum ≤ 8) (hd : decode cc pc = .ok (.invokespecial idx, 3)) (hk : k + mc ≤ (jR Γ).cells ∧ n + ms ≤ (jR Γ).slots)
    (kk : J Γ nL HP1 (k + mc) (n + ms) (pc + 3) lv rest) : J Γ nL HP k n pc lv st := by
  refine j_run (a := (Value.ref b :: As).toArray) (o := none) E hA1 hpost (fun H locs ls hH hS hl => ?_) kk
  exact va_runI (As := As) (rest := rest) (j_fix E) hM ⟨j_cwords E hR w.1 w.2.1 w.2.2.1 w.2.2.2.2.2, w.2.2.2.2.1, E.2.2.2.2.1 _ w.2.2.2.1⟩ ⟨PP_blind, j_start E hA1 hS (hpre H hH)⟩ rfl hn hl.1 hst (lv_room hcat) hd hk
/-- Object.<init> -/
theorem j_obj {b : Nat} (E : JE Γ κ cc own nL ret) (hw : Cond.methodLink own idx objectInit ∈ WT ∧ Cond.instanceMethod objectInit ∈ WT ∧ Cond.code objectInit ⟨#[0xb1]⟩ 1 none ∈ WT) (hd : decode cc pc = .ok (.invokespecial idx, 3)) (hf : 1 ≤ (jR Γ).frames) (hlo : (rest.map fun v => v.category).sum + 12 ≤ (jR Γ).locals) (kk : J Γ nL HP k n (pc + 3) lv rest) : J Γ nL HP k n pc lv (.ref b :: rest) := by
  intro H locs ls hH hS hl
  refine W.objInit E.1 E.2.1 E.2.2.2.1 (E.2.2.2.2.1 _ hw.1) (E.2.2.2.2.1 _ hw.2.1) (E.2.2.2.2.1 _ hw.2.2) rfl (by rw [E.2.2.1]; exact hl.1) rfl hd hf ?_ (kk H locs ls hH hS hl)
  show 2 * 0 + _ + 12 ≤ _
  omega
end JCALL
end
section
/-! System.arraycopy over the map (after the kit's va_copyi, va_copyq) -/
theorem cp_nn (z : Int32) (hz0 : 0 ≤ z.toInt) : z.toInt = (z.toNatClampNeg : Int) := by
  show z.toInt = ((z.toInt.toNat : Nat) : Int)
  omega
theorem cp_n0 (z : Int32) (hz0 : 0 ≤ z.toInt) : ¬ z < 0 := by
  intro h
  have := Int32.lt_iff_toInt_lt.mp h
  simp at this
  omega
def CC (own : String) (idx : Nat) : Prop := Cond.methodLink own idx arraycopyName ∈ WT ∧ Cond.native arraycopyName ∈ WT ∧ Cond.static arraycopyName ∈ WT ∧ Cond.initialized "java/lang/System" ∈ WT
section JCOPY
variable {Γ : JC} {κ : KP} {cc : ByteArray} {own : String} {nL : Nat} {ret : Option FieldType} {A : Nat → Prop} {σ σ' : HM} {k n pc idx a a0 : Nat} {lv : List (Nat × Value)} {rest : List Value} {sp dp m : Int32}
theorem hcpi_at (h : hcpi σ a0 sp a dp m = some σ') : ∃ x y, σ.1 a0 = some (.inr (.inl x)) ∧ σ.1 a = some (.inr (.inl y)) ∧ 0 ≤ sp.toInt ∧ 0 ≤ dp.toInt ∧ 0 ≤ m.toInt ∧ sp.toNatClampNeg + m.toNatClampNeg ≤ x.1 ∧ dp.toNatClampNeg + m.toNatClampNeg ≤ y.1 ∧ σ' = hset σ a (.inr (.inl (y.1, va_cpy x.2 y.2 sp.toNatClampNeg dp.toNatClampNeg m.toNatClampNeg))) := by
  unfold hcpi at h
  split at h
  · rename_i x y hx hy
    split at h
    · rename_i hc
      simp only [Bool.and_eq_true, decide_eq_true_eq] at hc
      obtain ⟨⟨⟨⟨h1, h2⟩, h3⟩, h4⟩, h5⟩ := hc
      exact ⟨x, y, hia_at hx, hia_at hy, h1, h2, h3, h4, h5, (Option.some.inj h).symm⟩
    · cases h
  · cases h
theorem hcpr_at (h : hcpr σ a0 sp a dp m = some σ') : ∃ x y, σ.1 a0 = some (.inr (.inr x)) ∧ σ.1 a = some (.inr (.inr y)) ∧ 0 ≤ sp.toInt ∧ 0 ≤ dp.toInt ∧ 0 ≤ m.toInt ∧ sp.toNatClampNeg + m.toNatClampNeg ≤ x.2.1 ∧ dp.toNatClampNeg + m.toNatClampNeg ≤ y.2.1 ∧ (∀ i, i < m.toNatClampNeg → hok σ y.1 (x.2.2 (sp.toNatClampNeg + i)) = true) ∧ σ' = hset σ a (.inr (.inr (y.1, y.2.1, va_cpy x.2.2 y.2.2 sp.toNatClampNeg dp.toNatClampNeg m.toNatClampNeg))) := by
  unfold hcpr at h
  split at h
  · rename_i x y hx hy
    split at h
    · rename_i hc
      simp only [Bool.and_eq_true, decide_eq_true_eq, List.all_eq_true, List.mem_range] at hc
      obtain ⟨⟨⟨⟨⟨h1, h2⟩, h3⟩, h4⟩, h5⟩, h6⟩ := hc
      exact ⟨x, y, hra_at hx, hra_at hy, h1, h2, h3, h4, h5, h6, (Option.some.inj h).symm⟩
    · cases h
  · cases h
set_option maxHeartbeats 1000000 in
theorem j_cpi (E : JE Γ κ cc own nL ret) (w : CC own idx) (hd : decode cc pc = .ok (.invokestatic idx, 3)) (hv : hcpi σ a0 sp a dp m = some σ') (hAA : ∀ q, A q → jA Γ q) (hfr : 1 ≤ (jR Γ).frames) (hlo : (rest.map fun v => v.category).sum + (nativeFrameWords "java/lang/System" "arraycopy" 5 + 11) ≤ (jR Γ).locals) (kk : J Γ nL (HS κ A σ') k n (pc + 3) lv rest) : J Γ nL (HS κ A σ) k n pc lv (.int m :: .int dp :: .ref a :: .int sp :: .ref a0 :: rest) := by
  obtain ⟨⟨n0, f⟩, ⟨n1, g⟩, x1, x2, s1, s2, s3, h4, h5, rfl⟩ := hcpi_at hv
  intro H locs ls hH hS hl T hT X
  have hK := E.2.2.2.2.2.2.2.1.1
  have ok := E.2.2.2.2.1
  have hc0 : H[a0]? = some (vp_cell (kI κ) (n0, .inl f)) := (hH.2 a0 _ x1).2
  have hc1 : H[a]? = some (vp_cell (kI κ) (n1, .inl g)) := (hH.2 a _ x2).2
  obtain ⟨-, k0, hk0, cm0, hkk0⟩ := (hK.2 0 _ rfl).1 n0 (fun j => .int (f j))
  obtain ⟨-, k1, hk1, cm1, hkk1⟩ := (hK.2 0 _ rfl).1 n1 (fun j => .int (g j))
  obtain ⟨vm', X', step⟩ := X.arraycopy E.1 E.2.2.2.1 (ok _ w.1) (ok _ w.2.1) (ok _ w.2.2.1) (ok _ w.2.2.2) (src := a0) (dst := a) (cs := vp_cell (kI κ) (n0, .inl f)) (cd := vp_cell (kI κ) (n1, .inl g)) (srcPos := sp) (destPos := dp) (n := m) (by rw [hT]; exact hc0) (by rw [hT]; exact hc1)
    (fun _ h => by cases h) (fun _ h => by cases h) (fun h => by cases h) (fun h => by cases h) hk0 hk1 hkk0 hkk1 (by rfl) (cp_n0 sp s1) (cp_n0 dp s2) (cp_n0 m s3)
    (by rw [cp_nn sp s1, cp_nn m s3]; show ¬ _ > ((arrV (kI κ) n0 (fun j => .int (f j))).slots.size : Int); rw [arrV_size]; simp only at h4; omega)
    (by rw [cp_nn dp s2, cp_nn m s3]; show ¬ _ > ((arrV (kI κ) n1 (fun j => .int (g j))).slots.size : Int); rw [arrV_size]; simp only at h5; omega)
    (fun vm₁ _ i hi => by
      have e : (vp_cell (kI κ) (n0, .inl f)).slots.getD (sp.toNatClampNeg + i) .null = .int (f (sp.toNatClampNeg + i)) := by
        show (arrV (kI κ) n0 (fun j => .int (f j))).slots.getD _ _ = _
        rw [Array.getD_eq_getD_getElem?, arrV_read _ _ (by simp only at h4; omega)]
        rfl
      refine ⟨?_, ?_⟩
      · rw [e]; rfl
      · rw [e]; exact trivial)
    (g := F0 (jM Γ) pc ls (.int m :: .int dp :: .ref a :: .int sp :: .ref a0 :: rest)) rfl (by rw [E.2.2.1]; exact hl.1) (rest := rest) rfl (by rw [E.2.1]; exact hd) hfr (by show 2 * 0 + _ + _ ≤ _; omega)
  have e1 : copied (vp_cell (kI κ) (n0, .inl f)) (vp_cell (kI κ) (n1, .inl g)) sp dp m = vp_cell (kI κ) (n1, .inl (va_cpy f g sp.toNatClampNeg dp.toNatClampNeg m.toNatClampNeg)) := va_copied (fun z => .int z) (kI κ) (kI κ) f g h4
  rw [e1] at X' step
  have hla : a < H.size := (Array.getElem?_eq_some_iff.mp hc1).1
  have hheap : ((T.setVm vm').setCell a (vp_cell (kI κ) (n1, .inl (va_cpy f g sp.toNatClampNeg dp.toNatClampNeg m.toNatClampNeg)))).heap = H.setIfInBounds a (vp_cell (kI κ) (n1, .inl (va_cpy f g sp.toNatClampNeg dp.toNatClampNeg m.toNatClampNeg))) := by rw [← hT]; rfl
  have oq : ∀ q : Nat, q ≠ a → (H.setIfInBounds a (vp_cell (kI κ) (n1, .inl (va_cpy f g sp.toNatClampNeg dp.toNatClampNeg m.toNatClampNeg))))[q]? = H[q]? := fun q hq => by simp [Array.getElem?_setIfInBounds, Ne.symm hq]
  have hAa : jA Γ a := hAA a (hH.2 a _ x2).1
  obtain ⟨t, a1, b1⟩ := kk _ _ ls (hH.put x2 (show (H.setIfInBounds a _)[a]? = some _ by simp [Array.getElem?_setIfInBounds, hla]) (by simp) oq) ⟨by simp; exact hS.1, fun q g1 g2 => by
      rw [oq q (fun e => g2 (by rw [e]; exact hAa))]
      exact hS.2.1 q g1 g2, fun q hq => by
      rcases List.mem_append.mp hq with h | h
      · exact hS.2.2 q h
      · obtain ⟨z, -, hz⟩ := List.mem_map.mp h
        rw [← hz]
        exact hAa⟩ hl _ hheap X'
  exact ⟨t, step t a1, b1⟩
theorem hok_at {b : Bool} {r : Option Nat} (h : hok σ b r = true) : ∀ y, r = some y → ∃ c fs, σ.1 y = some (.inl (c, fs)) ∧ c ∈ rS b := by
  intro y hy
  subst hy
  unfold hok at h
  simp only at h
  split at h
  · rename_i c hc
    obtain ⟨fs, hfs⟩ := hcls_at hc
    exact ⟨c, fs, hfs, by simpa using h⟩
  · cases h
set_option maxHeartbeats 1000000 in
theorem j_cpr (E : JE Γ κ cc own nL ret) (hRA : ∀ b, RA b) (w : CC own idx) (hd : decode cc pc = .ok (.invokestatic idx, 3)) (hv : hcpr σ a0 sp a dp m = some σ') (hAA : ∀ q, A q → jA Γ q) (hfr : 1 ≤ (jR Γ).frames) (hlo : (rest.map fun v => v.category).sum + (nativeFrameWords "java/lang/System" "arraycopy" 5 + 11) ≤ (jR Γ).locals) (kk : J Γ nL (HS κ A σ') k n (pc + 3) lv rest) : J Γ nL (HS κ A σ) k n pc lv (.int m :: .int dp :: .ref a :: .int sp :: .ref a0 :: rest) := by
  obtain ⟨⟨b0, n0, f⟩, ⟨b, n1, g⟩, x1, x2, s1, s2, s3, h4, h5, h6, rfl⟩ := hcpr_at hv
  intro H locs ls hH hS hl T hT X
  have hK := E.2.2.2.2.2.2.2.1.1
  have ok := E.2.2.2.2.1
  have hc0 : H[a0]? = some (vp_cell (kB κ b0) (n0, .inr (.inr (.inr (.inr f))))) := (hH.2 a0 _ x1).2
  have hc1 : H[a]? = some (vp_cell (kB κ b) (n1, .inr (.inr (.inr (.inr g))))) := (hH.2 a _ x2).2
  have ht1 := kT_at κ b
  obtain ⟨-, k0, hk0, cm0, hkk0⟩ := (hK.2 _ _ (kT_at κ b0)).1 n0 (fun j => va_rf (f j))
  obtain ⟨-, k1, hk1, cm1, hkk1⟩ := (hK.2 _ _ ht1).1 n1 (fun j => va_rf (g j))
  obtain ⟨vm', X', step⟩ := X.arraycopy E.1 E.2.2.2.1 (ok _ w.1) (ok _ w.2.1) (ok _ w.2.2.1) (ok _ w.2.2.2) (src := a0) (dst := a) (cs := vp_cell (kB κ b0) (n0, .inr (.inr (.inr (.inr f))))) (cd := vp_cell (kB κ b) (n1, .inr (.inr (.inr (.inr g))))) (srcPos := sp) (destPos := dp) (n := m) (by rw [hT]; exact hc0) (by rw [hT]; exact hc1)
    (fun _ h => by cases h) (fun _ h => by cases h) (fun h => by cases h) (fun h => by cases h) hk0 hk1 hkk0 hkk1 rfl (cp_n0 sp s1) (cp_n0 dp s2) (cp_n0 m s3)
    (by rw [cp_nn sp s1, cp_nn m s3]; show ¬ _ > ((arrV (kB κ b0) n0 (fun j => va_rf (f j))).slots.size : Int); rw [arrV_size]; simp only at h4; omega)
    (by rw [cp_nn dp s2, cp_nn m s3]; show ¬ _ > ((arrV (kB κ b) n1 (fun j => va_rf (g j))).slots.size : Int); rw [arrV_size]; simp only at h5; omega)
    (fun vm₁ hal i hi => by
      have e : (vp_cell (kB κ b0) (n0, .inr (.inr (.inr (.inr f))))).slots.getD (sp.toNatClampNeg + i) .null = va_rf (f (sp.toNatClampNeg + i)) := by
        show (arrV (kB κ b0) n0 (fun j => va_rf (f j))).slots.getD _ _ = _
        rw [Array.getD_eq_getD_getElem?, arrV_read _ _ (by simp only at h4; omega)]
        rfl
      rw [e]
      cases hy : f (sp.toNatClampNeg + i) with
      | none => exact ⟨rfl, trivial⟩
      | some y =>
        obtain ⟨c, fs, hyc, hcS⟩ := hok_at (h6 i hi) y hy
        obtain ⟨kA, comp, r1, r2, r3, -⟩ := (hK.2 _ _ ht1).2
        cases hk1.symm.trans r1
        cases hkk1.symm.trans r2
        obtain ⟨q, hq, hqc, ⟨kC, hkC⟩, hasg⟩ := j_assign E (hRA b) hcS r3
        obtain ⟨r', hr', cellV, g1, g2, g3, -⟩ := (hH.2 y _ hyc).2
        obtain ⟨kE, hkE, -⟩ := Vm.findClass_spec r3
        obtain ⟨kC', hkC', -⟩ := hal.2.2 _ _ hkC
        obtain ⟨kE', hkE', -⟩ := hal.2.2 _ _ hkE
        refine ⟨rfl, cellV, (show T.heap[y]? = some cellV by rw [hT]; exact g1), (fun q h => by rw [h] at g3; cases g3), ⟨kC', by rw [g2]; exact hkC'⟩, ?_, ?_⟩
        · exact ⟨kE', hkE'⟩
        · show vm₁.assignable _ _ = true
          rw [hal.assignable, g2]
          exact hasg)
    (g := F0 (jM Γ) pc ls (.int m :: .int dp :: .ref a :: .int sp :: .ref a0 :: rest)) rfl (by rw [E.2.2.1]; exact hl.1) (rest := rest) rfl (by rw [E.2.1]; exact hd) hfr (by show 2 * 0 + _ + _ ≤ _; omega)
  have e1 : copied (vp_cell (kB κ b0) (n0, .inr (.inr (.inr (.inr f))))) (vp_cell (kB κ b) (n1, .inr (.inr (.inr (.inr g))))) sp dp m = vp_cell (kB κ b) (n1, .inr (.inr (.inr (.inr (va_cpy f g sp.toNatClampNeg dp.toNatClampNeg m.toNatClampNeg))))) := by
    rw [vp_cell_q, vp_cell_q, vp_cell_q]
    exact va_copied (fun z => va_rf z) _ _ f g h4
  rw [e1] at X' step
  have hla : a < H.size := (Array.getElem?_eq_some_iff.mp hc1).1
  have hheap : ((T.setVm vm').setCell a (vp_cell (kB κ b) (n1, .inr (.inr (.inr (.inr (va_cpy f g sp.toNatClampNeg dp.toNatClampNeg m.toNatClampNeg))))))).heap = H.setIfInBounds a (vp_cell (kB κ b) (n1, .inr (.inr (.inr (.inr (va_cpy f g sp.toNatClampNeg dp.toNatClampNeg m.toNatClampNeg)))))) := by rw [← hT]; rfl
  have oq : ∀ q : Nat, q ≠ a → (H.setIfInBounds a (vp_cell (kB κ b) (n1, .inr (.inr (.inr (.inr (va_cpy f g sp.toNatClampNeg dp.toNatClampNeg m.toNatClampNeg)))))))[q]? = H[q]? := fun q hq => by simp [Array.getElem?_setIfInBounds, Ne.symm hq]
  have hAa : jA Γ a := hAA a (hH.2 a _ x2).1
  obtain ⟨t, a1, b1⟩ := kk _ _ ls (hH.put x2 (show (H.setIfInBounds a _)[a]? = some _ by simp [Array.getElem?_setIfInBounds, hla]) (by simp) oq) ⟨by simp; exact hS.1, fun q g1 g2 => by
      rw [oq q (fun e => g2 (by rw [e]; exact hAa))]
      exact hS.2.1 q g1 g2, fun q hq => by
      rcases List.mem_append.mp hq with h | h
      · exact hS.2.2 q h
      · obtain ⟨z, -, hz⟩ := List.mem_map.mp h
        rw [← hz]
        exact hAa⟩ hl _ hheap X'
  exact ⟨t, step t a1, b1⟩
end JCOPY
end
section
/-! WORDS of the tables, and what calls and fields need of them (by program) -/
theorem m_0 : Cond.selects "OneBeatsBoth" yX10_bytesOn yX10_bytesOn ∈ WT := wt_in (List.mem_of_getElem? (i := 0) (by decide +kernel)) (by decide +kernel)
theorem m_1 : Cond.selects "OneBeatsBoth" yX10_rowOn yX10_rowOn ∈ WT := wt_in (List.mem_of_getElem? (i := 1) (by decide +kernel)) (by decide +kernel)
theorem m_2 : Cond.selects "OneBeatsBoth" yX10_whyNotOn yX10_whyNotOn ∈ WT := wt_in (List.mem_of_getElem? (i := 2) (by decide +kernel)) (by decide +kernel)
theorem m_3 : Cond.selects "OneBeatsBoth" yX10_isBare yX10_isBare ∈ WT := wt_in (List.mem_of_getElem? (i := 3) (by decide +kernel)) (by decide +kernel)
theorem m_4 : Cond.selects "OneBeatsBoth" yX10_personOn yX10_personOn ∈ WT := wt_in (List.mem_of_getElem? (i := 4) (by decide +kernel)) (by decide +kernel)
theorem m_6 : Cond.selects "OneBeatsBoth$League" yX2_eachHasMaster yX2_eachHasMaster ∈ WT := wt_in (List.mem_of_getElem? (i := 6) (by decide +kernel)) (by decide +kernel)
theorem m_7 : Cond.selects "OneBeatsBoth" yX10_lawfulTurns yX10_lawfulTurns ∈ WT := wt_in (List.mem_of_getElem? (i := 7) (by decide +kernel)) (by decide +kernel)
theorem m_8 : Cond.selects "OneBeatsBoth" yX10_clearTold yX10_clearTold ∈ WT := wt_in (List.mem_of_getElem? (i := 8) (by decide +kernel)) (by decide +kernel)
theorem m_9 : Cond.selects "OneBeatsBoth" yX10_lawfulWaysAsTold yX10_lawfulWaysAsTold ∈ WT := wt_in (List.mem_of_getElem? (i := 9) (by decide +kernel)) (by decide +kernel)
theorem m_11 : Cond.selects "OneBeatsBothModel" yX11_wrongRow yX11_wrongRow ∈ WT := wt_in (List.mem_of_getElem? (i := 11) (by decide +kernel)) (by decide +kernel)
theorem m_12 : Cond.selects "OneBeatsBothModel" yX11_readsStatement yX11_readsStatement ∈ WT := wt_in (List.mem_of_getElem? (i := 12) (by decide +kernel)) (by decide +kernel)
theorem m_13 : Cond.selects "OneBeatsBothModel" yX11_here yX11_here ∈ WT := wt_in (List.mem_of_getElem? (i := 13) (by decide +kernel)) (by decide +kernel)
theorem m_14 : Cond.selects "OneBeatsBothModel" yX11_readsDigits yX11_readsDigits ∈ WT := wt_in (List.mem_of_getElem? (i := 14) (by decide +kernel)) (by decide +kernel)
theorem m_15 : Cond.selects "OneBeatsBothModel" yX11_comesTold yX11_comesTold ∈ WT := wt_in (List.mem_of_getElem? (i := 15) (by decide +kernel)) (by decide +kernel)
theorem m_16 : Cond.selects "OneBeatsBothModel" yX11_adds yX11_adds ∈ WT := wt_in (List.mem_of_getElem? (i := 16) (by decide +kernel)) (by decide +kernel)
theorem m_17 : Cond.selects "OneBeatsBothModel" yX11_joins yX11_joins ∈ WT := wt_in (List.mem_of_getElem? (i := 17) (by decide +kernel)) (by decide +kernel)
theorem m_18 : Cond.selects "OneBeatsBothModel" yX11_puts yX11_puts ∈ WT := wt_in (List.mem_of_getElem? (i := 18) (by decide +kernel)) (by decide +kernel)
theorem m_19 : Cond.selects "OneBeatsBothModel" yX11_beaten yX11_beaten ∈ WT := wt_in (List.mem_of_getElem? (i := 19) (by decide +kernel)) (by decide +kernel)
theorem m_20 : Cond.selects "OneBeatsBothModel" yX11_areTwo yX11_areTwo ∈ WT := wt_in (List.mem_of_getElem? (i := 20) (by decide +kernel)) (by decide +kernel)
theorem m_21 : Cond.selects "OneBeatsBothModel" yX11_isOne yX11_isOne ∈ WT := wt_in (List.mem_of_getElem? (i := 21) (by decide +kernel)) (by decide +kernel)
theorem m_22 : Cond.selects "OneBeatsBothModel" yX11_beats yX11_beats ∈ WT := wt_in (List.mem_of_getElem? (i := 22) (by decide +kernel)) (by decide +kernel)
theorem m_23 : Cond.selects "OneBeatsBothModel" yX11_leaves yX11_leaves ∈ WT := wt_in (List.mem_of_getElem? (i := 23) (by decide +kernel)) (by decide +kernel)
theorem m_24 : Cond.selects "OneBeatsBothModel" yX11_kind yX11_kind ∈ WT := wt_in (List.mem_of_getElem? (i := 24) (by decide +kernel)) (by decide +kernel)
theorem m_25 : Cond.selects "OneBeatsBothModel" yX11_figure yX11_figure ∈ WT := wt_in (List.mem_of_getElem? (i := 25) (by decide +kernel)) (by decide +kernel)
theorem m_26 : Cond.selects "OneBeatsBothModel" yX11_skill yX11_skill ∈ WT := wt_in (List.mem_of_getElem? (i := 26) (by decide +kernel)) (by decide +kernel)
theorem m_27 : Cond.selects "OneBeatsBothModel" yX11_counts yX11_counts ∈ WT := wt_in (List.mem_of_getElem? (i := 27) (by decide +kernel)) (by decide +kernel)
theorem m_28 : Cond.selects "OneBeatsBothModel" yX11_wrongKept yX11_wrongKept ∈ WT := wt_in (List.mem_of_getElem? (i := 28) (by decide +kernel)) (by decide +kernel)
theorem m_29 : Cond.selects "OneBeatsBothModel" yX11_isLawful yX11_isLawful ∈ WT := wt_in (List.mem_of_getElem? (i := 29) (by decide +kernel)) (by decide +kernel)
theorem m_30 : Cond.selects "OneBeatsBothModel" yX11_mastersOf yX11_mastersOf ∈ WT := wt_in (List.mem_of_getElem? (i := 30) (by decide +kernel)) (by decide +kernel)
theorem m_31 : Cond.selects "OneBeatsBothModel" yX11_turnedTo yX11_turnedTo ∈ WT := wt_in (List.mem_of_getElem? (i := 31) (by decide +kernel)) (by decide +kernel)
theorem m_32 : Cond.selects "OneBeatsBothModel" yX11_turns yX11_turns ∈ WT := wt_in (List.mem_of_getElem? (i := 32) (by decide +kernel)) (by decide +kernel)
theorem m_35 : Cond.selects "OneBeatsBothModel" yX11_begins yX11_begins ∈ WT := wt_in (List.mem_of_getElem? (i := 35) (by decide +kernel)) (by decide +kernel)
theorem m_36 : Cond.selects "OneBeatsBothModel" yX11_ends yX11_ends ∈ WT := wt_in (List.mem_of_getElem? (i := 36) (by decide +kernel)) (by decide +kernel)
theorem m_37 : Cond.selects "OneBeatsBothModel" yX11_matches yX11_matches ∈ WT := wt_in (List.mem_of_getElem? (i := 37) (by decide +kernel)) (by decide +kernel)
theorem m_38 : Cond.selects "OneBeatsBothModel" yX11_plays yX11_plays ∈ WT := wt_in (List.mem_of_getElem? (i := 38) (by decide +kernel)) (by decide +kernel)
theorem m_40 : Cond.selects "OneBeatsBothModel" yX11_told yX11_told ∈ WT := wt_in (List.mem_of_getElem? (i := 40) (by decide +kernel)) (by decide +kernel)
theorem m_41 : Cond.selects "OneBeatsBothModel" yX11_isAsPlayed yX11_isAsPlayed ∈ WT := wt_in (List.mem_of_getElem? (i := 41) (by decide +kernel)) (by decide +kernel)
theorem m_42 : Cond.selects "OneBeatsBothModel" yX11_drawn yX11_drawn ∈ WT := wt_in (List.mem_of_getElem? (i := 42) (by decide +kernel)) (by decide +kernel)
theorem m_43 : Cond.selects "OneBeatsBothModel" yX11_wrongThree yX11_wrongThree ∈ WT := wt_in (List.mem_of_getElem? (i := 43) (by decide +kernel)) (by decide +kernel)
theorem m_45 : Cond.initialized "OneBeatsBoth" ∈ WT := wt_in (List.mem_of_getElem? (i := 45) (by decide +kernel)) (by decide +kernel)
theorem m_46 : Cond.initialized "OneBeatsBoth$Player" ∈ WT := wt_in (List.mem_of_getElem? (i := 46) (by decide +kernel)) (by decide +kernel)
theorem m_47 : Cond.initialized "OneBeatsBoth$League" ∈ WT := wt_in (List.mem_of_getElem? (i := 47) (by decide +kernel)) (by decide +kernel)
theorem m_48 : Cond.initialized "OneBeatsBothModel" ∈ WT := wt_in (List.mem_of_getElem? (i := 48) (by decide +kernel)) (by decide +kernel)
theorem m_49 : Cond.initialized "java/lang/System" ∈ WT := wt_in (List.mem_of_getElem? (i := 49) (by decide +kernel)) (by decide +kernel)
theorem m_50 : Cond.initialized "OneBeatsBoth$Nuisance" ∈ WT := wt_in (List.mem_of_getElem? (i := 50) (by decide +kernel)) (by decide +kernel)
theorem m_51 : Cond.initialized "OneBeatsBoth$Paid" ∈ WT := wt_in (List.mem_of_getElem? (i := 51) (by decide +kernel)) (by decide +kernel)
theorem m_52 : Cond.initialized "OneBeatsBoth$Guest" ∈ WT := wt_in (List.mem_of_getElem? (i := 52) (by decide +kernel)) (by decide +kernel)
theorem m_53 : Cond.initialized "OneBeatsBoth$Twin" ∈ WT := wt_in (List.mem_of_getElem? (i := 53) (by decide +kernel)) (by decide +kernel)
theorem m_54 : Cond.initialized "OneBeatsBoth$Novice" ∈ WT := wt_in (List.mem_of_getElem? (i := 54) (by decide +kernel)) (by decide +kernel)
theorem m_55 : Cond.initialized "OneBeatsBoth$Priest" ∈ WT := wt_in (List.mem_of_getElem? (i := 55) (by decide +kernel)) (by decide +kernel)
theorem m_56 : Cond.initialized "OneBeatsBoth$Champion" ∈ WT := wt_in (List.mem_of_getElem? (i := 56) (by decide +kernel)) (by decide +kernel)
theorem m_57 : Cond.initialized "java/lang/Integer" ∈ WT := wt_in (List.mem_of_getElem? (i := 57) (by decide +kernel)) (by decide +kernel)
theorem m_58 : Cond.initialized "OneBeatsBoth$Row" ∈ WT := wt_in (List.mem_of_getElem? (i := 58) (by decide +kernel)) (by decide +kernel)
theorem m_70 : Cond.methodLink "OneBeatsBoth" 1 objectInit ∈ WT := wt_in (List.mem_of_getElem? (i := 70) (by decide +kernel)) (by decide +kernel)
theorem m_71 : Cond.instanceMethod objectInit ∈ WT := wt_in (List.mem_of_getElem? (i := 71) (by decide +kernel)) (by decide +kernel)
theorem m_72 : Cond.code objectInit ⟨#[0xb1]⟩ 1 none ∈ WT := wt_in (List.mem_of_getElem? (i := 72) (by decide +kernel)) (by decide +kernel)
theorem m_73 : Cond.classLink "OneBeatsBoth" 7 "OneBeatsBoth$Player" ∈ WT := wt_in (List.mem_of_getElem? (i := 73) (by decide +kernel)) (by decide +kernel)
theorem m_74 : Cond.instantiable "OneBeatsBoth$Player" 1 ∈ WT := wt_in (List.mem_of_getElem? (i := 74) (by decide +kernel)) (by decide +kernel)
theorem m_75 : Cond.methodLink "OneBeatsBoth" 9 yX6_init ∈ WT := wt_in (List.mem_of_getElem? (i := 75) (by decide +kernel)) (by decide +kernel)
theorem m_76 : Cond.instanceMethod yX6_init ∈ WT := wt_in (List.mem_of_getElem? (i := 76) (by decide +kernel)) (by decide +kernel)
theorem m_77 : Cond.code yX6_init cX6_init 2 none ∈ WT := wt_in (List.mem_of_getElem? (i := 77) (by decide +kernel)) (by decide +kernel)
theorem m_78 : Cond.methodLink "OneBeatsBoth$Player" 1 objectInit ∈ WT := wt_in (List.mem_of_getElem? (i := 78) (by decide +kernel)) (by decide +kernel)
theorem m_79 : Cond.fieldLink "OneBeatsBoth$Player" 7 "OneBeatsBoth$Player" "figure" "I" ∈ WT := wt_in (List.mem_of_getElem? (i := 79) (by decide +kernel)) (by decide +kernel)
theorem m_80 : Cond.fieldLink "OneBeatsBoth" 91 "OneBeatsBoth$Player" "figure" "I" ∈ WT := wt_in (List.mem_of_getElem? (i := 80) (by decide +kernel)) (by decide +kernel)
theorem m_81 : Cond.fieldLink "OneBeatsBoth$Novice" 7 "OneBeatsBoth$Novice" "figure" "I" ∈ WT := wt_in (List.mem_of_getElem? (i := 81) (by decide +kernel)) (by decide +kernel)
theorem m_82 : Cond.sameField "OneBeatsBoth$Novice" "OneBeatsBoth$Player" "figure" "I" ∈ WT := wt_in (List.mem_of_getElem? (i := 82) (by decide +kernel)) (by decide +kernel)
theorem m_83 : Cond.fieldLink "OneBeatsBoth$Nuisance" 11 "OneBeatsBoth$Nuisance" "figure" "I" ∈ WT := wt_in (List.mem_of_getElem? (i := 83) (by decide +kernel)) (by decide +kernel)
theorem m_84 : Cond.sameField "OneBeatsBoth$Nuisance" "OneBeatsBoth$Player" "figure" "I" ∈ WT := wt_in (List.mem_of_getElem? (i := 84) (by decide +kernel)) (by decide +kernel)
theorem m_90 : Cond.classLink "OneBeatsBoth" 18 "OneBeatsBoth$League" ∈ WT := wt_in (List.mem_of_getElem? (i := 90) (by decide +kernel)) (by decide +kernel)
theorem m_91 : Cond.instantiable "OneBeatsBoth$League" 4 ∈ WT := wt_in (List.mem_of_getElem? (i := 91) (by decide +kernel)) (by decide +kernel)
theorem m_92 : Cond.methodLink "OneBeatsBoth" 20 yX2_init ∈ WT := wt_in (List.mem_of_getElem? (i := 92) (by decide +kernel)) (by decide +kernel)
theorem m_93 : Cond.instanceMethod yX2_init ∈ WT := wt_in (List.mem_of_getElem? (i := 93) (by decide +kernel)) (by decide +kernel)
theorem m_94 : Cond.code yX2_init cX2_init 3 none ∈ WT := wt_in (List.mem_of_getElem? (i := 94) (by decide +kernel)) (by decide +kernel)
theorem m_95 : Cond.methodLink "OneBeatsBoth$League" 3 objectInit ∈ WT := wt_in (List.mem_of_getElem? (i := 95) (by decide +kernel)) (by decide +kernel)
theorem m_96 : Cond.classLink "OneBeatsBoth$League" 9 "OneBeatsBoth$Player" ∈ WT := wt_in (List.mem_of_getElem? (i := 96) (by decide +kernel)) (by decide +kernel)
theorem m_98 : Cond.fieldLink "OneBeatsBoth$League" 11 "OneBeatsBoth$League" "people" "[LOneBeatsBoth$Player;" ∈ WT := wt_in (List.mem_of_getElem? (i := 98) (by decide +kernel)) (by decide +kernel)
theorem m_99 : Cond.fieldLink "OneBeatsBoth" 85 "OneBeatsBoth$League" "people" "[LOneBeatsBoth$Player;" ∈ WT := wt_in (List.mem_of_getElem? (i := 99) (by decide +kernel)) (by decide +kernel)
theorem m_100 : Cond.fieldLink "OneBeatsBoth$League" 17 "OneBeatsBoth$League" "beaten" "[I" ∈ WT := wt_in (List.mem_of_getElem? (i := 100) (by decide +kernel)) (by decide +kernel)
theorem m_101 : Cond.fieldLink "OneBeatsBoth" 98 "OneBeatsBoth$League" "beaten" "[I" ∈ WT := wt_in (List.mem_of_getElem? (i := 101) (by decide +kernel)) (by decide +kernel)
theorem m_102 : Cond.fieldLink "OneBeatsBoth$League" 21 "OneBeatsBoth$League" "size" "I" ∈ WT := wt_in (List.mem_of_getElem? (i := 102) (by decide +kernel)) (by decide +kernel)
theorem m_103 : Cond.fieldLink "OneBeatsBoth" 111 "OneBeatsBoth$League" "size" "I" ∈ WT := wt_in (List.mem_of_getElem? (i := 103) (by decide +kernel)) (by decide +kernel)
theorem m_104 : Cond.fieldLink "OneBeatsBoth$League" 25 "OneBeatsBoth$League" "law" "I" ∈ WT := wt_in (List.mem_of_getElem? (i := 104) (by decide +kernel)) (by decide +kernel)
theorem m_105 : Cond.fieldLink "OneBeatsBoth" 130 "OneBeatsBoth$League" "law" "I" ∈ WT := wt_in (List.mem_of_getElem? (i := 105) (by decide +kernel)) (by decide +kernel)
theorem m_115 : Cond.arrayClass .int ∈ WT := wt_in (List.mem_of_getElem? (i := 115) (by decide +kernel)) (by decide +kernel)
theorem m_116 : Cond.classLink "OneBeatsBoth" 41 "OneBeatsBoth$Row" ∈ WT := wt_in (List.mem_of_getElem? (i := 116) (by decide +kernel)) (by decide +kernel)
theorem m_118 : Cond.fieldLink "OneBeatsBoth" 12 "OneBeatsBoth" "plain" "LOneBeatsBoth$Player;" ∈ WT := wt_in (List.mem_of_getElem? (i := 118) (by decide +kernel)) (by decide +kernel)
theorem m_119 : Cond.fieldLink "OneBeatsBoth" 23 "OneBeatsBoth" "now" "LOneBeatsBoth$League;" ∈ WT := wt_in (List.mem_of_getElem? (i := 119) (by decide +kernel)) (by decide +kernel)
theorem m_120 : Cond.fieldLink "OneBeatsBoth" 27 "OneBeatsBoth" "draft" "LOneBeatsBoth$League;" ∈ WT := wt_in (List.mem_of_getElem? (i := 120) (by decide +kernel)) (by decide +kernel)
theorem m_121 : Cond.fieldLink "OneBeatsBoth" 30 "OneBeatsBoth" "pictured" "LOneBeatsBoth$League;" ∈ WT := wt_in (List.mem_of_getElem? (i := 121) (by decide +kernel)) (by decide +kernel)
theorem m_122 : Cond.fieldLink "OneBeatsBoth" 33 "OneBeatsBoth" "hasImage" "Z" ∈ WT := wt_in (List.mem_of_getElem? (i := 122) (by decide +kernel)) (by decide +kernel)
theorem m_123 : Cond.fieldLink "OneBeatsBoth" 37 "OneBeatsBoth" "peopleOnShelves" "[LOneBeatsBoth$Player;" ∈ WT := wt_in (List.mem_of_getElem? (i := 123) (by decide +kernel)) (by decide +kernel)
theorem m_124 : Cond.fieldLink "OneBeatsBoth" 43 "OneBeatsBoth" "rowsOnShelves" "[LOneBeatsBoth$Row;" ∈ WT := wt_in (List.mem_of_getElem? (i := 124) (by decide +kernel)) (by decide +kernel)
theorem m_125 : Cond.fieldLink "OneBeatsBoth" 47 "OneBeatsBoth" "told" "[I" ∈ WT := wt_in (List.mem_of_getElem? (i := 125) (by decide +kernel)) (by decide +kernel)
theorem m_147 : Cond.methodLink "OneBeatsBoth" 51 yX10_bytesOn ∈ WT := wt_in (List.mem_of_getElem? (i := 147) (by decide +kernel)) (by decide +kernel)
theorem m_149 : Cond.instanceMethod yX10_bytesOn ∈ WT := wt_in (List.mem_of_getElem? (i := 149) (by decide +kernel)) (by decide +kernel)
theorem m_150 : Cond.code yX10_bytesOn cX10_bytesOn 3 (some (.object "OneBeatsBoth$Row")) ∈ WT := wt_in (List.mem_of_getElem? (i := 150) (by decide +kernel)) (by decide +kernel)
theorem m_151 : Cond.methodLink "OneBeatsBoth" 217 yX10_rowOn ∈ WT := wt_in (List.mem_of_getElem? (i := 151) (by decide +kernel)) (by decide +kernel)
theorem m_153 : Cond.instanceMethod yX10_rowOn ∈ WT := wt_in (List.mem_of_getElem? (i := 153) (by decide +kernel)) (by decide +kernel)
theorem m_154 : Cond.code yX10_rowOn cX10_rowOn 2 (some (.object "OneBeatsBoth$Row")) ∈ WT := wt_in (List.mem_of_getElem? (i := 154) (by decide +kernel)) (by decide +kernel)
theorem m_155 : Cond.methodLink "OneBeatsBoth" 211 yX10_isShelf ∈ WT := wt_in (List.mem_of_getElem? (i := 155) (by decide +kernel)) (by decide +kernel)
theorem m_156 : Cond.static yX10_isShelf ∈ WT := wt_in (List.mem_of_getElem? (i := 156) (by decide +kernel)) (by decide +kernel)
theorem m_157 : Cond.code yX10_isShelf cX10_isShelf 1 (some .boolean) ∈ WT := wt_in (List.mem_of_getElem? (i := 157) (by decide +kernel)) (by decide +kernel)
theorem m_158 : Cond.methodLink "OneBeatsBoth" 55 yX10_whyNotOn ∈ WT := wt_in (List.mem_of_getElem? (i := 158) (by decide +kernel)) (by decide +kernel)
theorem m_160 : Cond.instanceMethod yX10_whyNotOn ∈ WT := wt_in (List.mem_of_getElem? (i := 160) (by decide +kernel)) (by decide +kernel)
theorem m_161 : Cond.code yX10_whyNotOn cX10_whyNotOn 2 (some .int) ∈ WT := wt_in (List.mem_of_getElem? (i := 161) (by decide +kernel)) (by decide +kernel)
theorem m_162 : Cond.methodLink "OneBeatsBoth" 247 yX10_isBare ∈ WT := wt_in (List.mem_of_getElem? (i := 162) (by decide +kernel)) (by decide +kernel)
theorem m_164 : Cond.instanceMethod yX10_isBare ∈ WT := wt_in (List.mem_of_getElem? (i := 164) (by decide +kernel)) (by decide +kernel)
theorem m_165 : Cond.code yX10_isBare cX10_isBare 2 (some .boolean) ∈ WT := wt_in (List.mem_of_getElem? (i := 165) (by decide +kernel)) (by decide +kernel)
theorem m_166 : Cond.methodLink "OneBeatsBoth" 107 yX10_personOn ∈ WT := wt_in (List.mem_of_getElem? (i := 166) (by decide +kernel)) (by decide +kernel)
theorem m_168 : Cond.instanceMethod yX10_personOn ∈ WT := wt_in (List.mem_of_getElem? (i := 168) (by decide +kernel)) (by decide +kernel)
theorem m_169 : Cond.code yX10_personOn cX10_personOn 2 (some (.object "OneBeatsBoth$Player")) ∈ WT := wt_in (List.mem_of_getElem? (i := 169) (by decide +kernel)) (by decide +kernel)
theorem m_173 : Cond.methodLink "OneBeatsBoth" 67 yX8_size ∈ WT := wt_in (List.mem_of_getElem? (i := 173) (by decide +kernel)) (by decide +kernel)
theorem m_174 : Cond.instanceMethod yX8_size ∈ WT := wt_in (List.mem_of_getElem? (i := 174) (by decide +kernel)) (by decide +kernel)
theorem m_175 : Cond.selects "OneBeatsBoth$Row" yX8_size yX8_size ∈ WT := wt_in (List.mem_of_getElem? (i := 175) (by decide +kernel)) (by decide +kernel)
theorem m_176 : Cond.code yX8_size cX8_size 1 (some .int) ∈ WT := wt_in (List.mem_of_getElem? (i := 176) (by decide +kernel)) (by decide +kernel)
theorem m_177 : Cond.methodLink "OneBeatsBoth" 71 yX8_at ∈ WT := wt_in (List.mem_of_getElem? (i := 177) (by decide +kernel)) (by decide +kernel)
theorem m_178 : Cond.instanceMethod yX8_at ∈ WT := wt_in (List.mem_of_getElem? (i := 178) (by decide +kernel)) (by decide +kernel)
theorem m_179 : Cond.selects "OneBeatsBoth$Row" yX8_at yX8_at ∈ WT := wt_in (List.mem_of_getElem? (i := 179) (by decide +kernel)) (by decide +kernel)
theorem m_180 : Cond.code yX8_at cX8_at 2 (some .int) ∈ WT := wt_in (List.mem_of_getElem? (i := 180) (by decide +kernel)) (by decide +kernel)
theorem m_181 : Cond.methodLink "OneBeatsBoth$Row" 17 yX8_hasPlaces ∈ WT := wt_in (List.mem_of_getElem? (i := 181) (by decide +kernel)) (by decide +kernel)
theorem m_182 : Cond.instanceMethod yX8_hasPlaces ∈ WT := wt_in (List.mem_of_getElem? (i := 182) (by decide +kernel)) (by decide +kernel)
theorem m_183 : Cond.selects "OneBeatsBoth$Row" yX8_hasPlaces yX8_hasPlaces ∈ WT := wt_in (List.mem_of_getElem? (i := 183) (by decide +kernel)) (by decide +kernel)
theorem m_184 : Cond.code yX8_hasPlaces cX8_hasPlaces 3 (some .boolean) ∈ WT := wt_in (List.mem_of_getElem? (i := 184) (by decide +kernel)) (by decide +kernel)
theorem m_185 : Cond.methodLink "OneBeatsBoth" 78 yX10_digitsBehind ∈ WT := wt_in (List.mem_of_getElem? (i := 185) (by decide +kernel)) (by decide +kernel)
theorem m_186 : Cond.static yX10_digitsBehind ∈ WT := wt_in (List.mem_of_getElem? (i := 186) (by decide +kernel)) (by decide +kernel)
theorem m_187 : Cond.code yX10_digitsBehind cX10_digitsBehind 1 (some .int) ∈ WT := wt_in (List.mem_of_getElem? (i := 187) (by decide +kernel)) (by decide +kernel)
theorem m_188 : Cond.methodLink "OneBeatsBoth" 63 yX2_become ∈ WT := wt_in (List.mem_of_getElem? (i := 188) (by decide +kernel)) (by decide +kernel)
theorem m_189 : Cond.instanceMethod yX2_become ∈ WT := wt_in (List.mem_of_getElem? (i := 189) (by decide +kernel)) (by decide +kernel)
theorem m_190 : Cond.selects "OneBeatsBoth$League" yX2_become yX2_become ∈ WT := wt_in (List.mem_of_getElem? (i := 190) (by decide +kernel)) (by decide +kernel)
theorem m_191 : Cond.code yX2_become cX2_become 2 none ∈ WT := wt_in (List.mem_of_getElem? (i := 191) (by decide +kernel)) (by decide +kernel)
theorem m_192 : Cond.methodLink "OneBeatsBoth$League" 28 arraycopyName ∈ WT := wt_in (List.mem_of_getElem? (i := 192) (by decide +kernel)) (by decide +kernel)
theorem m_193 : Cond.static arraycopyName ∈ WT := wt_in (List.mem_of_getElem? (i := 193) (by decide +kernel)) (by decide +kernel)
theorem m_194 : Cond.native arraycopyName ∈ WT := wt_in (List.mem_of_getElem? (i := 194) (by decide +kernel)) (by decide +kernel)
theorem m_199 : Cond.methodLink "OneBeatsBoth" 165 yX10_isPerson ∈ WT := wt_in (List.mem_of_getElem? (i := 199) (by decide +kernel)) (by decide +kernel)
theorem m_200 : Cond.static yX10_isPerson ∈ WT := wt_in (List.mem_of_getElem? (i := 200) (by decide +kernel)) (by decide +kernel)
theorem m_201 : Cond.code yX10_isPerson cX10_isPerson 2 (some .boolean) ∈ WT := wt_in (List.mem_of_getElem? (i := 201) (by decide +kernel)) (by decide +kernel)
theorem m_202 : Cond.methodLink "OneBeatsBoth" 168 yX10_newPerson ∈ WT := wt_in (List.mem_of_getElem? (i := 202) (by decide +kernel)) (by decide +kernel)
theorem m_203 : Cond.static yX10_newPerson ∈ WT := wt_in (List.mem_of_getElem? (i := 203) (by decide +kernel)) (by decide +kernel)
theorem m_204 : Cond.code yX10_newPerson cX10_newPerson 2 (some (.object "OneBeatsBoth$Player")) ∈ WT := wt_in (List.mem_of_getElem? (i := 204) (by decide +kernel)) (by decide +kernel)
theorem m_205 : Cond.classLink "OneBeatsBoth" 267 "OneBeatsBoth$Nuisance" ∈ WT := wt_in (List.mem_of_getElem? (i := 205) (by decide +kernel)) (by decide +kernel)
theorem m_206 : Cond.instantiable "OneBeatsBoth$Nuisance" 1 ∈ WT := wt_in (List.mem_of_getElem? (i := 206) (by decide +kernel)) (by decide +kernel)
theorem m_207 : Cond.methodLink "OneBeatsBoth" 269 yX4_init ∈ WT := wt_in (List.mem_of_getElem? (i := 207) (by decide +kernel)) (by decide +kernel)
theorem m_208 : Cond.instanceMethod yX4_init ∈ WT := wt_in (List.mem_of_getElem? (i := 208) (by decide +kernel)) (by decide +kernel)
theorem m_209 : Cond.code yX4_init cX4_init 2 none ∈ WT := wt_in (List.mem_of_getElem? (i := 209) (by decide +kernel)) (by decide +kernel)
theorem m_210 : Cond.methodLink "OneBeatsBoth$Nuisance" 1 yX6_init ∈ WT := wt_in (List.mem_of_getElem? (i := 210) (by decide +kernel)) (by decide +kernel)
theorem m_212 : Cond.superclass "OneBeatsBoth$Nuisance" "OneBeatsBoth$Player" ∈ WT := wt_in (List.mem_of_getElem? (i := 212) (by decide +kernel)) (by decide +kernel)
theorem m_213 : Cond.classLink "OneBeatsBoth" 270 "OneBeatsBoth$Paid" ∈ WT := wt_in (List.mem_of_getElem? (i := 213) (by decide +kernel)) (by decide +kernel)
theorem m_214 : Cond.instantiable "OneBeatsBoth$Paid" 1 ∈ WT := wt_in (List.mem_of_getElem? (i := 214) (by decide +kernel)) (by decide +kernel)
theorem m_215 : Cond.methodLink "OneBeatsBoth" 272 yX5_init ∈ WT := wt_in (List.mem_of_getElem? (i := 215) (by decide +kernel)) (by decide +kernel)
theorem m_216 : Cond.instanceMethod yX5_init ∈ WT := wt_in (List.mem_of_getElem? (i := 216) (by decide +kernel)) (by decide +kernel)
theorem m_217 : Cond.code yX5_init cX5_init 2 none ∈ WT := wt_in (List.mem_of_getElem? (i := 217) (by decide +kernel)) (by decide +kernel)
theorem m_218 : Cond.methodLink "OneBeatsBoth$Paid" 1 yX6_init ∈ WT := wt_in (List.mem_of_getElem? (i := 218) (by decide +kernel)) (by decide +kernel)
theorem m_220 : Cond.superclass "OneBeatsBoth$Paid" "OneBeatsBoth$Player" ∈ WT := wt_in (List.mem_of_getElem? (i := 220) (by decide +kernel)) (by decide +kernel)
theorem m_221 : Cond.classLink "OneBeatsBoth" 273 "OneBeatsBoth$Guest" ∈ WT := wt_in (List.mem_of_getElem? (i := 221) (by decide +kernel)) (by decide +kernel)
theorem m_222 : Cond.instantiable "OneBeatsBoth$Guest" 1 ∈ WT := wt_in (List.mem_of_getElem? (i := 222) (by decide +kernel)) (by decide +kernel)
theorem m_223 : Cond.methodLink "OneBeatsBoth" 275 yX1_init ∈ WT := wt_in (List.mem_of_getElem? (i := 223) (by decide +kernel)) (by decide +kernel)
theorem m_224 : Cond.instanceMethod yX1_init ∈ WT := wt_in (List.mem_of_getElem? (i := 224) (by decide +kernel)) (by decide +kernel)
theorem m_225 : Cond.code yX1_init cX1_init 2 none ∈ WT := wt_in (List.mem_of_getElem? (i := 225) (by decide +kernel)) (by decide +kernel)
theorem m_226 : Cond.methodLink "OneBeatsBoth$Guest" 1 yX6_init ∈ WT := wt_in (List.mem_of_getElem? (i := 226) (by decide +kernel)) (by decide +kernel)
theorem m_228 : Cond.superclass "OneBeatsBoth$Guest" "OneBeatsBoth$Player" ∈ WT := wt_in (List.mem_of_getElem? (i := 228) (by decide +kernel)) (by decide +kernel)
theorem m_229 : Cond.classLink "OneBeatsBoth" 276 "OneBeatsBoth$Twin" ∈ WT := wt_in (List.mem_of_getElem? (i := 229) (by decide +kernel)) (by decide +kernel)
theorem m_230 : Cond.instantiable "OneBeatsBoth$Twin" 1 ∈ WT := wt_in (List.mem_of_getElem? (i := 230) (by decide +kernel)) (by decide +kernel)
theorem m_231 : Cond.methodLink "OneBeatsBoth" 278 yX9_init ∈ WT := wt_in (List.mem_of_getElem? (i := 231) (by decide +kernel)) (by decide +kernel)
theorem m_232 : Cond.instanceMethod yX9_init ∈ WT := wt_in (List.mem_of_getElem? (i := 232) (by decide +kernel)) (by decide +kernel)
theorem m_233 : Cond.code yX9_init cX9_init 2 none ∈ WT := wt_in (List.mem_of_getElem? (i := 233) (by decide +kernel)) (by decide +kernel)
theorem m_234 : Cond.methodLink "OneBeatsBoth$Twin" 1 yX4_init ∈ WT := wt_in (List.mem_of_getElem? (i := 234) (by decide +kernel)) (by decide +kernel)
theorem m_236 : Cond.superclass "OneBeatsBoth$Twin" "OneBeatsBoth$Nuisance" ∈ WT := wt_in (List.mem_of_getElem? (i := 236) (by decide +kernel)) (by decide +kernel)
theorem m_237 : Cond.classLink "OneBeatsBoth" 279 "OneBeatsBoth$Novice" ∈ WT := wt_in (List.mem_of_getElem? (i := 237) (by decide +kernel)) (by decide +kernel)
theorem m_238 : Cond.instantiable "OneBeatsBoth$Novice" 1 ∈ WT := wt_in (List.mem_of_getElem? (i := 238) (by decide +kernel)) (by decide +kernel)
theorem m_239 : Cond.methodLink "OneBeatsBoth" 281 yX3_init ∈ WT := wt_in (List.mem_of_getElem? (i := 239) (by decide +kernel)) (by decide +kernel)
theorem m_240 : Cond.instanceMethod yX3_init ∈ WT := wt_in (List.mem_of_getElem? (i := 240) (by decide +kernel)) (by decide +kernel)
theorem m_241 : Cond.code yX3_init cX3_init 2 none ∈ WT := wt_in (List.mem_of_getElem? (i := 241) (by decide +kernel)) (by decide +kernel)
theorem m_242 : Cond.methodLink "OneBeatsBoth$Novice" 1 yX5_init ∈ WT := wt_in (List.mem_of_getElem? (i := 242) (by decide +kernel)) (by decide +kernel)
theorem m_244 : Cond.superclass "OneBeatsBoth$Novice" "OneBeatsBoth$Paid" ∈ WT := wt_in (List.mem_of_getElem? (i := 244) (by decide +kernel)) (by decide +kernel)
theorem m_245 : Cond.classLink "OneBeatsBoth" 282 "OneBeatsBoth$Priest" ∈ WT := wt_in (List.mem_of_getElem? (i := 245) (by decide +kernel)) (by decide +kernel)
theorem m_246 : Cond.instantiable "OneBeatsBoth$Priest" 1 ∈ WT := wt_in (List.mem_of_getElem? (i := 246) (by decide +kernel)) (by decide +kernel)
theorem m_247 : Cond.methodLink "OneBeatsBoth" 284 yX7_init ∈ WT := wt_in (List.mem_of_getElem? (i := 247) (by decide +kernel)) (by decide +kernel)
theorem m_248 : Cond.instanceMethod yX7_init ∈ WT := wt_in (List.mem_of_getElem? (i := 248) (by decide +kernel)) (by decide +kernel)
theorem m_249 : Cond.code yX7_init cX7_init 2 none ∈ WT := wt_in (List.mem_of_getElem? (i := 249) (by decide +kernel)) (by decide +kernel)
theorem m_250 : Cond.methodLink "OneBeatsBoth$Priest" 1 yX1_init ∈ WT := wt_in (List.mem_of_getElem? (i := 250) (by decide +kernel)) (by decide +kernel)
theorem m_252 : Cond.superclass "OneBeatsBoth$Priest" "OneBeatsBoth$Guest" ∈ WT := wt_in (List.mem_of_getElem? (i := 252) (by decide +kernel)) (by decide +kernel)
theorem m_253 : Cond.classLink "OneBeatsBoth" 285 "OneBeatsBoth$Champion" ∈ WT := wt_in (List.mem_of_getElem? (i := 253) (by decide +kernel)) (by decide +kernel)
theorem m_254 : Cond.instantiable "OneBeatsBoth$Champion" 1 ∈ WT := wt_in (List.mem_of_getElem? (i := 254) (by decide +kernel)) (by decide +kernel)
theorem m_255 : Cond.methodLink "OneBeatsBoth" 287 yX0_init ∈ WT := wt_in (List.mem_of_getElem? (i := 255) (by decide +kernel)) (by decide +kernel)
theorem m_256 : Cond.instanceMethod yX0_init ∈ WT := wt_in (List.mem_of_getElem? (i := 256) (by decide +kernel)) (by decide +kernel)
theorem m_257 : Cond.code yX0_init cX0_init 2 none ∈ WT := wt_in (List.mem_of_getElem? (i := 257) (by decide +kernel)) (by decide +kernel)
theorem m_258 : Cond.methodLink "OneBeatsBoth$Champion" 1 yX6_init ∈ WT := wt_in (List.mem_of_getElem? (i := 258) (by decide +kernel)) (by decide +kernel)
theorem m_260 : Cond.superclass "OneBeatsBoth$Champion" "OneBeatsBoth$Player" ∈ WT := wt_in (List.mem_of_getElem? (i := 260) (by decide +kernel)) (by decide +kernel)
theorem m_261 : Cond.methodLink "OneBeatsBoth" 113 yX2_seat ∈ WT := wt_in (List.mem_of_getElem? (i := 261) (by decide +kernel)) (by decide +kernel)
theorem m_262 : Cond.instanceMethod yX2_seat ∈ WT := wt_in (List.mem_of_getElem? (i := 262) (by decide +kernel)) (by decide +kernel)
theorem m_263 : Cond.selects "OneBeatsBoth$League" yX2_seat yX2_seat ∈ WT := wt_in (List.mem_of_getElem? (i := 263) (by decide +kernel)) (by decide +kernel)
theorem m_264 : Cond.code yX2_seat cX2_seat 3 none ∈ WT := wt_in (List.mem_of_getElem? (i := 264) (by decide +kernel)) (by decide +kernel)
theorem m_265 : Cond.methodLink "OneBeatsBoth" 116 yX2_hasBoth ∈ WT := wt_in (List.mem_of_getElem? (i := 265) (by decide +kernel)) (by decide +kernel)
theorem m_266 : Cond.instanceMethod yX2_hasBoth ∈ WT := wt_in (List.mem_of_getElem? (i := 266) (by decide +kernel)) (by decide +kernel)
theorem m_267 : Cond.selects "OneBeatsBoth$League" yX2_hasBoth yX2_hasBoth ∈ WT := wt_in (List.mem_of_getElem? (i := 267) (by decide +kernel)) (by decide +kernel)
theorem m_268 : Cond.code yX2_hasBoth cX2_hasBoth 3 (some .boolean) ∈ WT := wt_in (List.mem_of_getElem? (i := 268) (by decide +kernel)) (by decide +kernel)
theorem m_269 : Cond.methodLink "OneBeatsBoth$League" 34 yX2_has ∈ WT := wt_in (List.mem_of_getElem? (i := 269) (by decide +kernel)) (by decide +kernel)
theorem m_270 : Cond.instanceMethod yX2_has ∈ WT := wt_in (List.mem_of_getElem? (i := 270) (by decide +kernel)) (by decide +kernel)
theorem m_271 : Cond.selects "OneBeatsBoth$League" yX2_has yX2_has ∈ WT := wt_in (List.mem_of_getElem? (i := 271) (by decide +kernel)) (by decide +kernel)
theorem m_272 : Cond.code yX2_has cX2_has 2 (some .boolean) ∈ WT := wt_in (List.mem_of_getElem? (i := 272) (by decide +kernel)) (by decide +kernel)
theorem m_273 : Cond.methodLink "OneBeatsBoth" 123 yX2_win ∈ WT := wt_in (List.mem_of_getElem? (i := 273) (by decide +kernel)) (by decide +kernel)
theorem m_274 : Cond.instanceMethod yX2_win ∈ WT := wt_in (List.mem_of_getElem? (i := 274) (by decide +kernel)) (by decide +kernel)
theorem m_275 : Cond.selects "OneBeatsBoth$League" yX2_win yX2_win ∈ WT := wt_in (List.mem_of_getElem? (i := 275) (by decide +kernel)) (by decide +kernel)
theorem m_276 : Cond.code yX2_win cX2_win 3 none ∈ WT := wt_in (List.mem_of_getElem? (i := 276) (by decide +kernel)) (by decide +kernel)
theorem m_277 : Cond.methodLink "OneBeatsBoth" 127 yX10_isLaw ∈ WT := wt_in (List.mem_of_getElem? (i := 277) (by decide +kernel)) (by decide +kernel)
theorem m_278 : Cond.static yX10_isLaw ∈ WT := wt_in (List.mem_of_getElem? (i := 278) (by decide +kernel)) (by decide +kernel)
theorem m_279 : Cond.code yX10_isLaw cX10_isLaw 1 (some .boolean) ∈ WT := wt_in (List.mem_of_getElem? (i := 279) (by decide +kernel)) (by decide +kernel)
theorem m_280 : Cond.methodLink "OneBeatsBoth" 175 yX2_unseat ∈ WT := wt_in (List.mem_of_getElem? (i := 280) (by decide +kernel)) (by decide +kernel)
theorem m_281 : Cond.instanceMethod yX2_unseat ∈ WT := wt_in (List.mem_of_getElem? (i := 281) (by decide +kernel)) (by decide +kernel)
theorem m_282 : Cond.selects "OneBeatsBoth$League" yX2_unseat yX2_unseat ∈ WT := wt_in (List.mem_of_getElem? (i := 282) (by decide +kernel)) (by decide +kernel)
theorem m_283 : Cond.code yX2_unseat cX2_unseat 4 none ∈ WT := wt_in (List.mem_of_getElem? (i := 283) (by decide +kernel)) (by decide +kernel)
theorem m_288 : Cond.methodLink "OneBeatsBoth" 81 yX2_has ∈ WT := wt_in (List.mem_of_getElem? (i := 288) (by decide +kernel)) (by decide +kernel)
theorem m_289 : Cond.methodLink "OneBeatsBoth" 88 yX6_kind ∈ WT := wt_in (List.mem_of_getElem? (i := 289) (by decide +kernel)) (by decide +kernel)
theorem m_290 : Cond.instanceMethod yX6_kind ∈ WT := wt_in (List.mem_of_getElem? (i := 290) (by decide +kernel)) (by decide +kernel)
theorem m_291 : Cond.selects "OneBeatsBoth$Player" yX6_kind yX6_kind ∈ WT := wt_in (List.mem_of_getElem? (i := 291) (by decide +kernel)) (by decide +kernel)
theorem m_292 : Cond.sameMethod "OneBeatsBoth$Player" "OneBeatsBoth$Player" "kind" "()I" ∈ WT := wt_in (List.mem_of_getElem? (i := 292) (by decide +kernel)) (by decide +kernel)
theorem m_293 : Cond.selects "OneBeatsBoth$Champion" yX6_kind yX0_kind ∈ WT := wt_in (List.mem_of_getElem? (i := 293) (by decide +kernel)) (by decide +kernel)
theorem m_294 : Cond.instanceMethod yX0_kind ∈ WT := wt_in (List.mem_of_getElem? (i := 294) (by decide +kernel)) (by decide +kernel)
theorem m_295 : Cond.code yX0_kind cX0_kind 1 (some .int) ∈ WT := wt_in (List.mem_of_getElem? (i := 295) (by decide +kernel)) (by decide +kernel)
theorem m_296 : Cond.selects "OneBeatsBoth$Guest" yX6_kind yX1_kind ∈ WT := wt_in (List.mem_of_getElem? (i := 296) (by decide +kernel)) (by decide +kernel)
theorem m_297 : Cond.instanceMethod yX1_kind ∈ WT := wt_in (List.mem_of_getElem? (i := 297) (by decide +kernel)) (by decide +kernel)
theorem m_298 : Cond.code yX1_kind cX1_kind 1 (some .int) ∈ WT := wt_in (List.mem_of_getElem? (i := 298) (by decide +kernel)) (by decide +kernel)
theorem m_299 : Cond.selects "OneBeatsBoth$Novice" yX6_kind yX3_kind ∈ WT := wt_in (List.mem_of_getElem? (i := 299) (by decide +kernel)) (by decide +kernel)
theorem m_300 : Cond.instanceMethod yX3_kind ∈ WT := wt_in (List.mem_of_getElem? (i := 300) (by decide +kernel)) (by decide +kernel)
theorem m_301 : Cond.code yX3_kind cX3_kind 1 (some .int) ∈ WT := wt_in (List.mem_of_getElem? (i := 301) (by decide +kernel)) (by decide +kernel)
theorem m_302 : Cond.selects "OneBeatsBoth$Nuisance" yX6_kind yX4_kind ∈ WT := wt_in (List.mem_of_getElem? (i := 302) (by decide +kernel)) (by decide +kernel)
theorem m_303 : Cond.instanceMethod yX4_kind ∈ WT := wt_in (List.mem_of_getElem? (i := 303) (by decide +kernel)) (by decide +kernel)
theorem m_304 : Cond.code yX4_kind cX4_kind 1 (some .int) ∈ WT := wt_in (List.mem_of_getElem? (i := 304) (by decide +kernel)) (by decide +kernel)
theorem m_305 : Cond.selects "OneBeatsBoth$Paid" yX6_kind yX5_kind ∈ WT := wt_in (List.mem_of_getElem? (i := 305) (by decide +kernel)) (by decide +kernel)
theorem m_306 : Cond.instanceMethod yX5_kind ∈ WT := wt_in (List.mem_of_getElem? (i := 306) (by decide +kernel)) (by decide +kernel)
theorem m_307 : Cond.code yX5_kind cX5_kind 1 (some .int) ∈ WT := wt_in (List.mem_of_getElem? (i := 307) (by decide +kernel)) (by decide +kernel)
theorem m_308 : Cond.selects "OneBeatsBoth$Priest" yX6_kind yX7_kind ∈ WT := wt_in (List.mem_of_getElem? (i := 308) (by decide +kernel)) (by decide +kernel)
theorem m_309 : Cond.instanceMethod yX7_kind ∈ WT := wt_in (List.mem_of_getElem? (i := 309) (by decide +kernel)) (by decide +kernel)
theorem m_310 : Cond.code yX7_kind cX7_kind 1 (some .int) ∈ WT := wt_in (List.mem_of_getElem? (i := 310) (by decide +kernel)) (by decide +kernel)
theorem m_311 : Cond.selects "OneBeatsBoth$Twin" yX6_kind yX9_kind ∈ WT := wt_in (List.mem_of_getElem? (i := 311) (by decide +kernel)) (by decide +kernel)
theorem m_312 : Cond.instanceMethod yX9_kind ∈ WT := wt_in (List.mem_of_getElem? (i := 312) (by decide +kernel)) (by decide +kernel)
theorem m_313 : Cond.code yX9_kind cX9_kind 1 (some .int) ∈ WT := wt_in (List.mem_of_getElem? (i := 313) (by decide +kernel)) (by decide +kernel)
theorem m_314 : Cond.code yX6_kind cX6_kind 1 (some .int) ∈ WT := wt_in (List.mem_of_getElem? (i := 314) (by decide +kernel)) (by decide +kernel)
theorem m_315 : Cond.methodLink "OneBeatsBoth" 95 yX6_skill ∈ WT := wt_in (List.mem_of_getElem? (i := 315) (by decide +kernel)) (by decide +kernel)
theorem m_316 : Cond.instanceMethod yX6_skill ∈ WT := wt_in (List.mem_of_getElem? (i := 316) (by decide +kernel)) (by decide +kernel)
theorem m_317 : Cond.selects "OneBeatsBoth$Player" yX6_skill yX6_skill ∈ WT := wt_in (List.mem_of_getElem? (i := 317) (by decide +kernel)) (by decide +kernel)
theorem m_318 : Cond.sameMethod "OneBeatsBoth$Player" "OneBeatsBoth$Player" "skill" "()I" ∈ WT := wt_in (List.mem_of_getElem? (i := 318) (by decide +kernel)) (by decide +kernel)
theorem m_319 : Cond.selects "OneBeatsBoth$Champion" yX6_skill yX0_skill ∈ WT := wt_in (List.mem_of_getElem? (i := 319) (by decide +kernel)) (by decide +kernel)
theorem m_320 : Cond.instanceMethod yX0_skill ∈ WT := wt_in (List.mem_of_getElem? (i := 320) (by decide +kernel)) (by decide +kernel)
theorem m_321 : Cond.code yX0_skill cX0_skill 1 (some .int) ∈ WT := wt_in (List.mem_of_getElem? (i := 321) (by decide +kernel)) (by decide +kernel)
theorem m_322 : Cond.methodLink "OneBeatsBoth$Champion" 7 yX6_skill ∈ WT := wt_in (List.mem_of_getElem? (i := 322) (by decide +kernel)) (by decide +kernel)
theorem m_323 : Cond.selects "OneBeatsBoth$Guest" yX6_skill yX1_skill ∈ WT := wt_in (List.mem_of_getElem? (i := 323) (by decide +kernel)) (by decide +kernel)
theorem m_324 : Cond.instanceMethod yX1_skill ∈ WT := wt_in (List.mem_of_getElem? (i := 324) (by decide +kernel)) (by decide +kernel)
theorem m_325 : Cond.code yX1_skill cX1_skill 1 (some .int) ∈ WT := wt_in (List.mem_of_getElem? (i := 325) (by decide +kernel)) (by decide +kernel)
theorem m_326 : Cond.methodLink "OneBeatsBoth$Guest" 7 yX6_skill ∈ WT := wt_in (List.mem_of_getElem? (i := 326) (by decide +kernel)) (by decide +kernel)
theorem m_327 : Cond.selects "OneBeatsBoth$Novice" yX6_skill yX3_skill ∈ WT := wt_in (List.mem_of_getElem? (i := 327) (by decide +kernel)) (by decide +kernel)
theorem m_328 : Cond.instanceMethod yX3_skill ∈ WT := wt_in (List.mem_of_getElem? (i := 328) (by decide +kernel)) (by decide +kernel)
theorem m_329 : Cond.code yX3_skill cX3_skill 1 (some .int) ∈ WT := wt_in (List.mem_of_getElem? (i := 329) (by decide +kernel)) (by decide +kernel)
theorem m_330 : Cond.selects "OneBeatsBoth$Nuisance" yX6_skill yX4_skill ∈ WT := wt_in (List.mem_of_getElem? (i := 330) (by decide +kernel)) (by decide +kernel)
theorem m_331 : Cond.instanceMethod yX4_skill ∈ WT := wt_in (List.mem_of_getElem? (i := 331) (by decide +kernel)) (by decide +kernel)
theorem m_332 : Cond.code yX4_skill cX4_skill 1 (some .int) ∈ WT := wt_in (List.mem_of_getElem? (i := 332) (by decide +kernel)) (by decide +kernel)
theorem m_333 : Cond.methodLink "OneBeatsBoth$Nuisance" 7 yX6_skill ∈ WT := wt_in (List.mem_of_getElem? (i := 333) (by decide +kernel)) (by decide +kernel)
theorem m_334 : Cond.selects "OneBeatsBoth$Paid" yX6_skill yX6_skill ∈ WT := wt_in (List.mem_of_getElem? (i := 334) (by decide +kernel)) (by decide +kernel)
theorem m_335 : Cond.selects "OneBeatsBoth$Priest" yX6_skill yX1_skill ∈ WT := wt_in (List.mem_of_getElem? (i := 335) (by decide +kernel)) (by decide +kernel)
theorem m_336 : Cond.selects "OneBeatsBoth$Twin" yX6_skill yX9_skill ∈ WT := wt_in (List.mem_of_getElem? (i := 336) (by decide +kernel)) (by decide +kernel)
theorem m_337 : Cond.instanceMethod yX9_skill ∈ WT := wt_in (List.mem_of_getElem? (i := 337) (by decide +kernel)) (by decide +kernel)
theorem m_338 : Cond.code yX9_skill cX9_skill 1 (some .int) ∈ WT := wt_in (List.mem_of_getElem? (i := 338) (by decide +kernel)) (by decide +kernel)
theorem m_339 : Cond.methodLink "OneBeatsBoth$Twin" 7 yX4_skill ∈ WT := wt_in (List.mem_of_getElem? (i := 339) (by decide +kernel)) (by decide +kernel)
theorem m_340 : Cond.code yX6_skill cX6_skill 1 (some .int) ∈ WT := wt_in (List.mem_of_getElem? (i := 340) (by decide +kernel)) (by decide +kernel)
theorem m_341 : Cond.methodLink "OneBeatsBoth" 101 yX2_counting ∈ WT := wt_in (List.mem_of_getElem? (i := 341) (by decide +kernel)) (by decide +kernel)
theorem m_342 : Cond.instanceMethod yX2_counting ∈ WT := wt_in (List.mem_of_getElem? (i := 342) (by decide +kernel)) (by decide +kernel)
theorem m_343 : Cond.selects "OneBeatsBoth$League" yX2_counting yX2_counting ∈ WT := wt_in (List.mem_of_getElem? (i := 343) (by decide +kernel)) (by decide +kernel)
theorem m_344 : Cond.code yX2_counting cX2_counting 3 (some .int) ∈ WT := wt_in (List.mem_of_getElem? (i := 344) (by decide +kernel)) (by decide +kernel)
theorem m_345 : Cond.methodLink "OneBeatsBoth$League" 68 yJ6_bitCount_0f7a4 ∈ WT := wt_in (List.mem_of_getElem? (i := 345) (by decide +kernel)) (by decide +kernel)
theorem m_346 : Cond.static yJ6_bitCount_0f7a4 ∈ WT := wt_in (List.mem_of_getElem? (i := 346) (by decide +kernel)) (by decide +kernel)
theorem m_347 : Cond.code yJ6_bitCount_0f7a4 cJ6_bitCount_0f7a4 1 (some .int) ∈ WT := wt_in (List.mem_of_getElem? (i := 347) (by decide +kernel)) (by decide +kernel)
theorem m_348 : Cond.constant "java/lang/Integer" 265 1431655765 ∈ WT := wt_in (List.mem_of_getElem? (i := 348) (by decide +kernel)) (by decide +kernel)
theorem m_349 : Cond.constant "java/lang/Integer" 266 858993459 ∈ WT := wt_in (List.mem_of_getElem? (i := 349) (by decide +kernel)) (by decide +kernel)
theorem m_350 : Cond.constant "java/lang/Integer" 267 252645135 ∈ WT := wt_in (List.mem_of_getElem? (i := 350) (by decide +kernel)) (by decide +kernel)
theorem m_351 : Cond.methodLink "OneBeatsBoth$League" 74 yX6_countsWith ∈ WT := wt_in (List.mem_of_getElem? (i := 351) (by decide +kernel)) (by decide +kernel)
theorem m_352 : Cond.instanceMethod yX6_countsWith ∈ WT := wt_in (List.mem_of_getElem? (i := 352) (by decide +kernel)) (by decide +kernel)
theorem m_353 : Cond.selects "OneBeatsBoth$Player" yX6_countsWith yX6_countsWith ∈ WT := wt_in (List.mem_of_getElem? (i := 353) (by decide +kernel)) (by decide +kernel)
theorem m_354 : Cond.sameMethod "OneBeatsBoth$Player" "OneBeatsBoth$Player" "countsWith" "(I)Z" ∈ WT := wt_in (List.mem_of_getElem? (i := 354) (by decide +kernel)) (by decide +kernel)
theorem m_355 : Cond.selects "OneBeatsBoth$Champion" yX6_countsWith yX6_countsWith ∈ WT := wt_in (List.mem_of_getElem? (i := 355) (by decide +kernel)) (by decide +kernel)
theorem m_356 : Cond.selects "OneBeatsBoth$Guest" yX6_countsWith yX6_countsWith ∈ WT := wt_in (List.mem_of_getElem? (i := 356) (by decide +kernel)) (by decide +kernel)
theorem m_357 : Cond.selects "OneBeatsBoth$Novice" yX6_countsWith yX3_countsWith ∈ WT := wt_in (List.mem_of_getElem? (i := 357) (by decide +kernel)) (by decide +kernel)
theorem m_358 : Cond.instanceMethod yX3_countsWith ∈ WT := wt_in (List.mem_of_getElem? (i := 358) (by decide +kernel)) (by decide +kernel)
theorem m_359 : Cond.code yX3_countsWith cX3_countsWith 2 (some .boolean) ∈ WT := wt_in (List.mem_of_getElem? (i := 359) (by decide +kernel)) (by decide +kernel)
theorem m_360 : Cond.selects "OneBeatsBoth$Nuisance" yX6_countsWith yX4_countsWith ∈ WT := wt_in (List.mem_of_getElem? (i := 360) (by decide +kernel)) (by decide +kernel)
theorem m_361 : Cond.instanceMethod yX4_countsWith ∈ WT := wt_in (List.mem_of_getElem? (i := 361) (by decide +kernel)) (by decide +kernel)
theorem m_362 : Cond.code yX4_countsWith cX4_countsWith 2 (some .boolean) ∈ WT := wt_in (List.mem_of_getElem? (i := 362) (by decide +kernel)) (by decide +kernel)
theorem m_363 : Cond.selects "OneBeatsBoth$Paid" yX6_countsWith yX6_countsWith ∈ WT := wt_in (List.mem_of_getElem? (i := 363) (by decide +kernel)) (by decide +kernel)
theorem m_364 : Cond.selects "OneBeatsBoth$Priest" yX6_countsWith yX7_countsWith ∈ WT := wt_in (List.mem_of_getElem? (i := 364) (by decide +kernel)) (by decide +kernel)
theorem m_365 : Cond.instanceMethod yX7_countsWith ∈ WT := wt_in (List.mem_of_getElem? (i := 365) (by decide +kernel)) (by decide +kernel)
theorem m_366 : Cond.code yX7_countsWith cX7_countsWith 2 (some .boolean) ∈ WT := wt_in (List.mem_of_getElem? (i := 366) (by decide +kernel)) (by decide +kernel)
theorem m_367 : Cond.selects "OneBeatsBoth$Twin" yX6_countsWith yX9_countsWith ∈ WT := wt_in (List.mem_of_getElem? (i := 367) (by decide +kernel)) (by decide +kernel)
theorem m_368 : Cond.instanceMethod yX9_countsWith ∈ WT := wt_in (List.mem_of_getElem? (i := 368) (by decide +kernel)) (by decide +kernel)
theorem m_369 : Cond.code yX9_countsWith cX9_countsWith 2 (some .boolean) ∈ WT := wt_in (List.mem_of_getElem? (i := 369) (by decide +kernel)) (by decide +kernel)
theorem m_370 : Cond.methodLink "OneBeatsBoth$Twin" 11 yX4_countsWith ∈ WT := wt_in (List.mem_of_getElem? (i := 370) (by decide +kernel)) (by decide +kernel)
theorem m_371 : Cond.code yX6_countsWith cX6_countsWith 2 (some .boolean) ∈ WT := wt_in (List.mem_of_getElem? (i := 371) (by decide +kernel)) (by decide +kernel)
theorem m_372 : Cond.methodLink "OneBeatsBoth" 104 yX6_cost ∈ WT := wt_in (List.mem_of_getElem? (i := 372) (by decide +kernel)) (by decide +kernel)
theorem m_373 : Cond.instanceMethod yX6_cost ∈ WT := wt_in (List.mem_of_getElem? (i := 373) (by decide +kernel)) (by decide +kernel)
theorem m_374 : Cond.selects "OneBeatsBoth$Player" yX6_cost yX6_cost ∈ WT := wt_in (List.mem_of_getElem? (i := 374) (by decide +kernel)) (by decide +kernel)
theorem m_375 : Cond.sameMethod "OneBeatsBoth$Player" "OneBeatsBoth$Player" "cost" "()I" ∈ WT := wt_in (List.mem_of_getElem? (i := 375) (by decide +kernel)) (by decide +kernel)
theorem m_376 : Cond.selects "OneBeatsBoth$Champion" yX6_cost yX0_cost ∈ WT := wt_in (List.mem_of_getElem? (i := 376) (by decide +kernel)) (by decide +kernel)
theorem m_377 : Cond.instanceMethod yX0_cost ∈ WT := wt_in (List.mem_of_getElem? (i := 377) (by decide +kernel)) (by decide +kernel)
theorem m_378 : Cond.code yX0_cost cX0_cost 1 (some .int) ∈ WT := wt_in (List.mem_of_getElem? (i := 378) (by decide +kernel)) (by decide +kernel)
theorem m_379 : Cond.methodLink "OneBeatsBoth$Champion" 11 yX6_cost ∈ WT := wt_in (List.mem_of_getElem? (i := 379) (by decide +kernel)) (by decide +kernel)
theorem m_380 : Cond.selects "OneBeatsBoth$Guest" yX6_cost yX1_cost ∈ WT := wt_in (List.mem_of_getElem? (i := 380) (by decide +kernel)) (by decide +kernel)
theorem m_381 : Cond.instanceMethod yX1_cost ∈ WT := wt_in (List.mem_of_getElem? (i := 381) (by decide +kernel)) (by decide +kernel)
theorem m_382 : Cond.code yX1_cost cX1_cost 1 (some .int) ∈ WT := wt_in (List.mem_of_getElem? (i := 382) (by decide +kernel)) (by decide +kernel)
theorem m_383 : Cond.methodLink "OneBeatsBoth$Guest" 11 yX6_cost ∈ WT := wt_in (List.mem_of_getElem? (i := 383) (by decide +kernel)) (by decide +kernel)
theorem m_384 : Cond.selects "OneBeatsBoth$Novice" yX6_cost yX3_cost ∈ WT := wt_in (List.mem_of_getElem? (i := 384) (by decide +kernel)) (by decide +kernel)
theorem m_385 : Cond.instanceMethod yX3_cost ∈ WT := wt_in (List.mem_of_getElem? (i := 385) (by decide +kernel)) (by decide +kernel)
theorem m_386 : Cond.code yX3_cost cX3_cost 1 (some .int) ∈ WT := wt_in (List.mem_of_getElem? (i := 386) (by decide +kernel)) (by decide +kernel)
theorem m_387 : Cond.methodLink "OneBeatsBoth$Novice" 13 yX5_cost ∈ WT := wt_in (List.mem_of_getElem? (i := 387) (by decide +kernel)) (by decide +kernel)
theorem m_388 : Cond.instanceMethod yX5_cost ∈ WT := wt_in (List.mem_of_getElem? (i := 388) (by decide +kernel)) (by decide +kernel)
theorem m_389 : Cond.code yX5_cost cX5_cost 1 (some .int) ∈ WT := wt_in (List.mem_of_getElem? (i := 389) (by decide +kernel)) (by decide +kernel)
theorem m_390 : Cond.methodLink "OneBeatsBoth$Paid" 7 yX6_cost ∈ WT := wt_in (List.mem_of_getElem? (i := 390) (by decide +kernel)) (by decide +kernel)
theorem m_391 : Cond.selects "OneBeatsBoth$Nuisance" yX6_cost yX4_cost ∈ WT := wt_in (List.mem_of_getElem? (i := 391) (by decide +kernel)) (by decide +kernel)
theorem m_392 : Cond.instanceMethod yX4_cost ∈ WT := wt_in (List.mem_of_getElem? (i := 392) (by decide +kernel)) (by decide +kernel)
theorem m_393 : Cond.code yX4_cost cX4_cost 1 (some .int) ∈ WT := wt_in (List.mem_of_getElem? (i := 393) (by decide +kernel)) (by decide +kernel)
theorem m_394 : Cond.methodLink "OneBeatsBoth$Nuisance" 17 yX6_cost ∈ WT := wt_in (List.mem_of_getElem? (i := 394) (by decide +kernel)) (by decide +kernel)
theorem m_395 : Cond.selects "OneBeatsBoth$Paid" yX6_cost yX5_cost ∈ WT := wt_in (List.mem_of_getElem? (i := 395) (by decide +kernel)) (by decide +kernel)
theorem m_396 : Cond.selects "OneBeatsBoth$Priest" yX6_cost yX7_cost ∈ WT := wt_in (List.mem_of_getElem? (i := 396) (by decide +kernel)) (by decide +kernel)
theorem m_397 : Cond.instanceMethod yX7_cost ∈ WT := wt_in (List.mem_of_getElem? (i := 397) (by decide +kernel)) (by decide +kernel)
theorem m_398 : Cond.code yX7_cost cX7_cost 1 (some .int) ∈ WT := wt_in (List.mem_of_getElem? (i := 398) (by decide +kernel)) (by decide +kernel)
theorem m_399 : Cond.methodLink "OneBeatsBoth$Priest" 7 yX1_cost ∈ WT := wt_in (List.mem_of_getElem? (i := 399) (by decide +kernel)) (by decide +kernel)
theorem m_400 : Cond.selects "OneBeatsBoth$Twin" yX6_cost yX9_cost ∈ WT := wt_in (List.mem_of_getElem? (i := 400) (by decide +kernel)) (by decide +kernel)
theorem m_401 : Cond.instanceMethod yX9_cost ∈ WT := wt_in (List.mem_of_getElem? (i := 401) (by decide +kernel)) (by decide +kernel)
theorem m_402 : Cond.code yX9_cost cX9_cost 1 (some .int) ∈ WT := wt_in (List.mem_of_getElem? (i := 402) (by decide +kernel)) (by decide +kernel)
theorem m_403 : Cond.methodLink "OneBeatsBoth$Twin" 15 yX4_cost ∈ WT := wt_in (List.mem_of_getElem? (i := 403) (by decide +kernel)) (by decide +kernel)
theorem m_404 : Cond.code yX6_cost cX6_cost 1 (some .int) ∈ WT := wt_in (List.mem_of_getElem? (i := 404) (by decide +kernel)) (by decide +kernel)
theorem m_413 : Cond.methodLink "OneBeatsBoth" 120 yX2_hasBeaten ∈ WT := wt_in (List.mem_of_getElem? (i := 413) (by decide +kernel)) (by decide +kernel)
theorem m_414 : Cond.instanceMethod yX2_hasBeaten ∈ WT := wt_in (List.mem_of_getElem? (i := 414) (by decide +kernel)) (by decide +kernel)
theorem m_415 : Cond.selects "OneBeatsBoth$League" yX2_hasBeaten yX2_hasBeaten ∈ WT := wt_in (List.mem_of_getElem? (i := 415) (by decide +kernel)) (by decide +kernel)
theorem m_416 : Cond.code yX2_hasBeaten cX2_hasBeaten 3 (some .boolean) ∈ WT := wt_in (List.mem_of_getElem? (i := 416) (by decide +kernel)) (by decide +kernel)
theorem m_425 : Cond.methodLink "OneBeatsBoth" 133 yX2_isLawful ∈ WT := wt_in (List.mem_of_getElem? (i := 425) (by decide +kernel)) (by decide +kernel)
theorem m_426 : Cond.instanceMethod yX2_isLawful ∈ WT := wt_in (List.mem_of_getElem? (i := 426) (by decide +kernel)) (by decide +kernel)
theorem m_427 : Cond.selects "OneBeatsBoth$League" yX2_isLawful yX2_isLawful ∈ WT := wt_in (List.mem_of_getElem? (i := 427) (by decide +kernel)) (by decide +kernel)
theorem m_428 : Cond.code yX2_isLawful cX2_isLawful 1 (some .boolean) ∈ WT := wt_in (List.mem_of_getElem? (i := 428) (by decide +kernel)) (by decide +kernel)
theorem m_429 : Cond.methodLink "OneBeatsBoth$League" 77 yX2_eachHasMaster ∈ WT := wt_in (List.mem_of_getElem? (i := 429) (by decide +kernel)) (by decide +kernel)
theorem m_431 : Cond.instanceMethod yX2_eachHasMaster ∈ WT := wt_in (List.mem_of_getElem? (i := 431) (by decide +kernel)) (by decide +kernel)
theorem m_432 : Cond.code yX2_eachHasMaster cX2_eachHasMaster 3 (some .boolean) ∈ WT := wt_in (List.mem_of_getElem? (i := 432) (by decide +kernel)) (by decide +kernel)
theorem m_433 : Cond.methodLink "OneBeatsBoth$League" 84 yX2_counting ∈ WT := wt_in (List.mem_of_getElem? (i := 433) (by decide +kernel)) (by decide +kernel)
theorem m_434 : Cond.methodLink "OneBeatsBoth$League" 87 yX2_mastersAmong ∈ WT := wt_in (List.mem_of_getElem? (i := 434) (by decide +kernel)) (by decide +kernel)
theorem m_435 : Cond.instanceMethod yX2_mastersAmong ∈ WT := wt_in (List.mem_of_getElem? (i := 435) (by decide +kernel)) (by decide +kernel)
theorem m_436 : Cond.selects "OneBeatsBoth$League" yX2_mastersAmong yX2_mastersAmong ∈ WT := wt_in (List.mem_of_getElem? (i := 436) (by decide +kernel)) (by decide +kernel)
theorem m_437 : Cond.code yX2_mastersAmong cX2_mastersAmong 4 (some .int) ∈ WT := wt_in (List.mem_of_getElem? (i := 437) (by decide +kernel)) (by decide +kernel)
theorem m_438 : Cond.methodLink "OneBeatsBoth$League" 81 yX2_firstOrphanPair ∈ WT := wt_in (List.mem_of_getElem? (i := 438) (by decide +kernel)) (by decide +kernel)
theorem m_439 : Cond.instanceMethod yX2_firstOrphanPair ∈ WT := wt_in (List.mem_of_getElem? (i := 439) (by decide +kernel)) (by decide +kernel)
theorem m_440 : Cond.selects "OneBeatsBoth$League" yX2_firstOrphanPair yX2_firstOrphanPair ∈ WT := wt_in (List.mem_of_getElem? (i := 440) (by decide +kernel)) (by decide +kernel)
theorem m_441 : Cond.code yX2_firstOrphanPair cX2_firstOrphanPair 4 (some .int) ∈ WT := wt_in (List.mem_of_getElem? (i := 441) (by decide +kernel)) (by decide +kernel)
theorem m_446 : Cond.methodLink "OneBeatsBoth" 137 yX2_mastersAmong ∈ WT := wt_in (List.mem_of_getElem? (i := 446) (by decide +kernel)) (by decide +kernel)
theorem m_451 : Cond.methodLink "OneBeatsBoth" 141 yX2_orphanPairs ∈ WT := wt_in (List.mem_of_getElem? (i := 451) (by decide +kernel)) (by decide +kernel)
theorem m_452 : Cond.instanceMethod yX2_orphanPairs ∈ WT := wt_in (List.mem_of_getElem? (i := 452) (by decide +kernel)) (by decide +kernel)
theorem m_453 : Cond.selects "OneBeatsBoth$League" yX2_orphanPairs yX2_orphanPairs ∈ WT := wt_in (List.mem_of_getElem? (i := 453) (by decide +kernel)) (by decide +kernel)
theorem m_454 : Cond.code yX2_orphanPairs cX2_orphanPairs 5 (some .int) ∈ WT := wt_in (List.mem_of_getElem? (i := 454) (by decide +kernel)) (by decide +kernel)
theorem m_455 : Cond.methodLink "OneBeatsBoth" 144 yX2_firstOrphanPair ∈ WT := wt_in (List.mem_of_getElem? (i := 455) (by decide +kernel)) (by decide +kernel)
theorem m_460 : Cond.methodLink "OneBeatsBoth" 147 yX2_matches ∈ WT := wt_in (List.mem_of_getElem? (i := 460) (by decide +kernel)) (by decide +kernel)
theorem m_461 : Cond.instanceMethod yX2_matches ∈ WT := wt_in (List.mem_of_getElem? (i := 461) (by decide +kernel)) (by decide +kernel)
theorem m_462 : Cond.selects "OneBeatsBoth$League" yX2_matches yX2_matches ∈ WT := wt_in (List.mem_of_getElem? (i := 462) (by decide +kernel)) (by decide +kernel)
theorem m_463 : Cond.code yX2_matches cX2_matches 1 (some .int) ∈ WT := wt_in (List.mem_of_getElem? (i := 463) (by decide +kernel)) (by decide +kernel)
theorem m_464 : Cond.methodLink "OneBeatsBoth" 150 yX10_lawfulTurns ∈ WT := wt_in (List.mem_of_getElem? (i := 464) (by decide +kernel)) (by decide +kernel)
theorem m_466 : Cond.instanceMethod yX10_lawfulTurns ∈ WT := wt_in (List.mem_of_getElem? (i := 466) (by decide +kernel)) (by decide +kernel)
theorem m_467 : Cond.code yX10_lawfulTurns cX10_lawfulTurns 3 (some .int) ∈ WT := wt_in (List.mem_of_getElem? (i := 467) (by decide +kernel)) (by decide +kernel)
theorem m_468 : Cond.methodLink "OneBeatsBoth" 288 yX2_turn ∈ WT := wt_in (List.mem_of_getElem? (i := 468) (by decide +kernel)) (by decide +kernel)
theorem m_469 : Cond.instanceMethod yX2_turn ∈ WT := wt_in (List.mem_of_getElem? (i := 469) (by decide +kernel)) (by decide +kernel)
theorem m_470 : Cond.selects "OneBeatsBoth$League" yX2_turn yX2_turn ∈ WT := wt_in (List.mem_of_getElem? (i := 470) (by decide +kernel)) (by decide +kernel)
theorem m_471 : Cond.code yX2_turn cX2_turn 2 none ∈ WT := wt_in (List.mem_of_getElem? (i := 471) (by decide +kernel)) (by decide +kernel)
theorem m_484 : Cond.methodLink "OneBeatsBoth" 153 yX2_isRing ∈ WT := wt_in (List.mem_of_getElem? (i := 484) (by decide +kernel)) (by decide +kernel)
theorem m_485 : Cond.instanceMethod yX2_isRing ∈ WT := wt_in (List.mem_of_getElem? (i := 485) (by decide +kernel)) (by decide +kernel)
theorem m_486 : Cond.selects "OneBeatsBoth$League" yX2_isRing yX2_isRing ∈ WT := wt_in (List.mem_of_getElem? (i := 486) (by decide +kernel)) (by decide +kernel)
theorem m_487 : Cond.code yX2_isRing cX2_isRing 5 (some .boolean) ∈ WT := wt_in (List.mem_of_getElem? (i := 487) (by decide +kernel)) (by decide +kernel)
theorem m_488 : Cond.methodLink "OneBeatsBoth$League" 44 yX2_hasBeaten ∈ WT := wt_in (List.mem_of_getElem? (i := 488) (by decide +kernel)) (by decide +kernel)
theorem m_493 : Cond.methodLink "OneBeatsBoth" 156 yJ6_bitCount_0f7a4 ∈ WT := wt_in (List.mem_of_getElem? (i := 493) (by decide +kernel)) (by decide +kernel)
theorem m_505 : Cond.methodLink "OneBeatsBoth$League" 48 yX6_cost ∈ WT := wt_in (List.mem_of_getElem? (i := 505) (by decide +kernel)) (by decide +kernel)
theorem m_514 : Cond.methodLink "OneBeatsBoth" 172 yX2_newcomerBeats ∈ WT := wt_in (List.mem_of_getElem? (i := 514) (by decide +kernel)) (by decide +kernel)
theorem m_515 : Cond.instanceMethod yX2_newcomerBeats ∈ WT := wt_in (List.mem_of_getElem? (i := 515) (by decide +kernel)) (by decide +kernel)
theorem m_516 : Cond.selects "OneBeatsBoth$League" yX2_newcomerBeats yX2_newcomerBeats ∈ WT := wt_in (List.mem_of_getElem? (i := 516) (by decide +kernel)) (by decide +kernel)
theorem m_517 : Cond.code yX2_newcomerBeats cX2_newcomerBeats 4 none ∈ WT := wt_in (List.mem_of_getElem? (i := 517) (by decide +kernel)) (by decide +kernel)
theorem m_518 : Cond.methodLink "OneBeatsBoth$League" 63 yX2_win ∈ WT := wt_in (List.mem_of_getElem? (i := 518) (by decide +kernel)) (by decide +kernel)
theorem m_527 : Cond.constantLong "OneBeatsBoth" 178 (-1000000001) ∈ WT := wt_in (List.mem_of_getElem? (i := 527) (by decide +kernel)) (by decide +kernel)
theorem m_528 : Cond.constantLong "OneBeatsBoth" 180 (-1000000003) ∈ WT := wt_in (List.mem_of_getElem? (i := 528) (by decide +kernel)) (by decide +kernel)
theorem m_529 : Cond.methodLink "OneBeatsBoth" 182 yX2_play ∈ WT := wt_in (List.mem_of_getElem? (i := 529) (by decide +kernel)) (by decide +kernel)
theorem m_530 : Cond.instanceMethod yX2_play ∈ WT := wt_in (List.mem_of_getElem? (i := 530) (by decide +kernel)) (by decide +kernel)
theorem m_531 : Cond.selects "OneBeatsBoth$League" yX2_play yX2_play ∈ WT := wt_in (List.mem_of_getElem? (i := 531) (by decide +kernel)) (by decide +kernel)
theorem m_532 : Cond.code yX2_play cX2_play 3 none ∈ WT := wt_in (List.mem_of_getElem? (i := 532) (by decide +kernel)) (by decide +kernel)
theorem m_533 : Cond.methodLink "OneBeatsBoth$League" 52 yX2_matches ∈ WT := wt_in (List.mem_of_getElem? (i := 533) (by decide +kernel)) (by decide +kernel)
theorem m_534 : Cond.methodLink "OneBeatsBoth" 185 yX2_weight ∈ WT := wt_in (List.mem_of_getElem? (i := 534) (by decide +kernel)) (by decide +kernel)
theorem m_535 : Cond.instanceMethod yX2_weight ∈ WT := wt_in (List.mem_of_getElem? (i := 535) (by decide +kernel)) (by decide +kernel)
theorem m_536 : Cond.selects "OneBeatsBoth$League" yX2_weight yX2_weight ∈ WT := wt_in (List.mem_of_getElem? (i := 536) (by decide +kernel)) (by decide +kernel)
theorem m_537 : Cond.code yX2_weight cX2_weight 6 (some .long) ∈ WT := wt_in (List.mem_of_getElem? (i := 537) (by decide +kernel)) (by decide +kernel)
theorem m_538 : Cond.methodLink "OneBeatsBoth$League" 56 yX6_skill ∈ WT := wt_in (List.mem_of_getElem? (i := 538) (by decide +kernel)) (by decide +kernel)
theorem m_539 : Cond.methodLink "OneBeatsBoth" 189 yX10_commonDivisor ∈ WT := wt_in (List.mem_of_getElem? (i := 539) (by decide +kernel)) (by decide +kernel)
theorem m_540 : Cond.static yX10_commonDivisor ∈ WT := wt_in (List.mem_of_getElem? (i := 540) (by decide +kernel)) (by decide +kernel)
theorem m_541 : Cond.code yX10_commonDivisor cX10_commonDivisor 11 (some .long) ∈ WT := wt_in (List.mem_of_getElem? (i := 541) (by decide +kernel)) (by decide +kernel)
theorem m_546 : Cond.methodLink "OneBeatsBoth" 193 yX10_clearTold ∈ WT := wt_in (List.mem_of_getElem? (i := 546) (by decide +kernel)) (by decide +kernel)
theorem m_548 : Cond.instanceMethod yX10_clearTold ∈ WT := wt_in (List.mem_of_getElem? (i := 548) (by decide +kernel)) (by decide +kernel)
theorem m_549 : Cond.code yX10_clearTold cX10_clearTold 2 none ∈ WT := wt_in (List.mem_of_getElem? (i := 549) (by decide +kernel)) (by decide +kernel)
theorem m_550 : Cond.methodLink "OneBeatsBoth" 196 yX10_lawfulWaysAsTold ∈ WT := wt_in (List.mem_of_getElem? (i := 550) (by decide +kernel)) (by decide +kernel)
theorem m_552 : Cond.instanceMethod yX10_lawfulWaysAsTold ∈ WT := wt_in (List.mem_of_getElem? (i := 552) (by decide +kernel)) (by decide +kernel)
theorem m_553 : Cond.code yX10_lawfulWaysAsTold cX10_lawfulWaysAsTold 3 (some .int) ∈ WT := wt_in (List.mem_of_getElem? (i := 553) (by decide +kernel)) (by decide +kernel)
theorem m_554 : Cond.methodLink "OneBeatsBoth" 294 yX2_isAsTold ∈ WT := wt_in (List.mem_of_getElem? (i := 554) (by decide +kernel)) (by decide +kernel)
theorem m_555 : Cond.instanceMethod yX2_isAsTold ∈ WT := wt_in (List.mem_of_getElem? (i := 555) (by decide +kernel)) (by decide +kernel)
theorem m_556 : Cond.selects "OneBeatsBoth$League" yX2_isAsTold yX2_isAsTold ∈ WT := wt_in (List.mem_of_getElem? (i := 556) (by decide +kernel)) (by decide +kernel)
theorem m_557 : Cond.code yX2_isAsTold cX2_isAsTold 3 (some .boolean) ∈ WT := wt_in (List.mem_of_getElem? (i := 557) (by decide +kernel)) (by decide +kernel)
theorem m_562 : Cond.methodLink "OneBeatsBoth" 199 yX10_isRing ∈ WT := wt_in (List.mem_of_getElem? (i := 562) (by decide +kernel)) (by decide +kernel)
theorem m_563 : Cond.static yX10_isRing ∈ WT := wt_in (List.mem_of_getElem? (i := 563) (by decide +kernel)) (by decide +kernel)
theorem m_564 : Cond.code yX10_isRing cX10_isRing 1 (some .boolean) ∈ WT := wt_in (List.mem_of_getElem? (i := 564) (by decide +kernel)) (by decide +kernel)
theorem m_565 : Cond.methodLink "OneBeatsBoth" 201 yX10_isHalfOfDifferences ∈ WT := wt_in (List.mem_of_getElem? (i := 565) (by decide +kernel)) (by decide +kernel)
theorem m_566 : Cond.static yX10_isHalfOfDifferences ∈ WT := wt_in (List.mem_of_getElem? (i := 566) (by decide +kernel)) (by decide +kernel)
theorem m_567 : Cond.code yX10_isHalfOfDifferences cX10_isHalfOfDifferences 3 (some .boolean) ∈ WT := wt_in (List.mem_of_getElem? (i := 567) (by decide +kernel)) (by decide +kernel)
theorem m_568 : Cond.methodLink "OneBeatsBoth" 204 yX10_isLawfulRing ∈ WT := wt_in (List.mem_of_getElem? (i := 568) (by decide +kernel)) (by decide +kernel)
theorem m_569 : Cond.static yX10_isLawfulRing ∈ WT := wt_in (List.mem_of_getElem? (i := 569) (by decide +kernel)) (by decide +kernel)
theorem m_570 : Cond.code yX10_isLawfulRing cX10_isLawfulRing 7 (some .boolean) ∈ WT := wt_in (List.mem_of_getElem? (i := 570) (by decide +kernel)) (by decide +kernel)
theorem m_575 : Cond.methodLink "OneBeatsBoth" 207 yX10_setWithUpperHalf ∈ WT := wt_in (List.mem_of_getElem? (i := 575) (by decide +kernel)) (by decide +kernel)
theorem m_576 : Cond.static yX10_setWithUpperHalf ∈ WT := wt_in (List.mem_of_getElem? (i := 576) (by decide +kernel)) (by decide +kernel)
theorem m_577 : Cond.code yX10_setWithUpperHalf cX10_setWithUpperHalf 5 (some .int) ∈ WT := wt_in (List.mem_of_getElem? (i := 577) (by decide +kernel)) (by decide +kernel)
theorem m_586 : Cond.methodLink "OneBeatsBoth" 214 yX2_playSeason ∈ WT := wt_in (List.mem_of_getElem? (i := 586) (by decide +kernel)) (by decide +kernel)
theorem m_587 : Cond.instanceMethod yX2_playSeason ∈ WT := wt_in (List.mem_of_getElem? (i := 587) (by decide +kernel)) (by decide +kernel)
theorem m_588 : Cond.selects "OneBeatsBoth$League" yX2_playSeason yX2_playSeason ∈ WT := wt_in (List.mem_of_getElem? (i := 588) (by decide +kernel)) (by decide +kernel)
theorem m_589 : Cond.code yX2_playSeason cX2_playSeason 6 (some .int) ∈ WT := wt_in (List.mem_of_getElem? (i := 589) (by decide +kernel)) (by decide +kernel)
theorem m_590 : Cond.constant "OneBeatsBoth$League" 55 1103515245 ∈ WT := wt_in (List.mem_of_getElem? (i := 590) (by decide +kernel)) (by decide +kernel)
theorem m_591 : Cond.methodLink "OneBeatsBoth$League" 59 yX2_drawBelow ∈ WT := wt_in (List.mem_of_getElem? (i := 591) (by decide +kernel)) (by decide +kernel)
theorem m_592 : Cond.static yX2_drawBelow ∈ WT := wt_in (List.mem_of_getElem? (i := 592) (by decide +kernel)) (by decide +kernel)
theorem m_593 : Cond.code yX2_drawBelow cX2_drawBelow 2 (some .int) ∈ WT := wt_in (List.mem_of_getElem? (i := 593) (by decide +kernel)) (by decide +kernel)
theorem m_594 : Cond.constant "OneBeatsBoth$League" 67 2147483647 ∈ WT := wt_in (List.mem_of_getElem? (i := 594) (by decide +kernel)) (by decide +kernel)
theorem m_599 : Cond.methodLink "OneBeatsBoth" 220 yX2_wrongOfThree ∈ WT := wt_in (List.mem_of_getElem? (i := 599) (by decide +kernel)) (by decide +kernel)
theorem m_600 : Cond.instanceMethod yX2_wrongOfThree ∈ WT := wt_in (List.mem_of_getElem? (i := 600) (by decide +kernel)) (by decide +kernel)
theorem m_601 : Cond.selects "OneBeatsBoth$League" yX2_wrongOfThree yX2_wrongOfThree ∈ WT := wt_in (List.mem_of_getElem? (i := 601) (by decide +kernel)) (by decide +kernel)
theorem m_602 : Cond.code yX2_wrongOfThree cX2_wrongOfThree 4 (some .int) ∈ WT := wt_in (List.mem_of_getElem? (i := 602) (by decide +kernel)) (by decide +kernel)
theorem m_603 : Cond.methodLink "OneBeatsBoth$League" 91 yX2_hasBoth ∈ WT := wt_in (List.mem_of_getElem? (i := 603) (by decide +kernel)) (by decide +kernel)
theorem m_616 : Cond.methodLink "OneBeatsBoth" 223 yX2_allCosts ∈ WT := wt_in (List.mem_of_getElem? (i := 616) (by decide +kernel)) (by decide +kernel)
theorem m_617 : Cond.instanceMethod yX2_allCosts ∈ WT := wt_in (List.mem_of_getElem? (i := 617) (by decide +kernel)) (by decide +kernel)
theorem m_618 : Cond.selects "OneBeatsBoth$League" yX2_allCosts yX2_allCosts ∈ WT := wt_in (List.mem_of_getElem? (i := 618) (by decide +kernel)) (by decide +kernel)
theorem m_619 : Cond.code yX2_allCosts cX2_allCosts 3 (some .int) ∈ WT := wt_in (List.mem_of_getElem? (i := 619) (by decide +kernel)) (by decide +kernel)
theorem m_632 : Cond.methodLink "OneBeatsBoth$Row" 1 objectInit ∈ WT := wt_in (List.mem_of_getElem? (i := 632) (by decide +kernel)) (by decide +kernel)
theorem m_633 : Cond.fieldLink "OneBeatsBoth$Row" 7 "OneBeatsBoth$Row" "sort" "I" ∈ WT := wt_in (List.mem_of_getElem? (i := 633) (by decide +kernel)) (by decide +kernel)
theorem m_634 : Cond.fieldLink "OneBeatsBoth" 250 "OneBeatsBoth$Row" "sort" "I" ∈ WT := wt_in (List.mem_of_getElem? (i := 634) (by decide +kernel)) (by decide +kernel)
theorem m_635 : Cond.fieldLink "OneBeatsBoth$Row" 13 "OneBeatsBoth$Row" "cells" "[I" ∈ WT := wt_in (List.mem_of_getElem? (i := 635) (by decide +kernel)) (by decide +kernel)
theorem m_636 : Cond.fieldLink "OneBeatsBoth" 253 "OneBeatsBoth$Row" "cells" "[I" ∈ WT := wt_in (List.mem_of_getElem? (i := 636) (by decide +kernel)) (by decide +kernel)
theorem m_646 : Cond.methodLink "OneBeatsBoth" 229 yX8_hasPlaces ∈ WT := wt_in (List.mem_of_getElem? (i := 646) (by decide +kernel)) (by decide +kernel)
theorem m_647 : Cond.methodLink "OneBeatsBoth" 232 yX8_change ∈ WT := wt_in (List.mem_of_getElem? (i := 647) (by decide +kernel)) (by decide +kernel)
theorem m_648 : Cond.instanceMethod yX8_change ∈ WT := wt_in (List.mem_of_getElem? (i := 648) (by decide +kernel)) (by decide +kernel)
theorem m_649 : Cond.selects "OneBeatsBoth$Row" yX8_change yX8_change ∈ WT := wt_in (List.mem_of_getElem? (i := 649) (by decide +kernel)) (by decide +kernel)
theorem m_650 : Cond.code yX8_change cX8_change 3 none ∈ WT := wt_in (List.mem_of_getElem? (i := 650) (by decide +kernel)) (by decide +kernel)
theorem m_655 : Cond.methodLink "OneBeatsBoth" 256 arraycopyName ∈ WT := wt_in (List.mem_of_getElem? (i := 655) (by decide +kernel)) (by decide +kernel)
theorem m_803 : Cond.methodLink "OneBeatsBothModel" 1 objectInit ∈ WT := wt_in (List.mem_of_getElem? (i := 803) (by decide +kernel)) (by decide +kernel)
theorem m_804 : Cond.fieldLink "OneBeatsBothModel" 9 "OneBeatsBothModel" "s" "[I" ∈ WT := wt_in (List.mem_of_getElem? (i := 804) (by decide +kernel)) (by decide +kernel)
theorem m_805 : Cond.fieldLink "OneBeatsBothModel" 13 "OneBeatsBothModel" "image" "[I" ∈ WT := wt_in (List.mem_of_getElem? (i := 805) (by decide +kernel)) (by decide +kernel)
theorem m_806 : Cond.fieldLink "OneBeatsBothModel" 16 "OneBeatsBothModel" "read" "[I" ∈ WT := wt_in (List.mem_of_getElem? (i := 806) (by decide +kernel)) (by decide +kernel)
theorem m_807 : Cond.fieldLink "OneBeatsBothModel" 19 "OneBeatsBothModel" "mind" "[I" ∈ WT := wt_in (List.mem_of_getElem? (i := 807) (by decide +kernel)) (by decide +kernel)
theorem m_808 : Cond.fieldLink "OneBeatsBothModel" 22 "OneBeatsBothModel" "kept" "[I" ∈ WT := wt_in (List.mem_of_getElem? (i := 808) (by decide +kernel)) (by decide +kernel)
theorem m_809 : Cond.fieldLink "OneBeatsBothModel" 25 "OneBeatsBothModel" "sort" "[I" ∈ WT := wt_in (List.mem_of_getElem? (i := 809) (by decide +kernel)) (by decide +kernel)
theorem m_810 : Cond.fieldLink "OneBeatsBothModel" 28 "OneBeatsBothModel" "size" "[I" ∈ WT := wt_in (List.mem_of_getElem? (i := 810) (by decide +kernel)) (by decide +kernel)
theorem m_811 : Cond.fieldLink "OneBeatsBothModel" 31 "OneBeatsBothModel" "element" "[I" ∈ WT := wt_in (List.mem_of_getElem? (i := 811) (by decide +kernel)) (by decide +kernel)
theorem m_812 : Cond.fieldLink "OneBeatsBothModel" 34 "OneBeatsBothModel" "keptKind" "[I" ∈ WT := wt_in (List.mem_of_getElem? (i := 812) (by decide +kernel)) (by decide +kernel)
theorem m_813 : Cond.fieldLink "OneBeatsBothModel" 37 "OneBeatsBothModel" "keptFigure" "[I" ∈ WT := wt_in (List.mem_of_getElem? (i := 813) (by decide +kernel)) (by decide +kernel)
theorem m_814 : Cond.fieldLink "OneBeatsBothModel" 240 "OneBeatsBothModel" "hasImage" "Z" ∈ WT := wt_in (List.mem_of_getElem? (i := 814) (by decide +kernel)) (by decide +kernel)
theorem m_815 : Cond.fieldLink "OneBeatsBothModel" 43 "OneBeatsBothModel" "thrown" "I" ∈ WT := wt_in (List.mem_of_getElem? (i := 815) (by decide +kernel)) (by decide +kernel)
theorem m_816 : Cond.fieldLink "OneBeatsBothModel" 94 "OneBeatsBothModel" "pos" "I" ∈ WT := wt_in (List.mem_of_getElem? (i := 816) (by decide +kernel)) (by decide +kernel)
theorem m_817 : Cond.fieldLink "OneBeatsBothModel" 100 "OneBeatsBothModel" "base" "I" ∈ WT := wt_in (List.mem_of_getElem? (i := 817) (by decide +kernel)) (by decide +kernel)
theorem m_818 : Cond.fieldLink "OneBeatsBothModel" 97 "OneBeatsBothModel" "end" "I" ∈ WT := wt_in (List.mem_of_getElem? (i := 818) (by decide +kernel)) (by decide +kernel)
theorem m_819 : Cond.fieldLink "OneBeatsBothModel" 40 "OneBeatsBothModel" "numbers" "[I" ∈ WT := wt_in (List.mem_of_getElem? (i := 819) (by decide +kernel)) (by decide +kernel)
theorem m_822 : Cond.fieldLink "OneBeatsBothModel" 226 "OneBeatsBothModel" "seed" "I" ∈ WT := wt_in (List.mem_of_getElem? (i := 822) (by decide +kernel)) (by decide +kernel)
theorem m_870 : Cond.methodLink "OneBeatsBothModel" 134 yX11_wrongRow ∈ WT := wt_in (List.mem_of_getElem? (i := 870) (by decide +kernel)) (by decide +kernel)
theorem m_872 : Cond.instanceMethod yX11_wrongRow ∈ WT := wt_in (List.mem_of_getElem? (i := 872) (by decide +kernel)) (by decide +kernel)
theorem m_873 : Cond.code yX11_wrongRow cX11_wrongRow 3 (some .int) ∈ WT := wt_in (List.mem_of_getElem? (i := 873) (by decide +kernel)) (by decide +kernel)
theorem m_874 : Cond.methodLink "OneBeatsBothModel" 131 yX11_isShelf ∈ WT := wt_in (List.mem_of_getElem? (i := 874) (by decide +kernel)) (by decide +kernel)
theorem m_875 : Cond.static yX11_isShelf ∈ WT := wt_in (List.mem_of_getElem? (i := 875) (by decide +kernel)) (by decide +kernel)
theorem m_876 : Cond.code yX11_isShelf cX11_isShelf 1 (some .boolean) ∈ WT := wt_in (List.mem_of_getElem? (i := 876) (by decide +kernel)) (by decide +kernel)
theorem m_877 : Cond.constantLong "OneBeatsBothModel" 47 7 ∈ WT := wt_in (List.mem_of_getElem? (i := 877) (by decide +kernel)) (by decide +kernel)
theorem m_878 : Cond.methodLink "OneBeatsBothModel" 49 yX11_isIn ∈ WT := wt_in (List.mem_of_getElem? (i := 878) (by decide +kernel)) (by decide +kernel)
theorem m_879 : Cond.static yX11_isIn ∈ WT := wt_in (List.mem_of_getElem? (i := 879) (by decide +kernel)) (by decide +kernel)
theorem m_880 : Cond.code yX11_isIn cX11_isIn 6 (some .boolean) ∈ WT := wt_in (List.mem_of_getElem? (i := 880) (by decide +kernel)) (by decide +kernel)
theorem m_881 : Cond.methodLink "OneBeatsBothModel" 137 yX11_readsStatement ∈ WT := wt_in (List.mem_of_getElem? (i := 881) (by decide +kernel)) (by decide +kernel)
theorem m_883 : Cond.instanceMethod yX11_readsStatement ∈ WT := wt_in (List.mem_of_getElem? (i := 883) (by decide +kernel)) (by decide +kernel)
theorem m_884 : Cond.code yX11_readsStatement cX11_readsStatement 3 (some .boolean) ∈ WT := wt_in (List.mem_of_getElem? (i := 884) (by decide +kernel)) (by decide +kernel)
theorem m_885 : Cond.methodLink "OneBeatsBothModel" 103 yX11_here ∈ WT := wt_in (List.mem_of_getElem? (i := 885) (by decide +kernel)) (by decide +kernel)
theorem m_887 : Cond.instanceMethod yX11_here ∈ WT := wt_in (List.mem_of_getElem? (i := 887) (by decide +kernel)) (by decide +kernel)
theorem m_888 : Cond.code yX11_here cX11_here 1 (some .int) ∈ WT := wt_in (List.mem_of_getElem? (i := 888) (by decide +kernel)) (by decide +kernel)
theorem m_889 : Cond.methodLink "OneBeatsBothModel" 111 yX11_readsDigits ∈ WT := wt_in (List.mem_of_getElem? (i := 889) (by decide +kernel)) (by decide +kernel)
theorem m_891 : Cond.instanceMethod yX11_readsDigits ∈ WT := wt_in (List.mem_of_getElem? (i := 891) (by decide +kernel)) (by decide +kernel)
theorem m_892 : Cond.code yX11_readsDigits cX11_readsDigits 3 (some .boolean) ∈ WT := wt_in (List.mem_of_getElem? (i := 892) (by decide +kernel)) (by decide +kernel)
theorem m_893 : Cond.constantLong "OneBeatsBothModel" 107 48 ∈ WT := wt_in (List.mem_of_getElem? (i := 893) (by decide +kernel)) (by decide +kernel)
theorem m_894 : Cond.constantLong "OneBeatsBothModel" 109 57 ∈ WT := wt_in (List.mem_of_getElem? (i := 894) (by decide +kernel)) (by decide +kernel)
theorem m_895 : Cond.methodLink "OneBeatsBothModel" 59 yX11_lays ∈ WT := wt_in (List.mem_of_getElem? (i := 895) (by decide +kernel)) (by decide +kernel)
theorem m_896 : Cond.static yX11_lays ∈ WT := wt_in (List.mem_of_getElem? (i := 896) (by decide +kernel)) (by decide +kernel)
theorem m_897 : Cond.code yX11_lays cX11_lays 3 none ∈ WT := wt_in (List.mem_of_getElem? (i := 897) (by decide +kernel)) (by decide +kernel)
theorem m_898 : Cond.methodLink "OneBeatsBothModel" 141 yX11_comesTold ∈ WT := wt_in (List.mem_of_getElem? (i := 898) (by decide +kernel)) (by decide +kernel)
theorem m_900 : Cond.instanceMethod yX11_comesTold ∈ WT := wt_in (List.mem_of_getElem? (i := 900) (by decide +kernel)) (by decide +kernel)
theorem m_901 : Cond.code yX11_comesTold cX11_comesTold 3 (some .boolean) ∈ WT := wt_in (List.mem_of_getElem? (i := 901) (by decide +kernel)) (by decide +kernel)
theorem m_902 : Cond.methodLink "OneBeatsBothModel" 117 yX11_adds ∈ WT := wt_in (List.mem_of_getElem? (i := 902) (by decide +kernel)) (by decide +kernel)
theorem m_904 : Cond.instanceMethod yX11_adds ∈ WT := wt_in (List.mem_of_getElem? (i := 904) (by decide +kernel)) (by decide +kernel)
theorem m_905 : Cond.code yX11_adds cX11_adds 3 (some .boolean) ∈ WT := wt_in (List.mem_of_getElem? (i := 905) (by decide +kernel)) (by decide +kernel)
theorem m_906 : Cond.methodLink "OneBeatsBothModel" 114 yX11_joins ∈ WT := wt_in (List.mem_of_getElem? (i := 906) (by decide +kernel)) (by decide +kernel)
theorem m_908 : Cond.instanceMethod yX11_joins ∈ WT := wt_in (List.mem_of_getElem? (i := 908) (by decide +kernel)) (by decide +kernel)
theorem m_909 : Cond.code yX11_joins cX11_joins 5 none ∈ WT := wt_in (List.mem_of_getElem? (i := 909) (by decide +kernel)) (by decide +kernel)
theorem m_910 : Cond.methodLink "OneBeatsBothModel" 80 yX11_puts ∈ WT := wt_in (List.mem_of_getElem? (i := 910) (by decide +kernel)) (by decide +kernel)
theorem m_912 : Cond.instanceMethod yX11_puts ∈ WT := wt_in (List.mem_of_getElem? (i := 912) (by decide +kernel)) (by decide +kernel)
theorem m_913 : Cond.code yX11_puts cX11_puts 4 none ∈ WT := wt_in (List.mem_of_getElem? (i := 913) (by decide +kernel)) (by decide +kernel)
theorem m_914 : Cond.methodLink "OneBeatsBothModel" 63 yX11_beaten ∈ WT := wt_in (List.mem_of_getElem? (i := 914) (by decide +kernel)) (by decide +kernel)
theorem m_916 : Cond.instanceMethod yX11_beaten ∈ WT := wt_in (List.mem_of_getElem? (i := 916) (by decide +kernel)) (by decide +kernel)
theorem m_917 : Cond.code yX11_beaten cX11_beaten 2 (some .int) ∈ WT := wt_in (List.mem_of_getElem? (i := 917) (by decide +kernel)) (by decide +kernel)
theorem m_918 : Cond.methodLink "OneBeatsBothModel" 121 yX11_areTwo ∈ WT := wt_in (List.mem_of_getElem? (i := 918) (by decide +kernel)) (by decide +kernel)
theorem m_920 : Cond.instanceMethod yX11_areTwo ∈ WT := wt_in (List.mem_of_getElem? (i := 920) (by decide +kernel)) (by decide +kernel)
theorem m_921 : Cond.code yX11_areTwo cX11_areTwo 3 (some .boolean) ∈ WT := wt_in (List.mem_of_getElem? (i := 921) (by decide +kernel)) (by decide +kernel)
theorem m_922 : Cond.methodLink "OneBeatsBothModel" 55 yX11_isOne ∈ WT := wt_in (List.mem_of_getElem? (i := 922) (by decide +kernel)) (by decide +kernel)
theorem m_924 : Cond.instanceMethod yX11_isOne ∈ WT := wt_in (List.mem_of_getElem? (i := 924) (by decide +kernel)) (by decide +kernel)
theorem m_925 : Cond.code yX11_isOne cX11_isOne 2 (some .boolean) ∈ WT := wt_in (List.mem_of_getElem? (i := 925) (by decide +kernel)) (by decide +kernel)
theorem m_926 : Cond.methodLink "OneBeatsBothModel" 84 yX11_beats ∈ WT := wt_in (List.mem_of_getElem? (i := 926) (by decide +kernel)) (by decide +kernel)
theorem m_928 : Cond.instanceMethod yX11_beats ∈ WT := wt_in (List.mem_of_getElem? (i := 928) (by decide +kernel)) (by decide +kernel)
theorem m_929 : Cond.code yX11_beats cX11_beats 3 none ∈ WT := wt_in (List.mem_of_getElem? (i := 929) (by decide +kernel)) (by decide +kernel)
theorem m_930 : Cond.methodLink "OneBeatsBothModel" 124 yX11_isLaw ∈ WT := wt_in (List.mem_of_getElem? (i := 930) (by decide +kernel)) (by decide +kernel)
theorem m_931 : Cond.static yX11_isLaw ∈ WT := wt_in (List.mem_of_getElem? (i := 931) (by decide +kernel)) (by decide +kernel)
theorem m_932 : Cond.code yX11_isLaw cX11_isLaw 1 (some .boolean) ∈ WT := wt_in (List.mem_of_getElem? (i := 932) (by decide +kernel)) (by decide +kernel)
theorem m_933 : Cond.constantLong "OneBeatsBothModel" 53 2 ∈ WT := wt_in (List.mem_of_getElem? (i := 933) (by decide +kernel)) (by decide +kernel)
theorem m_934 : Cond.methodLink "OneBeatsBothModel" 127 yX11_leaves ∈ WT := wt_in (List.mem_of_getElem? (i := 934) (by decide +kernel)) (by decide +kernel)
theorem m_936 : Cond.instanceMethod yX11_leaves ∈ WT := wt_in (List.mem_of_getElem? (i := 936) (by decide +kernel)) (by decide +kernel)
theorem m_937 : Cond.code yX11_leaves cX11_leaves 4 none ∈ WT := wt_in (List.mem_of_getElem? (i := 937) (by decide +kernel)) (by decide +kernel)
theorem m_942 : Cond.methodLink "OneBeatsBothModel" 73 yX11_kind ∈ WT := wt_in (List.mem_of_getElem? (i := 942) (by decide +kernel)) (by decide +kernel)
theorem m_944 : Cond.instanceMethod yX11_kind ∈ WT := wt_in (List.mem_of_getElem? (i := 944) (by decide +kernel)) (by decide +kernel)
theorem m_945 : Cond.code yX11_kind cX11_kind 2 (some .int) ∈ WT := wt_in (List.mem_of_getElem? (i := 945) (by decide +kernel)) (by decide +kernel)
theorem m_946 : Cond.methodLink "OneBeatsBothModel" 70 yX11_figure ∈ WT := wt_in (List.mem_of_getElem? (i := 946) (by decide +kernel)) (by decide +kernel)
theorem m_948 : Cond.instanceMethod yX11_figure ∈ WT := wt_in (List.mem_of_getElem? (i := 948) (by decide +kernel)) (by decide +kernel)
theorem m_949 : Cond.code yX11_figure cX11_figure 2 (some .int) ∈ WT := wt_in (List.mem_of_getElem? (i := 949) (by decide +kernel)) (by decide +kernel)
theorem m_950 : Cond.methodLink "OneBeatsBothModel" 144 yX11_skill ∈ WT := wt_in (List.mem_of_getElem? (i := 950) (by decide +kernel)) (by decide +kernel)
theorem m_952 : Cond.instanceMethod yX11_skill ∈ WT := wt_in (List.mem_of_getElem? (i := 952) (by decide +kernel)) (by decide +kernel)
theorem m_953 : Cond.code yX11_skill cX11_skill 2 (some .int) ∈ WT := wt_in (List.mem_of_getElem? (i := 953) (by decide +kernel)) (by decide +kernel)
theorem m_954 : Cond.methodLink "OneBeatsBothModel" 76 yX11_skillBy ∈ WT := wt_in (List.mem_of_getElem? (i := 954) (by decide +kernel)) (by decide +kernel)
theorem m_955 : Cond.static yX11_skillBy ∈ WT := wt_in (List.mem_of_getElem? (i := 955) (by decide +kernel)) (by decide +kernel)
theorem m_956 : Cond.code yX11_skillBy cX11_skillBy 2 (some .int) ∈ WT := wt_in (List.mem_of_getElem? (i := 956) (by decide +kernel)) (by decide +kernel)
theorem m_957 : Cond.methodLink "OneBeatsBothModel" 88 yX11_counts ∈ WT := wt_in (List.mem_of_getElem? (i := 957) (by decide +kernel)) (by decide +kernel)
theorem m_959 : Cond.instanceMethod yX11_counts ∈ WT := wt_in (List.mem_of_getElem? (i := 959) (by decide +kernel)) (by decide +kernel)
theorem m_960 : Cond.code yX11_counts cX11_counts 4 (some .boolean) ∈ WT := wt_in (List.mem_of_getElem? (i := 960) (by decide +kernel)) (by decide +kernel)
theorem m_961 : Cond.methodLink "OneBeatsBothModel" 67 yX11_bits ∈ WT := wt_in (List.mem_of_getElem? (i := 961) (by decide +kernel)) (by decide +kernel)
theorem m_962 : Cond.static yX11_bits ∈ WT := wt_in (List.mem_of_getElem? (i := 962) (by decide +kernel)) (by decide +kernel)
theorem m_963 : Cond.code yX11_bits cX11_bits 3 (some .int) ∈ WT := wt_in (List.mem_of_getElem? (i := 963) (by decide +kernel)) (by decide +kernel)
theorem m_964 : Cond.methodLink "OneBeatsBothModel" 147 yX11_priceBy ∈ WT := wt_in (List.mem_of_getElem? (i := 964) (by decide +kernel)) (by decide +kernel)
theorem m_965 : Cond.static yX11_priceBy ∈ WT := wt_in (List.mem_of_getElem? (i := 965) (by decide +kernel)) (by decide +kernel)
theorem m_966 : Cond.code yX11_priceBy cX11_priceBy 2 (some .int) ∈ WT := wt_in (List.mem_of_getElem? (i := 966) (by decide +kernel)) (by decide +kernel)
theorem m_971 : Cond.methodLink "OneBeatsBothModel" 150 yX11_wrongKept ∈ WT := wt_in (List.mem_of_getElem? (i := 971) (by decide +kernel)) (by decide +kernel)
theorem m_973 : Cond.instanceMethod yX11_wrongKept ∈ WT := wt_in (List.mem_of_getElem? (i := 973) (by decide +kernel)) (by decide +kernel)
theorem m_974 : Cond.code yX11_wrongKept cX11_wrongKept 2 (some .int) ∈ WT := wt_in (List.mem_of_getElem? (i := 974) (by decide +kernel)) (by decide +kernel)
theorem m_987 : Cond.methodLink "OneBeatsBothModel" 153 yX11_isLawful ∈ WT := wt_in (List.mem_of_getElem? (i := 987) (by decide +kernel)) (by decide +kernel)
theorem m_989 : Cond.instanceMethod yX11_isLawful ∈ WT := wt_in (List.mem_of_getElem? (i := 989) (by decide +kernel)) (by decide +kernel)
theorem m_990 : Cond.code yX11_isLawful cX11_isLawful 3 (some .boolean) ∈ WT := wt_in (List.mem_of_getElem? (i := 990) (by decide +kernel)) (by decide +kernel)
theorem m_991 : Cond.methodLink "OneBeatsBothModel" 91 yX11_mastersOf ∈ WT := wt_in (List.mem_of_getElem? (i := 991) (by decide +kernel)) (by decide +kernel)
theorem m_993 : Cond.instanceMethod yX11_mastersOf ∈ WT := wt_in (List.mem_of_getElem? (i := 993) (by decide +kernel)) (by decide +kernel)
theorem m_994 : Cond.code yX11_mastersOf cX11_mastersOf 4 (some .int) ∈ WT := wt_in (List.mem_of_getElem? (i := 994) (by decide +kernel)) (by decide +kernel)
theorem m_1007 : Cond.methodLink "OneBeatsBothModel" 159 yX11_turnedTo ∈ WT := wt_in (List.mem_of_getElem? (i := 1007) (by decide +kernel)) (by decide +kernel)
theorem m_1009 : Cond.instanceMethod yX11_turnedTo ∈ WT := wt_in (List.mem_of_getElem? (i := 1009) (by decide +kernel)) (by decide +kernel)
theorem m_1010 : Cond.code yX11_turnedTo cX11_turnedTo 5 (some .int) ∈ WT := wt_in (List.mem_of_getElem? (i := 1010) (by decide +kernel)) (by decide +kernel)
theorem m_1011 : Cond.methodLink "OneBeatsBothModel" 156 yX11_turns ∈ WT := wt_in (List.mem_of_getElem? (i := 1011) (by decide +kernel)) (by decide +kernel)
theorem m_1013 : Cond.instanceMethod yX11_turns ∈ WT := wt_in (List.mem_of_getElem? (i := 1013) (by decide +kernel)) (by decide +kernel)
theorem m_1014 : Cond.code yX11_turns cX11_turns 3 none ∈ WT := wt_in (List.mem_of_getElem? (i := 1014) (by decide +kernel)) (by decide +kernel)
theorem m_1047 : Cond.constantLong "OneBeatsBothModel" 175 9 ∈ WT := wt_in (List.mem_of_getElem? (i := 1047) (by decide +kernel)) (by decide +kernel)
theorem m_1048 : Cond.methodLink "OneBeatsBothModel" 177 yX11_begins ∈ WT := wt_in (List.mem_of_getElem? (i := 1048) (by decide +kernel)) (by decide +kernel)
theorem m_1050 : Cond.instanceMethod yX11_begins ∈ WT := wt_in (List.mem_of_getElem? (i := 1050) (by decide +kernel)) (by decide +kernel)
theorem m_1051 : Cond.code yX11_begins cX11_begins 1 none ∈ WT := wt_in (List.mem_of_getElem? (i := 1051) (by decide +kernel)) (by decide +kernel)
theorem m_1052 : Cond.methodLink "OneBeatsBothModel" 180 yX11_ends ∈ WT := wt_in (List.mem_of_getElem? (i := 1052) (by decide +kernel)) (by decide +kernel)
theorem m_1054 : Cond.instanceMethod yX11_ends ∈ WT := wt_in (List.mem_of_getElem? (i := 1054) (by decide +kernel)) (by decide +kernel)
theorem m_1055 : Cond.code yX11_ends cX11_ends 1 none ∈ WT := wt_in (List.mem_of_getElem? (i := 1055) (by decide +kernel)) (by decide +kernel)
theorem m_1066 : Cond.methodLink "OneBeatsBothModel" 191 yX11_matches ∈ WT := wt_in (List.mem_of_getElem? (i := 1066) (by decide +kernel)) (by decide +kernel)
theorem m_1068 : Cond.instanceMethod yX11_matches ∈ WT := wt_in (List.mem_of_getElem? (i := 1068) (by decide +kernel)) (by decide +kernel)
theorem m_1069 : Cond.code yX11_matches cX11_matches 1 (some .int) ∈ WT := wt_in (List.mem_of_getElem? (i := 1069) (by decide +kernel)) (by decide +kernel)
theorem m_1070 : Cond.methodLink "OneBeatsBothModel" 194 yX11_plays ∈ WT := wt_in (List.mem_of_getElem? (i := 1070) (by decide +kernel)) (by decide +kernel)
theorem m_1072 : Cond.instanceMethod yX11_plays ∈ WT := wt_in (List.mem_of_getElem? (i := 1072) (by decide +kernel)) (by decide +kernel)
theorem m_1073 : Cond.code yX11_plays cX11_plays 5 none ∈ WT := wt_in (List.mem_of_getElem? (i := 1073) (by decide +kernel)) (by decide +kernel)
theorem m_1085 : Cond.constantLong "OneBeatsBothModel" 201 5 ∈ WT := wt_in (List.mem_of_getElem? (i := 1085) (by decide +kernel)) (by decide +kernel)
theorem m_1090 : Cond.methodLink "OneBeatsBothModel" 211 yX11_isRound ∈ WT := wt_in (List.mem_of_getElem? (i := 1090) (by decide +kernel)) (by decide +kernel)
theorem m_1091 : Cond.static yX11_isRound ∈ WT := wt_in (List.mem_of_getElem? (i := 1091) (by decide +kernel)) (by decide +kernel)
theorem m_1092 : Cond.code yX11_isRound cX11_isRound 1 (some .boolean) ∈ WT := wt_in (List.mem_of_getElem? (i := 1092) (by decide +kernel)) (by decide +kernel)
theorem m_1093 : Cond.constantLong "OneBeatsBothModel" 203 3 ∈ WT := wt_in (List.mem_of_getElem? (i := 1093) (by decide +kernel)) (by decide +kernel)
theorem m_1094 : Cond.constantLong "OneBeatsBothModel" 205 19 ∈ WT := wt_in (List.mem_of_getElem? (i := 1094) (by decide +kernel)) (by decide +kernel)
theorem m_1095 : Cond.methodLink "OneBeatsBothModel" 214 yX11_isSet ∈ WT := wt_in (List.mem_of_getElem? (i := 1095) (by decide +kernel)) (by decide +kernel)
theorem m_1096 : Cond.static yX11_isSet ∈ WT := wt_in (List.mem_of_getElem? (i := 1096) (by decide +kernel)) (by decide +kernel)
theorem m_1097 : Cond.code yX11_isSet cX11_isSet 3 (some .boolean) ∈ WT := wt_in (List.mem_of_getElem? (i := 1097) (by decide +kernel)) (by decide +kernel)
theorem m_1098 : Cond.methodLink "OneBeatsBothModel" 217 yX11_isRoundWell ∈ WT := wt_in (List.mem_of_getElem? (i := 1098) (by decide +kernel)) (by decide +kernel)
theorem m_1099 : Cond.static yX11_isRoundWell ∈ WT := wt_in (List.mem_of_getElem? (i := 1099) (by decide +kernel)) (by decide +kernel)
theorem m_1100 : Cond.code yX11_isRoundWell cX11_isRoundWell 4 (some .boolean) ∈ WT := wt_in (List.mem_of_getElem? (i := 1100) (by decide +kernel)) (by decide +kernel)
theorem m_1101 : Cond.methodLink "OneBeatsBothModel" 207 yX11_areBeaten ∈ WT := wt_in (List.mem_of_getElem? (i := 1101) (by decide +kernel)) (by decide +kernel)
theorem m_1102 : Cond.static yX11_areBeaten ∈ WT := wt_in (List.mem_of_getElem? (i := 1102) (by decide +kernel)) (by decide +kernel)
theorem m_1103 : Cond.code yX11_areBeaten cX11_areBeaten 4 (some .boolean) ∈ WT := wt_in (List.mem_of_getElem? (i := 1103) (by decide +kernel)) (by decide +kernel)
theorem m_1112 : Cond.methodLink "OneBeatsBothModel" 220 yX11_told ∈ WT := wt_in (List.mem_of_getElem? (i := 1112) (by decide +kernel)) (by decide +kernel)
theorem m_1114 : Cond.instanceMethod yX11_told ∈ WT := wt_in (List.mem_of_getElem? (i := 1114) (by decide +kernel)) (by decide +kernel)
theorem m_1115 : Cond.code yX11_told cX11_told 3 (some .int) ∈ WT := wt_in (List.mem_of_getElem? (i := 1115) (by decide +kernel)) (by decide +kernel)
theorem m_1116 : Cond.methodLink "OneBeatsBothModel" 223 yX11_isAsPlayed ∈ WT := wt_in (List.mem_of_getElem? (i := 1116) (by decide +kernel)) (by decide +kernel)
theorem m_1118 : Cond.instanceMethod yX11_isAsPlayed ∈ WT := wt_in (List.mem_of_getElem? (i := 1118) (by decide +kernel)) (by decide +kernel)
theorem m_1119 : Cond.code yX11_isAsPlayed cX11_isAsPlayed 3 (some .boolean) ∈ WT := wt_in (List.mem_of_getElem? (i := 1119) (by decide +kernel)) (by decide +kernel)
theorem m_1124 : Cond.constantLong "OneBeatsBothModel" 232 30 ∈ WT := wt_in (List.mem_of_getElem? (i := 1124) (by decide +kernel)) (by decide +kernel)
theorem m_1125 : Cond.methodLink "OneBeatsBothModel" 234 yX11_drawn ∈ WT := wt_in (List.mem_of_getElem? (i := 1125) (by decide +kernel)) (by decide +kernel)
theorem m_1127 : Cond.instanceMethod yX11_drawn ∈ WT := wt_in (List.mem_of_getElem? (i := 1127) (by decide +kernel)) (by decide +kernel)
theorem m_1128 : Cond.code yX11_drawn cX11_drawn 2 (some .int) ∈ WT := wt_in (List.mem_of_getElem? (i := 1128) (by decide +kernel)) (by decide +kernel)
theorem m_1129 : Cond.constant "OneBeatsBothModel" 229 1103515245 ∈ WT := wt_in (List.mem_of_getElem? (i := 1129) (by decide +kernel)) (by decide +kernel)
theorem m_1130 : Cond.constant "OneBeatsBothModel" 230 2147483647 ∈ WT := wt_in (List.mem_of_getElem? (i := 1130) (by decide +kernel)) (by decide +kernel)
theorem m_1131 : Cond.constant "OneBeatsBothModel" 231 65536 ∈ WT := wt_in (List.mem_of_getElem? (i := 1131) (by decide +kernel)) (by decide +kernel)
theorem m_1136 : Cond.methodLink "OneBeatsBothModel" 237 yX11_wrongThree ∈ WT := wt_in (List.mem_of_getElem? (i := 1136) (by decide +kernel)) (by decide +kernel)
theorem m_1138 : Cond.instanceMethod yX11_wrongThree ∈ WT := wt_in (List.mem_of_getElem? (i := 1138) (by decide +kernel)) (by decide +kernel)
theorem m_1139 : Cond.code yX11_wrongThree cX11_wrongThree 6 (some .int) ∈ WT := wt_in (List.mem_of_getElem? (i := 1139) (by decide +kernel)) (by decide +kernel)
theorem m_1181 : Cond.sameMethod "OneBeatsBoth$Nuisance" "OneBeatsBoth$Nuisance" "skill" "()I" ∈ WT := wt_in (List.mem_of_getElem? (i := 1181) (by decide +kernel)) (by decide +kernel)
theorem m_1182 : Cond.sameMethod "OneBeatsBoth$Nuisance" "OneBeatsBoth$Nuisance" "countsWith" "(I)Z" ∈ WT := wt_in (List.mem_of_getElem? (i := 1182) (by decide +kernel)) (by decide +kernel)
theorem m_1183 : Cond.sameMethod "OneBeatsBoth$Paid" "OneBeatsBoth$Paid" "cost" "()I" ∈ WT := wt_in (List.mem_of_getElem? (i := 1183) (by decide +kernel)) (by decide +kernel)
theorem m_1184 : Cond.sameMethod "OneBeatsBoth$Guest" "OneBeatsBoth$Guest" "cost" "()I" ∈ WT := wt_in (List.mem_of_getElem? (i := 1184) (by decide +kernel)) (by decide +kernel)
theorem m_1185 : Cond.sameMethod "OneBeatsBoth$Nuisance" "OneBeatsBoth$Nuisance" "cost" "()I" ∈ WT := wt_in (List.mem_of_getElem? (i := 1185) (by decide +kernel)) (by decide +kernel)
theorem n_97 : Cond.arrayOver (.object "OneBeatsBoth$Player") ∈ NWs := by unfold NWs; decide +kernel
theorem n_117 : Cond.arrayOver (.object "OneBeatsBoth$Row") ∈ NWs := by unfold NWs; decide +kernel
theorem n_472 : Cond.fieldLinkNest "OneBeatsBoth$League" 38 "OneBeatsBoth" "LESSER" "[I" "OneBeatsBoth" ∈ NWs := by unfold NWs; decide +kernel
theorem n_474 : Cond.fieldLinkNest "OneBeatsBoth$League" 41 "OneBeatsBoth" "GREATER" "[I" "OneBeatsBoth" ∈ NWs := by unfold NWs; decide +kernel
theorem n_1187 : Cond.castable "OneBeatsBoth$Nuisance" "OneBeatsBoth$Player" ∈ NWs := by unfold NWs; decide +kernel
theorem n_1188 : Cond.castable "OneBeatsBoth$Paid" "OneBeatsBoth$Player" ∈ NWs := by unfold NWs; decide +kernel
theorem n_1189 : Cond.castable "OneBeatsBoth$Guest" "OneBeatsBoth$Player" ∈ NWs := by unfold NWs; decide +kernel
theorem n_1190 : Cond.castable "OneBeatsBoth$Twin" "OneBeatsBoth$Player" ∈ NWs := by unfold NWs; decide +kernel
theorem n_1191 : Cond.castable "OneBeatsBoth$Novice" "OneBeatsBoth$Player" ∈ NWs := by unfold NWs; decide +kernel
theorem n_1192 : Cond.castable "OneBeatsBoth$Priest" "OneBeatsBoth$Player" ∈ NWs := by unfold NWs; decide +kernel
theorem n_1193 : Cond.castable "OneBeatsBoth$Champion" "OneBeatsBoth$Player" ∈ NWs := by unfold NWs; decide +kernel
theorem ux_0 : ∀ w ∈ u_ws RX0 TX0 1, w ∈ WT := fun w h => wt_in ((by decide +kernel : ∀ w ∈ u_ws RX0 TX0 1, w ∈ lw_tbl) w h) ((by decide +kernel : ∀ w ∈ u_ws RX0 TX0 1, goodWord w = true) w h)
theorem ux_1 : ∀ w ∈ u_ws RX1 TX1 1, w ∈ WT := fun w h => wt_in ((by decide +kernel : ∀ w ∈ u_ws RX1 TX1 1, w ∈ lw_tbl) w h) ((by decide +kernel : ∀ w ∈ u_ws RX1 TX1 1, goodWord w = true) w h)
theorem ux_2 : ∀ w ∈ u_ws RX2 TX2 4, w ∈ WT := fun w h => wt_in ((by decide +kernel : ∀ w ∈ u_ws RX2 TX2 4, w ∈ lw_tbl) w h) ((by decide +kernel : ∀ w ∈ u_ws RX2 TX2 4, goodWord w = true) w h)
theorem ux_3 : ∀ w ∈ u_ws RX3 TX3 1, w ∈ WT := fun w h => wt_in ((by decide +kernel : ∀ w ∈ u_ws RX3 TX3 1, w ∈ lw_tbl) w h) ((by decide +kernel : ∀ w ∈ u_ws RX3 TX3 1, goodWord w = true) w h)
theorem ux_4 : ∀ w ∈ u_ws RX4 TX4 1, w ∈ WT := fun w h => wt_in ((by decide +kernel : ∀ w ∈ u_ws RX4 TX4 1, w ∈ lw_tbl) w h) ((by decide +kernel : ∀ w ∈ u_ws RX4 TX4 1, goodWord w = true) w h)
theorem ux_5 : ∀ w ∈ u_ws RX5 TX5 1, w ∈ WT := fun w h => wt_in ((by decide +kernel : ∀ w ∈ u_ws RX5 TX5 1, w ∈ lw_tbl) w h) ((by decide +kernel : ∀ w ∈ u_ws RX5 TX5 1, goodWord w = true) w h)
theorem ux_6 : ∀ w ∈ u_ws RX6 TX6 1, w ∈ WT := fun w h => wt_in ((by decide +kernel : ∀ w ∈ u_ws RX6 TX6 1, w ∈ lw_tbl) w h) ((by decide +kernel : ∀ w ∈ u_ws RX6 TX6 1, goodWord w = true) w h)
theorem ux_7 : ∀ w ∈ u_ws RX7 TX7 1, w ∈ WT := fun w h => wt_in ((by decide +kernel : ∀ w ∈ u_ws RX7 TX7 1, w ∈ lw_tbl) w h) ((by decide +kernel : ∀ w ∈ u_ws RX7 TX7 1, goodWord w = true) w h)
theorem ux_8 : ∀ w ∈ u_ws RX8 TX8 2, w ∈ WT := fun w h => wt_in ((by decide +kernel : ∀ w ∈ u_ws RX8 TX8 2, w ∈ lw_tbl) w h) ((by decide +kernel : ∀ w ∈ u_ws RX8 TX8 2, goodWord w = true) w h)
theorem ux_9 : ∀ w ∈ u_ws RX9 TX9 1, w ∈ WT := fun w h => wt_in ((by decide +kernel : ∀ w ∈ u_ws RX9 TX9 1, w ∈ lw_tbl) w h) ((by decide +kernel : ∀ w ∈ u_ws RX9 TX9 1, goodWord w = true) w h)
theorem ux_10 : ∀ w ∈ u_ws RX10 TX10 8, w ∈ WT := fun w h => wt_in ((by decide +kernel : ∀ w ∈ u_ws RX10 TX10 8, w ∈ lw_tbl) w h) ((by decide +kernel : ∀ w ∈ u_ws RX10 TX10 8, goodWord w = true) w h)
theorem ux_11 : ∀ w ∈ u_ws RX11 TX11 19, w ∈ WT := fun w h => wt_in ((by decide +kernel : ∀ w ∈ u_ws RX11 TX11 19, w ∈ lw_tbl) w h) ((by decide +kernel : ∀ w ∈ u_ws RX11 TX11 19, goodWord w = true) w h)
theorem dv_0 : ∀ j, j < 1 → defaultValue (tyX0 j) = vp_V [.int 0] j := fun j hj => by rcases (show j = 0 by omega) with rfl <;> rfl
theorem dv_1 : ∀ j, j < 1 → defaultValue (tyX1 j) = vp_V [.int 0] j := fun j hj => by rcases (show j = 0 by omega) with rfl <;> rfl
theorem dv_2 : ∀ j, j < 4 → defaultValue (tyX2 j) = vp_V [.null, .null, .int 0, .int 0] j := fun j hj => by rcases (show j = 0 ∨ j = 1 ∨ j = 2 ∨ j = 3 by omega) with rfl | rfl | rfl | rfl <;> rfl
theorem dv_3 : ∀ j, j < 1 → defaultValue (tyX3 j) = vp_V [.int 0] j := fun j hj => by rcases (show j = 0 by omega) with rfl <;> rfl
theorem dv_4 : ∀ j, j < 1 → defaultValue (tyX4 j) = vp_V [.int 0] j := fun j hj => by rcases (show j = 0 by omega) with rfl <;> rfl
theorem dv_5 : ∀ j, j < 1 → defaultValue (tyX5 j) = vp_V [.int 0] j := fun j hj => by rcases (show j = 0 by omega) with rfl <;> rfl
theorem dv_6 : ∀ j, j < 1 → defaultValue (tyX6 j) = vp_V [.int 0] j := fun j hj => by rcases (show j = 0 by omega) with rfl <;> rfl
theorem dv_7 : ∀ j, j < 1 → defaultValue (tyX7 j) = vp_V [.int 0] j := fun j hj => by rcases (show j = 0 by omega) with rfl <;> rfl
theorem dv_9 : ∀ j, j < 1 → defaultValue (tyX9 j) = vp_V [.int 0] j := fun j hj => by rcases (show j = 0 by omega) with rfl <;> rfl
theorem fg_RX10_12 : FG RX10 12 [10] 0 := ⟨"OneBeatsBoth", "plain", "LOneBeatsBoth$Player;", m_118, (List.forall_mem_cons.mpr ⟨⟨RX10, TX10, 8, rfl, by decide, rfl, rfl, ux_10, Or.inl rfl⟩, (fun _ h => absurd h List.not_mem_nil)⟩)⟩
theorem fg_RX10_23 : FG RX10 23 [10] 1 := ⟨"OneBeatsBoth", "now", "LOneBeatsBoth$League;", m_119, (List.forall_mem_cons.mpr ⟨⟨RX10, TX10, 8, rfl, by decide, rfl, rfl, ux_10, Or.inl rfl⟩, (fun _ h => absurd h List.not_mem_nil)⟩)⟩
theorem fg_RX10_27 : FG RX10 27 [10] 2 := ⟨"OneBeatsBoth", "draft", "LOneBeatsBoth$League;", m_120, (List.forall_mem_cons.mpr ⟨⟨RX10, TX10, 8, rfl, by decide, rfl, rfl, ux_10, Or.inl rfl⟩, (fun _ h => absurd h List.not_mem_nil)⟩)⟩
theorem fg_RX10_30 : FG RX10 30 [10] 3 := ⟨"OneBeatsBoth", "pictured", "LOneBeatsBoth$League;", m_121, (List.forall_mem_cons.mpr ⟨⟨RX10, TX10, 8, rfl, by decide, rfl, rfl, ux_10, Or.inl rfl⟩, (fun _ h => absurd h List.not_mem_nil)⟩)⟩
theorem fg_RX10_33 : FG RX10 33 [10] 4 := ⟨"OneBeatsBoth", "hasImage", "Z", m_122, (List.forall_mem_cons.mpr ⟨⟨RX10, TX10, 8, rfl, by decide, rfl, rfl, ux_10, Or.inl rfl⟩, (fun _ h => absurd h List.not_mem_nil)⟩)⟩
theorem fg_RX10_37 : FG RX10 37 [10] 5 := ⟨"OneBeatsBoth", "peopleOnShelves", "[LOneBeatsBoth$Player;", m_123, (List.forall_mem_cons.mpr ⟨⟨RX10, TX10, 8, rfl, by decide, rfl, rfl, ux_10, Or.inl rfl⟩, (fun _ h => absurd h List.not_mem_nil)⟩)⟩
theorem fg_RX10_43 : FG RX10 43 [10] 6 := ⟨"OneBeatsBoth", "rowsOnShelves", "[LOneBeatsBoth$Row;", m_124, (List.forall_mem_cons.mpr ⟨⟨RX10, TX10, 8, rfl, by decide, rfl, rfl, ux_10, Or.inl rfl⟩, (fun _ h => absurd h List.not_mem_nil)⟩)⟩
theorem fg_RX10_47 : FG RX10 47 [10] 7 := ⟨"OneBeatsBoth", "told", "[I", m_125, (List.forall_mem_cons.mpr ⟨⟨RX10, TX10, 8, rfl, by decide, rfl, rfl, ux_10, Or.inl rfl⟩, (fun _ h => absurd h List.not_mem_nil)⟩)⟩
theorem fg_RX10_85 : FG RX10 85 [2] 0 := ⟨"OneBeatsBoth$League", "people", "[LOneBeatsBoth$Player;", m_99, (List.forall_mem_cons.mpr ⟨⟨RX2, TX2, 4, rfl, by decide, rfl, rfl, ux_2, Or.inl rfl⟩, (fun _ h => absurd h List.not_mem_nil)⟩)⟩
theorem fg_RX10_91 : FG RX10 91 sP 0 := ⟨"OneBeatsBoth$Player", "figure", "I", m_80, (List.forall_mem_cons.mpr ⟨⟨RX0, TX0, 1, rfl, by decide, rfl, rfl, ux_0, Or.inl rfl⟩, (List.forall_mem_cons.mpr ⟨⟨RX1, TX1, 1, rfl, by decide, rfl, rfl, ux_1, Or.inl rfl⟩, (List.forall_mem_cons.mpr ⟨⟨RX3, TX3, 1, rfl, by decide, rfl, rfl, ux_3, Or.inl rfl⟩, (List.forall_mem_cons.mpr ⟨⟨RX4, TX4, 1, rfl, by decide, rfl, rfl, ux_4, Or.inl rfl⟩, (List.forall_mem_cons.mpr ⟨⟨RX5, TX5, 1, rfl, by decide, rfl, rfl, ux_5, Or.inl rfl⟩, (List.forall_mem_cons.mpr ⟨⟨RX6, TX6, 1, rfl, by decide, rfl, rfl, ux_6, Or.inl rfl⟩, (List.forall_mem_cons.mpr ⟨⟨RX7, TX7, 1, rfl, by decide, rfl, rfl, ux_7, Or.inl rfl⟩, (List.forall_mem_cons.mpr ⟨⟨RX9, TX9, 1, rfl, by decide, rfl, rfl, ux_9, Or.inl rfl⟩, (fun _ h => absurd h List.not_mem_nil)⟩)⟩)⟩)⟩)⟩)⟩)⟩)⟩)⟩
theorem fg_RX10_98 : FG RX10 98 [2] 1 := ⟨"OneBeatsBoth$League", "beaten", "[I", m_101, (List.forall_mem_cons.mpr ⟨⟨RX2, TX2, 4, rfl, by decide, rfl, rfl, ux_2, Or.inl rfl⟩, (fun _ h => absurd h List.not_mem_nil)⟩)⟩
theorem fg_RX10_111 : FG RX10 111 [2] 2 := ⟨"OneBeatsBoth$League", "size", "I", m_103, (List.forall_mem_cons.mpr ⟨⟨RX2, TX2, 4, rfl, by decide, rfl, rfl, ux_2, Or.inl rfl⟩, (fun _ h => absurd h List.not_mem_nil)⟩)⟩
theorem fg_RX10_130 : FG RX10 130 [2] 3 := ⟨"OneBeatsBoth$League", "law", "I", m_105, (List.forall_mem_cons.mpr ⟨⟨RX2, TX2, 4, rfl, by decide, rfl, rfl, ux_2, Or.inl rfl⟩, (fun _ h => absurd h List.not_mem_nil)⟩)⟩
theorem fg_RX10_250 : FG RX10 250 [8] 0 := ⟨"OneBeatsBoth$Row", "sort", "I", m_634, (List.forall_mem_cons.mpr ⟨⟨RX8, TX8, 2, rfl, by decide, rfl, rfl, ux_8, Or.inl rfl⟩, (fun _ h => absurd h List.not_mem_nil)⟩)⟩
theorem fg_RX10_253 : FG RX10 253 [8] 1 := ⟨"OneBeatsBoth$Row", "cells", "[I", m_636, (List.forall_mem_cons.mpr ⟨⟨RX8, TX8, 2, rfl, by decide, rfl, rfl, ux_8, Or.inl rfl⟩, (fun _ h => absurd h List.not_mem_nil)⟩)⟩
theorem fg_RX11_9 : FG RX11 9 [11] 0 := ⟨"OneBeatsBothModel", "s", "[I", m_804, (List.forall_mem_cons.mpr ⟨⟨RX11, TX11, 19, rfl, by decide, rfl, rfl, ux_11, Or.inl rfl⟩, (fun _ h => absurd h List.not_mem_nil)⟩)⟩
theorem fg_RX11_13 : FG RX11 13 [11] 1 := ⟨"OneBeatsBothModel", "image", "[I", m_805, (List.forall_mem_cons.mpr ⟨⟨RX11, TX11, 19, rfl, by decide, rfl, rfl, ux_11, Or.inl rfl⟩, (fun _ h => absurd h List.not_mem_nil)⟩)⟩
theorem fg_RX11_16 : FG RX11 16 [11] 2 := ⟨"OneBeatsBothModel", "read", "[I", m_806, (List.forall_mem_cons.mpr ⟨⟨RX11, TX11, 19, rfl, by decide, rfl, rfl, ux_11, Or.inl rfl⟩, (fun _ h => absurd h List.not_mem_nil)⟩)⟩
theorem fg_RX11_19 : FG RX11 19 [11] 3 := ⟨"OneBeatsBothModel", "mind", "[I", m_807, (List.forall_mem_cons.mpr ⟨⟨RX11, TX11, 19, rfl, by decide, rfl, rfl, ux_11, Or.inl rfl⟩, (fun _ h => absurd h List.not_mem_nil)⟩)⟩
theorem fg_RX11_22 : FG RX11 22 [11] 4 := ⟨"OneBeatsBothModel", "kept", "[I", m_808, (List.forall_mem_cons.mpr ⟨⟨RX11, TX11, 19, rfl, by decide, rfl, rfl, ux_11, Or.inl rfl⟩, (fun _ h => absurd h List.not_mem_nil)⟩)⟩
theorem fg_RX11_25 : FG RX11 25 [11] 5 := ⟨"OneBeatsBothModel", "sort", "[I", m_809, (List.forall_mem_cons.mpr ⟨⟨RX11, TX11, 19, rfl, by decide, rfl, rfl, ux_11, Or.inl rfl⟩, (fun _ h => absurd h List.not_mem_nil)⟩)⟩
theorem fg_RX11_28 : FG RX11 28 [11] 6 := ⟨"OneBeatsBothModel", "size", "[I", m_810, (List.forall_mem_cons.mpr ⟨⟨RX11, TX11, 19, rfl, by decide, rfl, rfl, ux_11, Or.inl rfl⟩, (fun _ h => absurd h List.not_mem_nil)⟩)⟩
theorem fg_RX11_31 : FG RX11 31 [11] 7 := ⟨"OneBeatsBothModel", "element", "[I", m_811, (List.forall_mem_cons.mpr ⟨⟨RX11, TX11, 19, rfl, by decide, rfl, rfl, ux_11, Or.inl rfl⟩, (fun _ h => absurd h List.not_mem_nil)⟩)⟩
theorem fg_RX11_34 : FG RX11 34 [11] 8 := ⟨"OneBeatsBothModel", "keptKind", "[I", m_812, (List.forall_mem_cons.mpr ⟨⟨RX11, TX11, 19, rfl, by decide, rfl, rfl, ux_11, Or.inl rfl⟩, (fun _ h => absurd h List.not_mem_nil)⟩)⟩
theorem fg_RX11_37 : FG RX11 37 [11] 9 := ⟨"OneBeatsBothModel", "keptFigure", "[I", m_813, (List.forall_mem_cons.mpr ⟨⟨RX11, TX11, 19, rfl, by decide, rfl, rfl, ux_11, Or.inl rfl⟩, (fun _ h => absurd h List.not_mem_nil)⟩)⟩
theorem fg_RX11_40 : FG RX11 40 [11] 15 := ⟨"OneBeatsBothModel", "numbers", "[I", m_819, (List.forall_mem_cons.mpr ⟨⟨RX11, TX11, 19, rfl, by decide, rfl, rfl, ux_11, Or.inl rfl⟩, (fun _ h => absurd h List.not_mem_nil)⟩)⟩
theorem fg_RX11_43 : FG RX11 43 [11] 11 := ⟨"OneBeatsBothModel", "thrown", "I", m_815, (List.forall_mem_cons.mpr ⟨⟨RX11, TX11, 19, rfl, by decide, rfl, rfl, ux_11, Or.inl rfl⟩, (fun _ h => absurd h List.not_mem_nil)⟩)⟩
theorem fg_RX11_94 : FG RX11 94 [11] 12 := ⟨"OneBeatsBothModel", "pos", "I", m_816, (List.forall_mem_cons.mpr ⟨⟨RX11, TX11, 19, rfl, by decide, rfl, rfl, ux_11, Or.inl rfl⟩, (fun _ h => absurd h List.not_mem_nil)⟩)⟩
theorem fg_RX11_97 : FG RX11 97 [11] 14 := ⟨"OneBeatsBothModel", "end", "I", m_818, (List.forall_mem_cons.mpr ⟨⟨RX11, TX11, 19, rfl, by decide, rfl, rfl, ux_11, Or.inl rfl⟩, (fun _ h => absurd h List.not_mem_nil)⟩)⟩
theorem fg_RX11_100 : FG RX11 100 [11] 13 := ⟨"OneBeatsBothModel", "base", "I", m_817, (List.forall_mem_cons.mpr ⟨⟨RX11, TX11, 19, rfl, by decide, rfl, rfl, ux_11, Or.inl rfl⟩, (fun _ h => absurd h List.not_mem_nil)⟩)⟩
theorem fg_RX11_226 : FG RX11 226 [11] 18 := ⟨"OneBeatsBothModel", "seed", "I", m_822, (List.forall_mem_cons.mpr ⟨⟨RX11, TX11, 19, rfl, by decide, rfl, rfl, ux_11, Or.inl rfl⟩, (fun _ h => absurd h List.not_mem_nil)⟩)⟩
theorem fg_RX11_240 : FG RX11 240 [11] 10 := ⟨"OneBeatsBothModel", "hasImage", "Z", m_814, (List.forall_mem_cons.mpr ⟨⟨RX11, TX11, 19, rfl, by decide, rfl, rfl, ux_11, Or.inl rfl⟩, (fun _ h => absurd h List.not_mem_nil)⟩)⟩
theorem fg_RX2_11 : FG RX2 11 [2] 0 := ⟨"OneBeatsBoth$League", "people", "[LOneBeatsBoth$Player;", m_98, (List.forall_mem_cons.mpr ⟨⟨RX2, TX2, 4, rfl, by decide, rfl, rfl, ux_2, Or.inl rfl⟩, (fun _ h => absurd h List.not_mem_nil)⟩)⟩
theorem fg_RX2_17 : FG RX2 17 [2] 1 := ⟨"OneBeatsBoth$League", "beaten", "[I", m_100, (List.forall_mem_cons.mpr ⟨⟨RX2, TX2, 4, rfl, by decide, rfl, rfl, ux_2, Or.inl rfl⟩, (fun _ h => absurd h List.not_mem_nil)⟩)⟩
theorem fg_RX2_21 : FG RX2 21 [2] 2 := ⟨"OneBeatsBoth$League", "size", "I", m_102, (List.forall_mem_cons.mpr ⟨⟨RX2, TX2, 4, rfl, by decide, rfl, rfl, ux_2, Or.inl rfl⟩, (fun _ h => absurd h List.not_mem_nil)⟩)⟩
theorem fg_RX2_25 : FG RX2 25 [2] 3 := ⟨"OneBeatsBoth$League", "law", "I", m_104, (List.forall_mem_cons.mpr ⟨⟨RX2, TX2, 4, rfl, by decide, rfl, rfl, ux_2, Or.inl rfl⟩, (fun _ h => absurd h List.not_mem_nil)⟩)⟩
theorem fg_RX3_7 : FG RX3 7 sP 0 := ⟨"OneBeatsBoth$Novice", "figure", "I", m_81, (List.forall_mem_cons.mpr ⟨⟨RX0, TX0, 1, rfl, by decide, rfl, rfl, ux_0, Or.inr m_82⟩, (List.forall_mem_cons.mpr ⟨⟨RX1, TX1, 1, rfl, by decide, rfl, rfl, ux_1, Or.inr m_82⟩, (List.forall_mem_cons.mpr ⟨⟨RX3, TX3, 1, rfl, by decide, rfl, rfl, ux_3, Or.inr m_82⟩, (List.forall_mem_cons.mpr ⟨⟨RX4, TX4, 1, rfl, by decide, rfl, rfl, ux_4, Or.inr m_82⟩, (List.forall_mem_cons.mpr ⟨⟨RX5, TX5, 1, rfl, by decide, rfl, rfl, ux_5, Or.inr m_82⟩, (List.forall_mem_cons.mpr ⟨⟨RX6, TX6, 1, rfl, by decide, rfl, rfl, ux_6, Or.inr m_82⟩, (List.forall_mem_cons.mpr ⟨⟨RX7, TX7, 1, rfl, by decide, rfl, rfl, ux_7, Or.inr m_82⟩, (List.forall_mem_cons.mpr ⟨⟨RX9, TX9, 1, rfl, by decide, rfl, rfl, ux_9, Or.inr m_82⟩, (fun _ h => absurd h List.not_mem_nil)⟩)⟩)⟩)⟩)⟩)⟩)⟩)⟩)⟩
theorem fg_RX4_11 : FG RX4 11 sP 0 := ⟨"OneBeatsBoth$Nuisance", "figure", "I", m_83, (List.forall_mem_cons.mpr ⟨⟨RX0, TX0, 1, rfl, by decide, rfl, rfl, ux_0, Or.inr m_84⟩, (List.forall_mem_cons.mpr ⟨⟨RX1, TX1, 1, rfl, by decide, rfl, rfl, ux_1, Or.inr m_84⟩, (List.forall_mem_cons.mpr ⟨⟨RX3, TX3, 1, rfl, by decide, rfl, rfl, ux_3, Or.inr m_84⟩, (List.forall_mem_cons.mpr ⟨⟨RX4, TX4, 1, rfl, by decide, rfl, rfl, ux_4, Or.inr m_84⟩, (List.forall_mem_cons.mpr ⟨⟨RX5, TX5, 1, rfl, by decide, rfl, rfl, ux_5, Or.inr m_84⟩, (List.forall_mem_cons.mpr ⟨⟨RX6, TX6, 1, rfl, by decide, rfl, rfl, ux_6, Or.inr m_84⟩, (List.forall_mem_cons.mpr ⟨⟨RX7, TX7, 1, rfl, by decide, rfl, rfl, ux_7, Or.inr m_84⟩, (List.forall_mem_cons.mpr ⟨⟨RX9, TX9, 1, rfl, by decide, rfl, rfl, ux_9, Or.inr m_84⟩, (fun _ h => absurd h List.not_mem_nil)⟩)⟩)⟩)⟩)⟩)⟩)⟩)⟩)⟩
theorem fg_RX6_7 : FG RX6 7 sP 0 := ⟨"OneBeatsBoth$Player", "figure", "I", m_79, (List.forall_mem_cons.mpr ⟨⟨RX0, TX0, 1, rfl, by decide, rfl, rfl, ux_0, Or.inl rfl⟩, (List.forall_mem_cons.mpr ⟨⟨RX1, TX1, 1, rfl, by decide, rfl, rfl, ux_1, Or.inl rfl⟩, (List.forall_mem_cons.mpr ⟨⟨RX3, TX3, 1, rfl, by decide, rfl, rfl, ux_3, Or.inl rfl⟩, (List.forall_mem_cons.mpr ⟨⟨RX4, TX4, 1, rfl, by decide, rfl, rfl, ux_4, Or.inl rfl⟩, (List.forall_mem_cons.mpr ⟨⟨RX5, TX5, 1, rfl, by decide, rfl, rfl, ux_5, Or.inl rfl⟩, (List.forall_mem_cons.mpr ⟨⟨RX6, TX6, 1, rfl, by decide, rfl, rfl, ux_6, Or.inl rfl⟩, (List.forall_mem_cons.mpr ⟨⟨RX7, TX7, 1, rfl, by decide, rfl, rfl, ux_7, Or.inl rfl⟩, (List.forall_mem_cons.mpr ⟨⟨RX9, TX9, 1, rfl, by decide, rfl, rfl, ux_9, Or.inl rfl⟩, (fun _ h => absurd h List.not_mem_nil)⟩)⟩)⟩)⟩)⟩)⟩)⟩)⟩)⟩
theorem fg_RX8_7 : FG RX8 7 [8] 0 := ⟨"OneBeatsBoth$Row", "sort", "I", m_633, (List.forall_mem_cons.mpr ⟨⟨RX8, TX8, 2, rfl, by decide, rfl, rfl, ux_8, Or.inl rfl⟩, (fun _ h => absurd h List.not_mem_nil)⟩)⟩
theorem fg_RX8_13 : FG RX8 13 [8] 1 := ⟨"OneBeatsBoth$Row", "cells", "[I", m_635, (List.forall_mem_cons.mpr ⟨⟨RX8, TX8, 2, rfl, by decide, rfl, rfl, ux_8, Or.inl rfl⟩, (fun _ h => absurd h List.not_mem_nil)⟩)⟩
theorem fp_RX10_12 : FP RX10 12 [10] 0 (.object "OneBeatsBoth$Player") true := ⟨"OneBeatsBoth", "plain", "LOneBeatsBoth$Player;", m_118, by decide +kernel, (List.forall_mem_cons.mpr ⟨⟨RX10, TX10, 8, tyX10, rfl, by decide, rfl, rfl, ux_10, Or.inl rfl, rfl, tyX10_ok, nmX10, (fun _ => rfl)⟩, (fun _ h => absurd h List.not_mem_nil)⟩)⟩
theorem fp_RX10_23 : FP RX10 23 [10] 1 (.object "OneBeatsBoth$League") true := ⟨"OneBeatsBoth", "now", "LOneBeatsBoth$League;", m_119, by decide +kernel, (List.forall_mem_cons.mpr ⟨⟨RX10, TX10, 8, tyX10, rfl, by decide, rfl, rfl, ux_10, Or.inl rfl, rfl, tyX10_ok, nmX10, (fun _ => rfl)⟩, (fun _ h => absurd h List.not_mem_nil)⟩)⟩
theorem fp_RX10_27 : FP RX10 27 [10] 2 (.object "OneBeatsBoth$League") true := ⟨"OneBeatsBoth", "draft", "LOneBeatsBoth$League;", m_120, by decide +kernel, (List.forall_mem_cons.mpr ⟨⟨RX10, TX10, 8, tyX10, rfl, by decide, rfl, rfl, ux_10, Or.inl rfl, rfl, tyX10_ok, nmX10, (fun _ => rfl)⟩, (fun _ h => absurd h List.not_mem_nil)⟩)⟩
theorem fp_RX10_30 : FP RX10 30 [10] 3 (.object "OneBeatsBoth$League") true := ⟨"OneBeatsBoth", "pictured", "LOneBeatsBoth$League;", m_121, by decide +kernel, (List.forall_mem_cons.mpr ⟨⟨RX10, TX10, 8, tyX10, rfl, by decide, rfl, rfl, ux_10, Or.inl rfl, rfl, tyX10_ok, nmX10, (fun _ => rfl)⟩, (fun _ h => absurd h List.not_mem_nil)⟩)⟩
theorem fp_RX10_33 : FP RX10 33 [10] 4 .boolean false := ⟨"OneBeatsBoth", "hasImage", "Z", m_122, by decide +kernel, (List.forall_mem_cons.mpr ⟨⟨RX10, TX10, 8, tyX10, rfl, by decide, rfl, rfl, ux_10, Or.inl rfl, rfl, tyX10_ok, nmX10, (fun h => by cases h)⟩, (fun _ h => absurd h List.not_mem_nil)⟩)⟩
theorem fp_RX10_37 : FP RX10 37 [10] 5 (.array (.object "OneBeatsBoth$Player")) true := ⟨"OneBeatsBoth", "peopleOnShelves", "[LOneBeatsBoth$Player;", m_123, by decide +kernel, (List.forall_mem_cons.mpr ⟨⟨RX10, TX10, 8, tyX10, rfl, by decide, rfl, rfl, ux_10, Or.inl rfl, rfl, tyX10_ok, nmX10, (fun _ => rfl)⟩, (fun _ h => absurd h List.not_mem_nil)⟩)⟩
theorem fp_RX10_43 : FP RX10 43 [10] 6 (.array (.object "OneBeatsBoth$Row")) true := ⟨"OneBeatsBoth", "rowsOnShelves", "[LOneBeatsBoth$Row;", m_124, by decide +kernel, (List.forall_mem_cons.mpr ⟨⟨RX10, TX10, 8, tyX10, rfl, by decide, rfl, rfl, ux_10, Or.inl rfl, rfl, tyX10_ok, nmX10, (fun _ => rfl)⟩, (fun _ h => absurd h List.not_mem_nil)⟩)⟩
theorem fp_RX10_47 : FP RX10 47 [10] 7 (.array .int) true := ⟨"OneBeatsBoth", "told", "[I", m_125, by decide +kernel, (List.forall_mem_cons.mpr ⟨⟨RX10, TX10, 8, tyX10, rfl, by decide, rfl, rfl, ux_10, Or.inl rfl, rfl, tyX10_ok, nmX10, (fun _ => rfl)⟩, (fun _ h => absurd h List.not_mem_nil)⟩)⟩
theorem fp_RX10_111 : FP RX10 111 [2] 2 .int false := ⟨"OneBeatsBoth$League", "size", "I", m_103, by decide +kernel, (List.forall_mem_cons.mpr ⟨⟨RX2, TX2, 4, tyX2, rfl, by decide, rfl, rfl, ux_2, Or.inl rfl, rfl, tyX2_ok, nmX2, (fun h => by cases h)⟩, (fun _ h => absurd h List.not_mem_nil)⟩)⟩
theorem fp_RX10_130 : FP RX10 130 [2] 3 .int false := ⟨"OneBeatsBoth$League", "law", "I", m_105, by decide +kernel, (List.forall_mem_cons.mpr ⟨⟨RX2, TX2, 4, tyX2, rfl, by decide, rfl, rfl, ux_2, Or.inl rfl, rfl, tyX2_ok, nmX2, (fun h => by cases h)⟩, (fun _ h => absurd h List.not_mem_nil)⟩)⟩
theorem fp_RX11_9 : FP RX11 9 [11] 0 (.array .int) true := ⟨"OneBeatsBothModel", "s", "[I", m_804, by decide +kernel, (List.forall_mem_cons.mpr ⟨⟨RX11, TX11, 19, tyX11, rfl, by decide, rfl, rfl, ux_11, Or.inl rfl, rfl, tyX11_ok, nmX11, (fun _ => rfl)⟩, (fun _ h => absurd h List.not_mem_nil)⟩)⟩
theorem fp_RX11_13 : FP RX11 13 [11] 1 (.array .int) true := ⟨"OneBeatsBothModel", "image", "[I", m_805, by decide +kernel, (List.forall_mem_cons.mpr ⟨⟨RX11, TX11, 19, tyX11, rfl, by decide, rfl, rfl, ux_11, Or.inl rfl, rfl, tyX11_ok, nmX11, (fun _ => rfl)⟩, (fun _ h => absurd h List.not_mem_nil)⟩)⟩
theorem fp_RX11_16 : FP RX11 16 [11] 2 (.array .int) true := ⟨"OneBeatsBothModel", "read", "[I", m_806, by decide +kernel, (List.forall_mem_cons.mpr ⟨⟨RX11, TX11, 19, tyX11, rfl, by decide, rfl, rfl, ux_11, Or.inl rfl, rfl, tyX11_ok, nmX11, (fun _ => rfl)⟩, (fun _ h => absurd h List.not_mem_nil)⟩)⟩
theorem fp_RX11_19 : FP RX11 19 [11] 3 (.array .int) true := ⟨"OneBeatsBothModel", "mind", "[I", m_807, by decide +kernel, (List.forall_mem_cons.mpr ⟨⟨RX11, TX11, 19, tyX11, rfl, by decide, rfl, rfl, ux_11, Or.inl rfl, rfl, tyX11_ok, nmX11, (fun _ => rfl)⟩, (fun _ h => absurd h List.not_mem_nil)⟩)⟩
theorem fp_RX11_22 : FP RX11 22 [11] 4 (.array .int) true := ⟨"OneBeatsBothModel", "kept", "[I", m_808, by decide +kernel, (List.forall_mem_cons.mpr ⟨⟨RX11, TX11, 19, tyX11, rfl, by decide, rfl, rfl, ux_11, Or.inl rfl, rfl, tyX11_ok, nmX11, (fun _ => rfl)⟩, (fun _ h => absurd h List.not_mem_nil)⟩)⟩
theorem fp_RX11_25 : FP RX11 25 [11] 5 (.array .int) true := ⟨"OneBeatsBothModel", "sort", "[I", m_809, by decide +kernel, (List.forall_mem_cons.mpr ⟨⟨RX11, TX11, 19, tyX11, rfl, by decide, rfl, rfl, ux_11, Or.inl rfl, rfl, tyX11_ok, nmX11, (fun _ => rfl)⟩, (fun _ h => absurd h List.not_mem_nil)⟩)⟩
theorem fp_RX11_28 : FP RX11 28 [11] 6 (.array .int) true := ⟨"OneBeatsBothModel", "size", "[I", m_810, by decide +kernel, (List.forall_mem_cons.mpr ⟨⟨RX11, TX11, 19, tyX11, rfl, by decide, rfl, rfl, ux_11, Or.inl rfl, rfl, tyX11_ok, nmX11, (fun _ => rfl)⟩, (fun _ h => absurd h List.not_mem_nil)⟩)⟩
theorem fp_RX11_31 : FP RX11 31 [11] 7 (.array .int) true := ⟨"OneBeatsBothModel", "element", "[I", m_811, by decide +kernel, (List.forall_mem_cons.mpr ⟨⟨RX11, TX11, 19, tyX11, rfl, by decide, rfl, rfl, ux_11, Or.inl rfl, rfl, tyX11_ok, nmX11, (fun _ => rfl)⟩, (fun _ h => absurd h List.not_mem_nil)⟩)⟩
theorem fp_RX11_34 : FP RX11 34 [11] 8 (.array .int) true := ⟨"OneBeatsBothModel", "keptKind", "[I", m_812, by decide +kernel, (List.forall_mem_cons.mpr ⟨⟨RX11, TX11, 19, tyX11, rfl, by decide, rfl, rfl, ux_11, Or.inl rfl, rfl, tyX11_ok, nmX11, (fun _ => rfl)⟩, (fun _ h => absurd h List.not_mem_nil)⟩)⟩
theorem fp_RX11_37 : FP RX11 37 [11] 9 (.array .int) true := ⟨"OneBeatsBothModel", "keptFigure", "[I", m_813, by decide +kernel, (List.forall_mem_cons.mpr ⟨⟨RX11, TX11, 19, tyX11, rfl, by decide, rfl, rfl, ux_11, Or.inl rfl, rfl, tyX11_ok, nmX11, (fun _ => rfl)⟩, (fun _ h => absurd h List.not_mem_nil)⟩)⟩
theorem fp_RX11_40 : FP RX11 40 [11] 15 (.array .int) true := ⟨"OneBeatsBothModel", "numbers", "[I", m_819, by decide +kernel, (List.forall_mem_cons.mpr ⟨⟨RX11, TX11, 19, tyX11, rfl, by decide, rfl, rfl, ux_11, Or.inl rfl, rfl, tyX11_ok, nmX11, (fun _ => rfl)⟩, (fun _ h => absurd h List.not_mem_nil)⟩)⟩
theorem fp_RX11_43 : FP RX11 43 [11] 11 .int false := ⟨"OneBeatsBothModel", "thrown", "I", m_815, by decide +kernel, (List.forall_mem_cons.mpr ⟨⟨RX11, TX11, 19, tyX11, rfl, by decide, rfl, rfl, ux_11, Or.inl rfl, rfl, tyX11_ok, nmX11, (fun h => by cases h)⟩, (fun _ h => absurd h List.not_mem_nil)⟩)⟩
theorem fp_RX11_94 : FP RX11 94 [11] 12 .int false := ⟨"OneBeatsBothModel", "pos", "I", m_816, by decide +kernel, (List.forall_mem_cons.mpr ⟨⟨RX11, TX11, 19, tyX11, rfl, by decide, rfl, rfl, ux_11, Or.inl rfl, rfl, tyX11_ok, nmX11, (fun h => by cases h)⟩, (fun _ h => absurd h List.not_mem_nil)⟩)⟩
theorem fp_RX11_97 : FP RX11 97 [11] 14 .int false := ⟨"OneBeatsBothModel", "end", "I", m_818, by decide +kernel, (List.forall_mem_cons.mpr ⟨⟨RX11, TX11, 19, tyX11, rfl, by decide, rfl, rfl, ux_11, Or.inl rfl, rfl, tyX11_ok, nmX11, (fun h => by cases h)⟩, (fun _ h => absurd h List.not_mem_nil)⟩)⟩
theorem fp_RX11_100 : FP RX11 100 [11] 13 .int false := ⟨"OneBeatsBothModel", "base", "I", m_817, by decide +kernel, (List.forall_mem_cons.mpr ⟨⟨RX11, TX11, 19, tyX11, rfl, by decide, rfl, rfl, ux_11, Or.inl rfl, rfl, tyX11_ok, nmX11, (fun h => by cases h)⟩, (fun _ h => absurd h List.not_mem_nil)⟩)⟩
theorem fp_RX11_226 : FP RX11 226 [11] 18 .int false := ⟨"OneBeatsBothModel", "seed", "I", m_822, by decide +kernel, (List.forall_mem_cons.mpr ⟨⟨RX11, TX11, 19, tyX11, rfl, by decide, rfl, rfl, ux_11, Or.inl rfl, rfl, tyX11_ok, nmX11, (fun h => by cases h)⟩, (fun _ h => absurd h List.not_mem_nil)⟩)⟩
theorem fp_RX11_240 : FP RX11 240 [11] 10 .boolean false := ⟨"OneBeatsBothModel", "hasImage", "Z", m_814, by decide +kernel, (List.forall_mem_cons.mpr ⟨⟨RX11, TX11, 19, tyX11, rfl, by decide, rfl, rfl, ux_11, Or.inl rfl, rfl, tyX11_ok, nmX11, (fun h => by cases h)⟩, (fun _ h => absurd h List.not_mem_nil)⟩)⟩
theorem fp_RX2_11 : FP RX2 11 [2] 0 (.array (.object "OneBeatsBoth$Player")) true := ⟨"OneBeatsBoth$League", "people", "[LOneBeatsBoth$Player;", m_98, by decide +kernel, (List.forall_mem_cons.mpr ⟨⟨RX2, TX2, 4, tyX2, rfl, by decide, rfl, rfl, ux_2, Or.inl rfl, rfl, tyX2_ok, nmX2, (fun _ => rfl)⟩, (fun _ h => absurd h List.not_mem_nil)⟩)⟩
theorem fp_RX2_17 : FP RX2 17 [2] 1 (.array .int) true := ⟨"OneBeatsBoth$League", "beaten", "[I", m_100, by decide +kernel, (List.forall_mem_cons.mpr ⟨⟨RX2, TX2, 4, tyX2, rfl, by decide, rfl, rfl, ux_2, Or.inl rfl, rfl, tyX2_ok, nmX2, (fun _ => rfl)⟩, (fun _ h => absurd h List.not_mem_nil)⟩)⟩
theorem fp_RX2_21 : FP RX2 21 [2] 2 .int false := ⟨"OneBeatsBoth$League", "size", "I", m_102, by decide +kernel, (List.forall_mem_cons.mpr ⟨⟨RX2, TX2, 4, tyX2, rfl, by decide, rfl, rfl, ux_2, Or.inl rfl, rfl, tyX2_ok, nmX2, (fun h => by cases h)⟩, (fun _ h => absurd h List.not_mem_nil)⟩)⟩
theorem fp_RX2_25 : FP RX2 25 [2] 3 .int false := ⟨"OneBeatsBoth$League", "law", "I", m_104, by decide +kernel, (List.forall_mem_cons.mpr ⟨⟨RX2, TX2, 4, tyX2, rfl, by decide, rfl, rfl, ux_2, Or.inl rfl, rfl, tyX2_ok, nmX2, (fun h => by cases h)⟩, (fun _ h => absurd h List.not_mem_nil)⟩)⟩
theorem fp_RX6_7 : FP RX6 7 sP 0 .int true := ⟨"OneBeatsBoth$Player", "figure", "I", m_79, by decide +kernel, (List.forall_mem_cons.mpr ⟨⟨RX0, TX0, 1, tyX0, rfl, by decide, rfl, rfl, ux_0, Or.inl rfl, rfl, tyX0_ok, nmX0, (fun _ => rfl)⟩, (List.forall_mem_cons.mpr ⟨⟨RX1, TX1, 1, tyX1, rfl, by decide, rfl, rfl, ux_1, Or.inl rfl, rfl, tyX1_ok, nmX1, (fun _ => rfl)⟩, (List.forall_mem_cons.mpr ⟨⟨RX3, TX3, 1, tyX3, rfl, by decide, rfl, rfl, ux_3, Or.inl rfl, rfl, tyX3_ok, nmX3, (fun _ => rfl)⟩, (List.forall_mem_cons.mpr ⟨⟨RX4, TX4, 1, tyX4, rfl, by decide, rfl, rfl, ux_4, Or.inl rfl, rfl, tyX4_ok, nmX4, (fun _ => rfl)⟩, (List.forall_mem_cons.mpr ⟨⟨RX5, TX5, 1, tyX5, rfl, by decide, rfl, rfl, ux_5, Or.inl rfl, rfl, tyX5_ok, nmX5, (fun _ => rfl)⟩, (List.forall_mem_cons.mpr ⟨⟨RX6, TX6, 1, tyX6, rfl, by decide, rfl, rfl, ux_6, Or.inl rfl, rfl, tyX6_ok, nmX6, (fun _ => rfl)⟩, (List.forall_mem_cons.mpr ⟨⟨RX7, TX7, 1, tyX7, rfl, by decide, rfl, rfl, ux_7, Or.inl rfl, rfl, tyX7_ok, nmX7, (fun _ => rfl)⟩, (List.forall_mem_cons.mpr ⟨⟨RX9, TX9, 1, tyX9, rfl, by decide, rfl, rfl, ux_9, Or.inl rfl, rfl, tyX9_ok, nmX9, (fun _ => rfl)⟩, (fun _ h => absurd h List.not_mem_nil)⟩)⟩)⟩)⟩)⟩)⟩)⟩)⟩)⟩
theorem fp_RX8_7 : FP RX8 7 [8] 0 .int true := ⟨"OneBeatsBoth$Row", "sort", "I", m_633, by decide +kernel, (List.forall_mem_cons.mpr ⟨⟨RX8, TX8, 2, tyX8, rfl, by decide, rfl, rfl, ux_8, Or.inl rfl, rfl, tyX8_ok, nmX8, (fun _ => rfl)⟩, (fun _ h => absurd h List.not_mem_nil)⟩)⟩
theorem fp_RX8_13 : FP RX8 13 [8] 1 (.array .int) true := ⟨"OneBeatsBoth$Row", "cells", "[I", m_635, by decide +kernel, (List.forall_mem_cons.mpr ⟨⟨RX8, TX8, 2, tyX8, rfl, by decide, rfl, rfl, ux_8, Or.inl rfl, rfl, tyX8_ok, nmX8, (fun _ => rfl)⟩, (fun _ h => absurd h List.not_mem_nil)⟩)⟩
theorem cc_RX10_256 : CC RX10 256 := ⟨m_655, m_194, m_193, m_49⟩
theorem cc_RX2_28 : CC RX2 28 := ⟨m_192, m_194, m_193, m_49⟩
theorem ra_ok : ∀ b, RA b := fun b => by
  cases b
  · exact (List.forall_mem_cons.mpr ⟨⟨_, rfl, Or.inl n_1193⟩, (List.forall_mem_cons.mpr ⟨⟨_, rfl, Or.inl n_1189⟩, (List.forall_mem_cons.mpr ⟨⟨_, rfl, Or.inl n_1191⟩, (List.forall_mem_cons.mpr ⟨⟨_, rfl, Or.inl n_1187⟩, (List.forall_mem_cons.mpr ⟨⟨_, rfl, Or.inl n_1188⟩, (List.forall_mem_cons.mpr ⟨⟨_, rfl, Or.inr rfl⟩, (List.forall_mem_cons.mpr ⟨⟨_, rfl, Or.inl n_1192⟩, (List.forall_mem_cons.mpr ⟨⟨_, rfl, Or.inl n_1190⟩, (fun _ h => absurd h List.not_mem_nil)⟩)⟩)⟩)⟩)⟩)⟩)⟩)⟩)
  · exact (List.forall_mem_cons.mpr ⟨⟨_, rfl, Or.inr rfl⟩, (fun _ h => absurd h List.not_mem_nil)⟩)
theorem w_RX0_1 : CI RX0 1 yX6_init cX6_init 2 1 := ⟨m_77, m_46, m_258, m_76, rfl, by decide +kernel⟩
theorem w_RX0_11 : CX RX0 11 yX6_cost cX6_cost 1 0 (some .int) := ⟨m_404, m_46, m_379, m_373, m_375, m_260, by decide +kernel⟩
theorem w_RX0_7 : CX RX0 7 yX6_skill cX6_skill 1 0 (some .int) := ⟨m_340, m_46, m_322, m_316, m_318, m_260, by decide +kernel⟩
theorem w_RX10_101 : CV RX10 101 RX2 yX2_counting cX2_counting 3 0 (some .int) := ⟨m_344, m_47, m_341, m_342, m_343, by decide +kernel⟩
theorem w_RX10_107 : CV RX10 107 RX10 yX10_personOn cX10_personOn 2 1 (some (.object "OneBeatsBoth$Player")) := ⟨m_169, m_45, m_166, m_168, m_4, by decide +kernel⟩
theorem w_RX10_113 : CV RX10 113 RX2 yX2_seat cX2_seat 3 1 none := ⟨m_264, m_47, m_261, m_262, m_263, by decide +kernel⟩
theorem w_RX10_116 : CV RX10 116 RX2 yX2_hasBoth cX2_hasBoth 3 2 (some .boolean) := ⟨m_268, m_47, m_265, m_266, m_267, by decide +kernel⟩
theorem w_RX10_120 : CV RX10 120 RX2 yX2_hasBeaten cX2_hasBeaten 3 2 (some .boolean) := ⟨m_416, m_47, m_413, m_414, m_415, by decide +kernel⟩
theorem w_RX10_123 : CV RX10 123 RX2 yX2_win cX2_win 3 2 none := ⟨m_276, m_47, m_273, m_274, m_275, by decide +kernel⟩
theorem w_RX10_127 : CS RX10 127 yX10_isLaw cX10_isLaw 1 1 (some .boolean) := ⟨m_279, m_45, m_277, m_278, by decide +kernel⟩
theorem w_RX10_133 : CV RX10 133 RX2 yX2_isLawful cX2_isLawful 1 0 (some .boolean) := ⟨m_428, m_47, m_425, m_426, m_427, by decide +kernel⟩
theorem w_RX10_137 : CV RX10 137 RX2 yX2_mastersAmong cX2_mastersAmong 4 3 (some .int) := ⟨m_437, m_47, m_446, m_435, m_436, by decide +kernel⟩
theorem w_RX10_141 : CV RX10 141 RX2 yX2_orphanPairs cX2_orphanPairs 5 0 (some .int) := ⟨m_454, m_47, m_451, m_452, m_453, by decide +kernel⟩
theorem w_RX10_144 : CV RX10 144 RX2 yX2_firstOrphanPair cX2_firstOrphanPair 4 0 (some .int) := ⟨m_441, m_47, m_455, m_439, m_440, by decide +kernel⟩
theorem w_RX10_147 : CV RX10 147 RX2 yX2_matches cX2_matches 1 0 (some .int) := ⟨m_463, m_47, m_460, m_461, m_462, by decide +kernel⟩
theorem w_RX10_150 : CV RX10 150 RX10 yX10_lawfulTurns cX10_lawfulTurns 3 0 (some .int) := ⟨m_467, m_45, m_464, m_466, m_7, by decide +kernel⟩
theorem w_RX10_153 : CV RX10 153 RX2 yX2_isRing cX2_isRing 5 3 (some .boolean) := ⟨m_487, m_47, m_484, m_485, m_486, by decide +kernel⟩
theorem w_RX10_156 : CS RX10 156 yJ6_bitCount_0f7a4 cJ6_bitCount_0f7a4 1 1 (some .int) := ⟨m_347, m_57, m_493, m_346, by decide +kernel⟩
theorem w_RX10_165 : CS RX10 165 yX10_isPerson cX10_isPerson 2 2 (some .boolean) := ⟨m_201, m_45, m_199, m_200, by decide +kernel⟩
theorem w_RX10_168 : CS RX10 168 yX10_newPerson cX10_newPerson 2 2 (some (.object "OneBeatsBoth$Player")) := ⟨m_204, m_45, m_202, m_203, by decide +kernel⟩
theorem w_RX10_172 : CV RX10 172 RX2 yX2_newcomerBeats cX2_newcomerBeats 4 2 none := ⟨m_517, m_47, m_514, m_515, m_516, by decide +kernel⟩
theorem w_RX10_175 : CV RX10 175 RX2 yX2_unseat cX2_unseat 4 1 none := ⟨m_283, m_47, m_280, m_281, m_282, by decide +kernel⟩
theorem w_RX10_182 : CV RX10 182 RX2 yX2_play cX2_play 3 1 none := ⟨m_532, m_47, m_529, m_530, m_531, by decide +kernel⟩
theorem w_RX10_185 : CV RX10 185 RX2 yX2_weight cX2_weight 6 0 (some .long) := ⟨m_537, m_47, m_534, m_535, m_536, by decide +kernel⟩
theorem w_RX10_189 : CS RX10 189 yX10_commonDivisor cX10_commonDivisor 11 2 (some .long) := ⟨m_541, m_45, m_539, m_540, by decide +kernel⟩
theorem w_RX10_193 : CV RX10 193 RX10 yX10_clearTold cX10_clearTold 2 0 none := ⟨m_549, m_45, m_546, m_548, m_8, by decide +kernel⟩
theorem w_RX10_196 : CV RX10 196 RX10 yX10_lawfulWaysAsTold cX10_lawfulWaysAsTold 3 0 (some .int) := ⟨m_553, m_45, m_550, m_552, m_9, by decide +kernel⟩
theorem w_RX10_199 : CS RX10 199 yX10_isRing cX10_isRing 1 1 (some .boolean) := ⟨m_564, m_45, m_562, m_563, by decide +kernel⟩
theorem w_RX10_20 : CI RX10 20 yX2_init cX2_init 3 1 := ⟨m_94, m_47, m_92, m_93, rfl, by decide +kernel⟩
theorem w_RX10_201 : CS RX10 201 yX10_isHalfOfDifferences cX10_isHalfOfDifferences 3 2 (some .boolean) := ⟨m_567, m_45, m_565, m_566, by decide +kernel⟩
theorem w_RX10_204 : CS RX10 204 yX10_isLawfulRing cX10_isLawfulRing 7 3 (some .boolean) := ⟨m_570, m_45, m_568, m_569, by decide +kernel⟩
theorem w_RX10_207 : CS RX10 207 yX10_setWithUpperHalf cX10_setWithUpperHalf 5 2 (some .int) := ⟨m_577, m_45, m_575, m_576, by decide +kernel⟩
theorem w_RX10_211 : CS RX10 211 yX10_isShelf cX10_isShelf 1 1 (some .boolean) := ⟨m_157, m_45, m_155, m_156, by decide +kernel⟩
theorem w_RX10_214 : CV RX10 214 RX2 yX2_playSeason cX2_playSeason 6 1 (some .int) := ⟨m_589, m_47, m_586, m_587, m_588, by decide +kernel⟩
theorem w_RX10_217 : CV RX10 217 RX10 yX10_rowOn cX10_rowOn 2 1 (some (.object "OneBeatsBoth$Row")) := ⟨m_154, m_45, m_151, m_153, m_1, by decide +kernel⟩
theorem w_RX10_220 : CV RX10 220 RX2 yX2_wrongOfThree cX2_wrongOfThree 4 3 (some .int) := ⟨m_602, m_47, m_599, m_600, m_601, by decide +kernel⟩
theorem w_RX10_223 : CV RX10 223 RX2 yX2_allCosts cX2_allCosts 3 0 (some .int) := ⟨m_619, m_47, m_616, m_617, m_618, by decide +kernel⟩
theorem w_RX10_229 : CV RX10 229 RX8 yX8_hasPlaces cX8_hasPlaces 3 2 (some .boolean) := ⟨m_184, m_58, m_646, m_182, m_183, by decide +kernel⟩
theorem w_RX10_232 : CV RX10 232 RX8 yX8_change cX8_change 3 2 none := ⟨m_650, m_58, m_647, m_648, m_649, by decide +kernel⟩
theorem w_RX10_247 : CV RX10 247 RX10 yX10_isBare cX10_isBare 2 1 (some .boolean) := ⟨m_165, m_45, m_162, m_164, m_3, by decide +kernel⟩
theorem w_RX10_269 : CI RX10 269 yX4_init cX4_init 2 1 := ⟨m_209, m_50, m_207, m_208, rfl, by decide +kernel⟩
theorem w_RX10_272 : CI RX10 272 yX5_init cX5_init 2 1 := ⟨m_217, m_51, m_215, m_216, rfl, by decide +kernel⟩
theorem w_RX10_275 : CI RX10 275 yX1_init cX1_init 2 1 := ⟨m_225, m_52, m_223, m_224, rfl, by decide +kernel⟩
theorem w_RX10_278 : CI RX10 278 yX9_init cX9_init 2 1 := ⟨m_233, m_53, m_231, m_232, rfl, by decide +kernel⟩
theorem w_RX10_281 : CI RX10 281 yX3_init cX3_init 2 1 := ⟨m_241, m_54, m_239, m_240, rfl, by decide +kernel⟩
theorem w_RX10_284 : CI RX10 284 yX7_init cX7_init 2 1 := ⟨m_249, m_55, m_247, m_248, rfl, by decide +kernel⟩
theorem w_RX10_287 : CI RX10 287 yX0_init cX0_init 2 1 := ⟨m_257, m_56, m_255, m_256, rfl, by decide +kernel⟩
theorem w_RX10_288 : CV RX10 288 RX2 yX2_turn cX2_turn 2 1 none := ⟨m_471, m_47, m_468, m_469, m_470, by decide +kernel⟩
theorem w_RX10_294 : CV RX10 294 RX2 yX2_isAsTold cX2_isAsTold 3 1 (some .boolean) := ⟨m_557, m_47, m_554, m_555, m_556, by decide +kernel⟩
theorem w_RX10_51 : CV RX10 51 RX10 yX10_bytesOn cX10_bytesOn 3 1 (some (.object "OneBeatsBoth$Row")) := ⟨m_150, m_45, m_147, m_149, m_0, by decide +kernel⟩
theorem w_RX10_55 : CV RX10 55 RX10 yX10_whyNotOn cX10_whyNotOn 2 1 (some .int) := ⟨m_161, m_45, m_158, m_160, m_2, by decide +kernel⟩
theorem w_RX10_63 : CV RX10 63 RX2 yX2_become cX2_become 2 1 none := ⟨m_191, m_47, m_188, m_189, m_190, by decide +kernel⟩
theorem w_RX10_67 : CV RX10 67 RX8 yX8_size cX8_size 1 0 (some .int) := ⟨m_176, m_58, m_173, m_174, m_175, by decide +kernel⟩
theorem w_RX10_71 : CV RX10 71 RX8 yX8_at cX8_at 2 1 (some .int) := ⟨m_180, m_58, m_177, m_178, m_179, by decide +kernel⟩
theorem w_RX10_78 : CS RX10 78 yX10_digitsBehind cX10_digitsBehind 1 1 (some .int) := ⟨m_187, m_45, m_185, m_186, by decide +kernel⟩
theorem w_RX10_81 : CV RX10 81 RX2 yX2_has cX2_has 2 1 (some .boolean) := ⟨m_272, m_47, m_288, m_270, m_271, by decide +kernel⟩
theorem w_RX10_9 : CI RX10 9 yX6_init cX6_init 2 1 := ⟨m_77, m_46, m_75, m_76, rfl, by decide +kernel⟩
theorem w_RX11_103 : CV RX11 103 RX11 yX11_here cX11_here 1 0 (some .int) := ⟨m_888, m_48, m_885, m_887, m_13, by decide +kernel⟩
theorem w_RX11_111 : CV RX11 111 RX11 yX11_readsDigits cX11_readsDigits 3 1 (some .boolean) := ⟨m_892, m_48, m_889, m_891, m_14, by decide +kernel⟩
theorem w_RX11_114 : CV RX11 114 RX11 yX11_joins cX11_joins 5 2 none := ⟨m_909, m_48, m_906, m_908, m_17, by decide +kernel⟩
theorem w_RX11_117 : CV RX11 117 RX11 yX11_adds cX11_adds 3 2 (some .boolean) := ⟨m_905, m_48, m_902, m_904, m_16, by decide +kernel⟩
theorem w_RX11_121 : CV RX11 121 RX11 yX11_areTwo cX11_areTwo 3 2 (some .boolean) := ⟨m_921, m_48, m_918, m_920, m_20, by decide +kernel⟩
theorem w_RX11_124 : CS RX11 124 yX11_isLaw cX11_isLaw 1 1 (some .boolean) := ⟨m_932, m_48, m_930, m_931, by decide +kernel⟩
theorem w_RX11_127 : CV RX11 127 RX11 yX11_leaves cX11_leaves 4 1 none := ⟨m_937, m_48, m_934, m_936, m_23, by decide +kernel⟩
theorem w_RX11_131 : CS RX11 131 yX11_isShelf cX11_isShelf 1 1 (some .boolean) := ⟨m_876, m_48, m_874, m_875, by decide +kernel⟩
theorem w_RX11_134 : CV RX11 134 RX11 yX11_wrongRow cX11_wrongRow 3 2 (some .int) := ⟨m_873, m_48, m_870, m_872, m_11, by decide +kernel⟩
theorem w_RX11_137 : CV RX11 137 RX11 yX11_readsStatement cX11_readsStatement 3 0 (some .boolean) := ⟨m_884, m_48, m_881, m_883, m_12, by decide +kernel⟩
theorem w_RX11_141 : CV RX11 141 RX11 yX11_comesTold cX11_comesTold 3 1 (some .boolean) := ⟨m_901, m_48, m_898, m_900, m_15, by decide +kernel⟩
theorem w_RX11_144 : CV RX11 144 RX11 yX11_skill cX11_skill 2 1 (some .int) := ⟨m_953, m_48, m_950, m_952, m_26, by decide +kernel⟩
theorem w_RX11_147 : CS RX11 147 yX11_priceBy cX11_priceBy 2 2 (some .int) := ⟨m_966, m_48, m_964, m_965, by decide +kernel⟩
theorem w_RX11_150 : CV RX11 150 RX11 yX11_wrongKept cX11_wrongKept 2 1 (some .int) := ⟨m_974, m_48, m_971, m_973, m_28, by decide +kernel⟩
theorem w_RX11_153 : CV RX11 153 RX11 yX11_isLawful cX11_isLawful 3 0 (some .boolean) := ⟨m_990, m_48, m_987, m_989, m_29, by decide +kernel⟩
theorem w_RX11_156 : CV RX11 156 RX11 yX11_turns cX11_turns 3 2 none := ⟨m_1014, m_48, m_1011, m_1013, m_32, by decide +kernel⟩
theorem w_RX11_159 : CV RX11 159 RX11 yX11_turnedTo cX11_turnedTo 5 1 (some .int) := ⟨m_1010, m_48, m_1007, m_1009, m_31, by decide +kernel⟩
theorem w_RX11_177 : CV RX11 177 RX11 yX11_begins cX11_begins 1 0 none := ⟨m_1051, m_48, m_1048, m_1050, m_35, by decide +kernel⟩
theorem w_RX11_180 : CV RX11 180 RX11 yX11_ends cX11_ends 1 0 none := ⟨m_1055, m_48, m_1052, m_1054, m_36, by decide +kernel⟩
theorem w_RX11_191 : CV RX11 191 RX11 yX11_matches cX11_matches 1 0 (some .int) := ⟨m_1069, m_48, m_1066, m_1068, m_37, by decide +kernel⟩
theorem w_RX11_194 : CV RX11 194 RX11 yX11_plays cX11_plays 5 1 none := ⟨m_1073, m_48, m_1070, m_1072, m_38, by decide +kernel⟩
theorem w_RX11_207 : CS RX11 207 yX11_areBeaten cX11_areBeaten 4 3 (some .boolean) := ⟨m_1103, m_48, m_1101, m_1102, by decide +kernel⟩
theorem w_RX11_211 : CS RX11 211 yX11_isRound cX11_isRound 1 1 (some .boolean) := ⟨m_1092, m_48, m_1090, m_1091, by decide +kernel⟩
theorem w_RX11_214 : CS RX11 214 yX11_isSet cX11_isSet 3 2 (some .boolean) := ⟨m_1097, m_48, m_1095, m_1096, by decide +kernel⟩
theorem w_RX11_217 : CS RX11 217 yX11_isRoundWell cX11_isRoundWell 4 3 (some .boolean) := ⟨m_1100, m_48, m_1098, m_1099, by decide +kernel⟩
theorem w_RX11_220 : CV RX11 220 RX11 yX11_told cX11_told 3 2 (some .int) := ⟨m_1115, m_48, m_1112, m_1114, m_40, by decide +kernel⟩
theorem w_RX11_223 : CV RX11 223 RX11 yX11_isAsPlayed cX11_isAsPlayed 3 1 (some .boolean) := ⟨m_1119, m_48, m_1116, m_1118, m_41, by decide +kernel⟩
theorem w_RX11_234 : CV RX11 234 RX11 yX11_drawn cX11_drawn 2 1 (some .int) := ⟨m_1128, m_48, m_1125, m_1127, m_42, by decide +kernel⟩
theorem w_RX11_237 : CV RX11 237 RX11 yX11_wrongThree cX11_wrongThree 6 2 (some .int) := ⟨m_1139, m_48, m_1136, m_1138, m_43, by decide +kernel⟩
theorem w_RX11_49 : CS RX11 49 yX11_isIn cX11_isIn 6 3 (some .boolean) := ⟨m_880, m_48, m_878, m_879, by decide +kernel⟩
theorem w_RX11_55 : CV RX11 55 RX11 yX11_isOne cX11_isOne 2 1 (some .boolean) := ⟨m_925, m_48, m_922, m_924, m_21, by decide +kernel⟩
theorem w_RX11_59 : CS RX11 59 yX11_lays cX11_lays 3 2 none := ⟨m_897, m_48, m_895, m_896, by decide +kernel⟩
theorem w_RX11_63 : CV RX11 63 RX11 yX11_beaten cX11_beaten 2 1 (some .int) := ⟨m_917, m_48, m_914, m_916, m_19, by decide +kernel⟩
theorem w_RX11_67 : CS RX11 67 yX11_bits cX11_bits 3 1 (some .int) := ⟨m_963, m_48, m_961, m_962, by decide +kernel⟩
theorem w_RX11_70 : CV RX11 70 RX11 yX11_figure cX11_figure 2 1 (some .int) := ⟨m_949, m_48, m_946, m_948, m_25, by decide +kernel⟩
theorem w_RX11_73 : CV RX11 73 RX11 yX11_kind cX11_kind 2 1 (some .int) := ⟨m_945, m_48, m_942, m_944, m_24, by decide +kernel⟩
theorem w_RX11_76 : CS RX11 76 yX11_skillBy cX11_skillBy 2 2 (some .int) := ⟨m_956, m_48, m_954, m_955, by decide +kernel⟩
theorem w_RX11_80 : CV RX11 80 RX11 yX11_puts cX11_puts 4 3 none := ⟨m_913, m_48, m_910, m_912, m_18, by decide +kernel⟩
theorem w_RX11_84 : CV RX11 84 RX11 yX11_beats cX11_beats 3 2 none := ⟨m_929, m_48, m_926, m_928, m_22, by decide +kernel⟩
theorem w_RX11_88 : CV RX11 88 RX11 yX11_counts cX11_counts 4 1 (some .boolean) := ⟨m_960, m_48, m_957, m_959, m_27, by decide +kernel⟩
theorem w_RX11_91 : CV RX11 91 RX11 yX11_mastersOf cX11_mastersOf 4 1 (some .int) := ⟨m_994, m_48, m_991, m_993, m_30, by decide +kernel⟩
theorem w_RX1_1 : CI RX1 1 yX6_init cX6_init 2 1 := ⟨m_77, m_46, m_226, m_76, rfl, by decide +kernel⟩
theorem w_RX1_11 : CX RX1 11 yX6_cost cX6_cost 1 0 (some .int) := ⟨m_404, m_46, m_383, m_373, m_375, m_228, by decide +kernel⟩
theorem w_RX1_7 : CX RX1 7 yX6_skill cX6_skill 1 0 (some .int) := ⟨m_340, m_46, m_326, m_316, m_318, m_228, by decide +kernel⟩
theorem w_RX2_34 : CV RX2 34 RX2 yX2_has cX2_has 2 1 (some .boolean) := ⟨m_272, m_47, m_269, m_270, m_271, by decide +kernel⟩
theorem w_RX2_44 : CV RX2 44 RX2 yX2_hasBeaten cX2_hasBeaten 3 2 (some .boolean) := ⟨m_416, m_47, m_488, m_414, m_415, by decide +kernel⟩
theorem w_RX2_52 : CV RX2 52 RX2 yX2_matches cX2_matches 1 0 (some .int) := ⟨m_463, m_47, m_533, m_461, m_462, by decide +kernel⟩
theorem w_RX2_59 : CS RX2 59 yX2_drawBelow cX2_drawBelow 2 2 (some .int) := ⟨m_593, m_47, m_591, m_592, by decide +kernel⟩
theorem w_RX2_63 : CV RX2 63 RX2 yX2_win cX2_win 3 2 none := ⟨m_276, m_47, m_518, m_274, m_275, by decide +kernel⟩
theorem w_RX2_68 : CS RX2 68 yJ6_bitCount_0f7a4 cJ6_bitCount_0f7a4 1 1 (some .int) := ⟨m_347, m_57, m_345, m_346, by decide +kernel⟩
theorem w_RX2_77 : CV RX2 77 RX2 yX2_eachHasMaster cX2_eachHasMaster 3 0 (some .boolean) := ⟨m_432, m_47, m_429, m_431, m_6, by decide +kernel⟩
theorem w_RX2_81 : CV RX2 81 RX2 yX2_firstOrphanPair cX2_firstOrphanPair 4 0 (some .int) := ⟨m_441, m_47, m_438, m_439, m_440, by decide +kernel⟩
theorem w_RX2_84 : CV RX2 84 RX2 yX2_counting cX2_counting 3 0 (some .int) := ⟨m_344, m_47, m_433, m_342, m_343, by decide +kernel⟩
theorem w_RX2_87 : CV RX2 87 RX2 yX2_mastersAmong cX2_mastersAmong 4 3 (some .int) := ⟨m_437, m_47, m_434, m_435, m_436, by decide +kernel⟩
theorem w_RX2_91 : CV RX2 91 RX2 yX2_hasBoth cX2_hasBoth 3 2 (some .boolean) := ⟨m_268, m_47, m_603, m_266, m_267, by decide +kernel⟩
theorem w_RX3_1 : CI RX3 1 yX5_init cX5_init 2 1 := ⟨m_217, m_51, m_242, m_216, rfl, by decide +kernel⟩
theorem w_RX3_13 : CX RX3 13 yX5_cost cX5_cost 1 0 (some .int) := ⟨m_389, m_51, m_387, m_388, m_1183, m_244, by decide +kernel⟩
theorem w_RX4_1 : CI RX4 1 yX6_init cX6_init 2 1 := ⟨m_77, m_46, m_210, m_76, rfl, by decide +kernel⟩
theorem w_RX4_17 : CX RX4 17 yX6_cost cX6_cost 1 0 (some .int) := ⟨m_404, m_46, m_394, m_373, m_375, m_212, by decide +kernel⟩
theorem w_RX4_7 : CX RX4 7 yX6_skill cX6_skill 1 0 (some .int) := ⟨m_340, m_46, m_333, m_316, m_318, m_212, by decide +kernel⟩
theorem w_RX5_1 : CI RX5 1 yX6_init cX6_init 2 1 := ⟨m_77, m_46, m_218, m_76, rfl, by decide +kernel⟩
theorem w_RX5_7 : CX RX5 7 yX6_cost cX6_cost 1 0 (some .int) := ⟨m_404, m_46, m_390, m_373, m_375, m_220, by decide +kernel⟩
theorem w_RX7_1 : CI RX7 1 yX1_init cX1_init 2 1 := ⟨m_225, m_52, m_250, m_224, rfl, by decide +kernel⟩
theorem w_RX7_7 : CX RX7 7 yX1_cost cX1_cost 1 0 (some .int) := ⟨m_382, m_52, m_399, m_381, m_1184, m_252, by decide +kernel⟩
theorem w_RX8_17 : CV RX8 17 RX8 yX8_hasPlaces cX8_hasPlaces 3 2 (some .boolean) := ⟨m_184, m_58, m_181, m_182, m_183, by decide +kernel⟩
theorem w_RX9_1 : CI RX9 1 yX4_init cX4_init 2 1 := ⟨m_209, m_50, m_234, m_208, rfl, by decide +kernel⟩
theorem w_RX9_11 : CX RX9 11 yX4_countsWith cX4_countsWith 2 1 (some .boolean) := ⟨m_362, m_50, m_370, m_361, m_1182, m_236, by decide +kernel⟩
theorem w_RX9_15 : CX RX9 15 yX4_cost cX4_cost 1 0 (some .int) := ⟨m_393, m_50, m_403, m_392, m_1185, m_236, by decide +kernel⟩
theorem w_RX9_7 : CX RX9 7 yX4_skill cX4_skill 1 0 (some .int) := ⟨m_332, m_50, m_339, m_331, m_1181, m_236, by decide +kernel⟩
theorem wv_RX10_88_0 : CU RX10 88 RX0 "OneBeatsBoth$Player" ⟨"OneBeatsBoth$Player", "kind", "()I"⟩ yX0_kind cX0_kind 1 0 (some .int) := ⟨m_295, m_56, m_289, m_294, m_293, m_292, m_290, ⟨_, _, _, m_314⟩, by decide +kernel⟩
theorem wv_RX10_88_1 : CU RX10 88 RX1 "OneBeatsBoth$Player" ⟨"OneBeatsBoth$Player", "kind", "()I"⟩ yX1_kind cX1_kind 1 0 (some .int) := ⟨m_298, m_52, m_289, m_297, m_296, m_292, m_290, ⟨_, _, _, m_314⟩, by decide +kernel⟩
theorem wv_RX10_88_3 : CU RX10 88 RX3 "OneBeatsBoth$Player" ⟨"OneBeatsBoth$Player", "kind", "()I"⟩ yX3_kind cX3_kind 1 0 (some .int) := ⟨m_301, m_54, m_289, m_300, m_299, m_292, m_290, ⟨_, _, _, m_314⟩, by decide +kernel⟩
theorem wv_RX10_88_4 : CU RX10 88 RX4 "OneBeatsBoth$Player" ⟨"OneBeatsBoth$Player", "kind", "()I"⟩ yX4_kind cX4_kind 1 0 (some .int) := ⟨m_304, m_50, m_289, m_303, m_302, m_292, m_290, ⟨_, _, _, m_314⟩, by decide +kernel⟩
theorem wv_RX10_88_5 : CU RX10 88 RX5 "OneBeatsBoth$Player" ⟨"OneBeatsBoth$Player", "kind", "()I"⟩ yX5_kind cX5_kind 1 0 (some .int) := ⟨m_307, m_51, m_289, m_306, m_305, m_292, m_290, ⟨_, _, _, m_314⟩, by decide +kernel⟩
theorem wv_RX10_88_6 : CV RX10 88 RX6 yX6_kind cX6_kind 1 0 (some .int) := ⟨m_314, m_46, m_289, m_290, m_291, by decide +kernel⟩
theorem wv_RX10_88_7 : CU RX10 88 RX7 "OneBeatsBoth$Player" ⟨"OneBeatsBoth$Player", "kind", "()I"⟩ yX7_kind cX7_kind 1 0 (some .int) := ⟨m_310, m_55, m_289, m_309, m_308, m_292, m_290, ⟨_, _, _, m_314⟩, by decide +kernel⟩
theorem wv_RX10_88_9 : CU RX10 88 RX9 "OneBeatsBoth$Player" ⟨"OneBeatsBoth$Player", "kind", "()I"⟩ yX9_kind cX9_kind 1 0 (some .int) := ⟨m_313, m_53, m_289, m_312, m_311, m_292, m_290, ⟨_, _, _, m_314⟩, by decide +kernel⟩
theorem wv_RX10_95_0 : CU RX10 95 RX0 "OneBeatsBoth$Player" ⟨"OneBeatsBoth$Player", "skill", "()I"⟩ yX0_skill cX0_skill 1 0 (some .int) := ⟨m_321, m_56, m_315, m_320, m_319, m_318, m_316, ⟨_, _, _, m_340⟩, by decide +kernel⟩
theorem wv_RX10_95_1 : CU RX10 95 RX1 "OneBeatsBoth$Player" ⟨"OneBeatsBoth$Player", "skill", "()I"⟩ yX1_skill cX1_skill 1 0 (some .int) := ⟨m_325, m_52, m_315, m_324, m_323, m_318, m_316, ⟨_, _, _, m_340⟩, by decide +kernel⟩
theorem wv_RX10_95_3 : CU RX10 95 RX3 "OneBeatsBoth$Player" ⟨"OneBeatsBoth$Player", "skill", "()I"⟩ yX3_skill cX3_skill 1 0 (some .int) := ⟨m_329, m_54, m_315, m_328, m_327, m_318, m_316, ⟨_, _, _, m_340⟩, by decide +kernel⟩
theorem wv_RX10_95_4 : CU RX10 95 RX4 "OneBeatsBoth$Player" ⟨"OneBeatsBoth$Player", "skill", "()I"⟩ yX4_skill cX4_skill 1 0 (some .int) := ⟨m_332, m_50, m_315, m_331, m_330, m_318, m_316, ⟨_, _, _, m_340⟩, by decide +kernel⟩
theorem wv_RX10_95_5 : CU RX10 95 RX5 "OneBeatsBoth$Player" ⟨"OneBeatsBoth$Player", "skill", "()I"⟩ yX6_skill cX6_skill 1 0 (some .int) := ⟨m_340, m_46, m_315, m_316, m_334, m_318, m_316, ⟨_, _, _, m_340⟩, by decide +kernel⟩
theorem wv_RX10_95_6 : CV RX10 95 RX6 yX6_skill cX6_skill 1 0 (some .int) := ⟨m_340, m_46, m_315, m_316, m_317, by decide +kernel⟩
theorem wv_RX10_95_7 : CU RX10 95 RX7 "OneBeatsBoth$Player" ⟨"OneBeatsBoth$Player", "skill", "()I"⟩ yX1_skill cX1_skill 1 0 (some .int) := ⟨m_325, m_52, m_315, m_324, m_335, m_318, m_316, ⟨_, _, _, m_340⟩, by decide +kernel⟩
theorem wv_RX10_95_9 : CU RX10 95 RX9 "OneBeatsBoth$Player" ⟨"OneBeatsBoth$Player", "skill", "()I"⟩ yX9_skill cX9_skill 1 0 (some .int) := ⟨m_338, m_53, m_315, m_337, m_336, m_318, m_316, ⟨_, _, _, m_340⟩, by decide +kernel⟩
theorem wv_RX10_104_0 : CU RX10 104 RX0 "OneBeatsBoth$Player" ⟨"OneBeatsBoth$Player", "cost", "()I"⟩ yX0_cost cX0_cost 1 0 (some .int) := ⟨m_378, m_56, m_372, m_377, m_376, m_375, m_373, ⟨_, _, _, m_404⟩, by decide +kernel⟩
theorem wv_RX10_104_1 : CU RX10 104 RX1 "OneBeatsBoth$Player" ⟨"OneBeatsBoth$Player", "cost", "()I"⟩ yX1_cost cX1_cost 1 0 (some .int) := ⟨m_382, m_52, m_372, m_381, m_380, m_375, m_373, ⟨_, _, _, m_404⟩, by decide +kernel⟩
theorem wv_RX10_104_3 : CU RX10 104 RX3 "OneBeatsBoth$Player" ⟨"OneBeatsBoth$Player", "cost", "()I"⟩ yX3_cost cX3_cost 1 0 (some .int) := ⟨m_386, m_54, m_372, m_385, m_384, m_375, m_373, ⟨_, _, _, m_404⟩, by decide +kernel⟩
theorem wv_RX10_104_4 : CU RX10 104 RX4 "OneBeatsBoth$Player" ⟨"OneBeatsBoth$Player", "cost", "()I"⟩ yX4_cost cX4_cost 1 0 (some .int) := ⟨m_393, m_50, m_372, m_392, m_391, m_375, m_373, ⟨_, _, _, m_404⟩, by decide +kernel⟩
theorem wv_RX10_104_5 : CU RX10 104 RX5 "OneBeatsBoth$Player" ⟨"OneBeatsBoth$Player", "cost", "()I"⟩ yX5_cost cX5_cost 1 0 (some .int) := ⟨m_389, m_51, m_372, m_388, m_395, m_375, m_373, ⟨_, _, _, m_404⟩, by decide +kernel⟩
theorem wv_RX10_104_6 : CV RX10 104 RX6 yX6_cost cX6_cost 1 0 (some .int) := ⟨m_404, m_46, m_372, m_373, m_374, by decide +kernel⟩
theorem wv_RX10_104_7 : CU RX10 104 RX7 "OneBeatsBoth$Player" ⟨"OneBeatsBoth$Player", "cost", "()I"⟩ yX7_cost cX7_cost 1 0 (some .int) := ⟨m_398, m_55, m_372, m_397, m_396, m_375, m_373, ⟨_, _, _, m_404⟩, by decide +kernel⟩
theorem wv_RX10_104_9 : CU RX10 104 RX9 "OneBeatsBoth$Player" ⟨"OneBeatsBoth$Player", "cost", "()I"⟩ yX9_cost cX9_cost 1 0 (some .int) := ⟨m_402, m_53, m_372, m_401, m_400, m_375, m_373, ⟨_, _, _, m_404⟩, by decide +kernel⟩
theorem wv_RX2_48_0 : CU RX2 48 RX0 "OneBeatsBoth$Player" ⟨"OneBeatsBoth$Player", "cost", "()I"⟩ yX0_cost cX0_cost 1 0 (some .int) := ⟨m_378, m_56, m_505, m_377, m_376, m_375, m_373, ⟨_, _, _, m_404⟩, by decide +kernel⟩
theorem wv_RX2_48_1 : CU RX2 48 RX1 "OneBeatsBoth$Player" ⟨"OneBeatsBoth$Player", "cost", "()I"⟩ yX1_cost cX1_cost 1 0 (some .int) := ⟨m_382, m_52, m_505, m_381, m_380, m_375, m_373, ⟨_, _, _, m_404⟩, by decide +kernel⟩
theorem wv_RX2_48_3 : CU RX2 48 RX3 "OneBeatsBoth$Player" ⟨"OneBeatsBoth$Player", "cost", "()I"⟩ yX3_cost cX3_cost 1 0 (some .int) := ⟨m_386, m_54, m_505, m_385, m_384, m_375, m_373, ⟨_, _, _, m_404⟩, by decide +kernel⟩
theorem wv_RX2_48_4 : CU RX2 48 RX4 "OneBeatsBoth$Player" ⟨"OneBeatsBoth$Player", "cost", "()I"⟩ yX4_cost cX4_cost 1 0 (some .int) := ⟨m_393, m_50, m_505, m_392, m_391, m_375, m_373, ⟨_, _, _, m_404⟩, by decide +kernel⟩
theorem wv_RX2_48_5 : CU RX2 48 RX5 "OneBeatsBoth$Player" ⟨"OneBeatsBoth$Player", "cost", "()I"⟩ yX5_cost cX5_cost 1 0 (some .int) := ⟨m_389, m_51, m_505, m_388, m_395, m_375, m_373, ⟨_, _, _, m_404⟩, by decide +kernel⟩
theorem wv_RX2_48_6 : CV RX2 48 RX6 yX6_cost cX6_cost 1 0 (some .int) := ⟨m_404, m_46, m_505, m_373, m_374, by decide +kernel⟩
theorem wv_RX2_48_7 : CU RX2 48 RX7 "OneBeatsBoth$Player" ⟨"OneBeatsBoth$Player", "cost", "()I"⟩ yX7_cost cX7_cost 1 0 (some .int) := ⟨m_398, m_55, m_505, m_397, m_396, m_375, m_373, ⟨_, _, _, m_404⟩, by decide +kernel⟩
theorem wv_RX2_48_9 : CU RX2 48 RX9 "OneBeatsBoth$Player" ⟨"OneBeatsBoth$Player", "cost", "()I"⟩ yX9_cost cX9_cost 1 0 (some .int) := ⟨m_402, m_53, m_505, m_401, m_400, m_375, m_373, ⟨_, _, _, m_404⟩, by decide +kernel⟩
theorem wv_RX2_56_0 : CU RX2 56 RX0 "OneBeatsBoth$Player" ⟨"OneBeatsBoth$Player", "skill", "()I"⟩ yX0_skill cX0_skill 1 0 (some .int) := ⟨m_321, m_56, m_538, m_320, m_319, m_318, m_316, ⟨_, _, _, m_340⟩, by decide +kernel⟩
theorem wv_RX2_56_1 : CU RX2 56 RX1 "OneBeatsBoth$Player" ⟨"OneBeatsBoth$Player", "skill", "()I"⟩ yX1_skill cX1_skill 1 0 (some .int) := ⟨m_325, m_52, m_538, m_324, m_323, m_318, m_316, ⟨_, _, _, m_340⟩, by decide +kernel⟩
theorem wv_RX2_56_3 : CU RX2 56 RX3 "OneBeatsBoth$Player" ⟨"OneBeatsBoth$Player", "skill", "()I"⟩ yX3_skill cX3_skill 1 0 (some .int) := ⟨m_329, m_54, m_538, m_328, m_327, m_318, m_316, ⟨_, _, _, m_340⟩, by decide +kernel⟩
theorem wv_RX2_56_4 : CU RX2 56 RX4 "OneBeatsBoth$Player" ⟨"OneBeatsBoth$Player", "skill", "()I"⟩ yX4_skill cX4_skill 1 0 (some .int) := ⟨m_332, m_50, m_538, m_331, m_330, m_318, m_316, ⟨_, _, _, m_340⟩, by decide +kernel⟩
theorem wv_RX2_56_5 : CU RX2 56 RX5 "OneBeatsBoth$Player" ⟨"OneBeatsBoth$Player", "skill", "()I"⟩ yX6_skill cX6_skill 1 0 (some .int) := ⟨m_340, m_46, m_538, m_316, m_334, m_318, m_316, ⟨_, _, _, m_340⟩, by decide +kernel⟩
theorem wv_RX2_56_6 : CV RX2 56 RX6 yX6_skill cX6_skill 1 0 (some .int) := ⟨m_340, m_46, m_538, m_316, m_317, by decide +kernel⟩
theorem wv_RX2_56_7 : CU RX2 56 RX7 "OneBeatsBoth$Player" ⟨"OneBeatsBoth$Player", "skill", "()I"⟩ yX1_skill cX1_skill 1 0 (some .int) := ⟨m_325, m_52, m_538, m_324, m_335, m_318, m_316, ⟨_, _, _, m_340⟩, by decide +kernel⟩
theorem wv_RX2_56_9 : CU RX2 56 RX9 "OneBeatsBoth$Player" ⟨"OneBeatsBoth$Player", "skill", "()I"⟩ yX9_skill cX9_skill 1 0 (some .int) := ⟨m_338, m_53, m_538, m_337, m_336, m_318, m_316, ⟨_, _, _, m_340⟩, by decide +kernel⟩
theorem wv_RX2_74_0 : CU RX2 74 RX0 "OneBeatsBoth$Player" ⟨"OneBeatsBoth$Player", "countsWith", "(I)Z"⟩ yX6_countsWith cX6_countsWith 2 1 (some .boolean) := ⟨m_371, m_46, m_351, m_352, m_355, m_354, m_352, ⟨_, _, _, m_371⟩, by decide +kernel⟩
theorem wv_RX2_74_1 : CU RX2 74 RX1 "OneBeatsBoth$Player" ⟨"OneBeatsBoth$Player", "countsWith", "(I)Z"⟩ yX6_countsWith cX6_countsWith 2 1 (some .boolean) := ⟨m_371, m_46, m_351, m_352, m_356, m_354, m_352, ⟨_, _, _, m_371⟩, by decide +kernel⟩
theorem wv_RX2_74_3 : CU RX2 74 RX3 "OneBeatsBoth$Player" ⟨"OneBeatsBoth$Player", "countsWith", "(I)Z"⟩ yX3_countsWith cX3_countsWith 2 1 (some .boolean) := ⟨m_359, m_54, m_351, m_358, m_357, m_354, m_352, ⟨_, _, _, m_371⟩, by decide +kernel⟩
theorem wv_RX2_74_4 : CU RX2 74 RX4 "OneBeatsBoth$Player" ⟨"OneBeatsBoth$Player", "countsWith", "(I)Z"⟩ yX4_countsWith cX4_countsWith 2 1 (some .boolean) := ⟨m_362, m_50, m_351, m_361, m_360, m_354, m_352, ⟨_, _, _, m_371⟩, by decide +kernel⟩
theorem wv_RX2_74_5 : CU RX2 74 RX5 "OneBeatsBoth$Player" ⟨"OneBeatsBoth$Player", "countsWith", "(I)Z"⟩ yX6_countsWith cX6_countsWith 2 1 (some .boolean) := ⟨m_371, m_46, m_351, m_352, m_363, m_354, m_352, ⟨_, _, _, m_371⟩, by decide +kernel⟩
theorem wv_RX2_74_6 : CV RX2 74 RX6 yX6_countsWith cX6_countsWith 2 1 (some .boolean) := ⟨m_371, m_46, m_351, m_352, m_353, by decide +kernel⟩
theorem wv_RX2_74_7 : CU RX2 74 RX7 "OneBeatsBoth$Player" ⟨"OneBeatsBoth$Player", "countsWith", "(I)Z"⟩ yX7_countsWith cX7_countsWith 2 1 (some .boolean) := ⟨m_366, m_55, m_351, m_365, m_364, m_354, m_352, ⟨_, _, _, m_371⟩, by decide +kernel⟩
theorem wv_RX2_74_9 : CU RX2 74 RX9 "OneBeatsBoth$Player" ⟨"OneBeatsBoth$Player", "countsWith", "(I)Z"⟩ yX9_countsWith cX9_countsWith 2 1 (some .boolean) := ⟨m_369, m_53, m_351, m_368, m_367, m_354, m_352, ⟨_, _, _, m_371⟩, by decide +kernel⟩
end
section
/-! METHODS (by program): what each does, and that its bytecode does it -/
theorem b_c0_kind_0_1 : bdec cX0_kind 0 [.bipush 7] = true := by decide +kernel
theorem d_c0_kind_2 : decode cX0_kind 2 = .ok (.ireturn, 1) := by decide +kernel
def f0_kind (s0 : HM) (a0 : Nat) : Option (Int32) := some ((Int8.ofInt 7).toInt32)
set_option maxRecDepth 100000 in
set_option maxHeartbeats 4000000 in
theorem c0_kind (l : Launch) (κ : KP) (A : Nat → Prop) (s0 : HM) (a0 : Nat) {res : Int32} (hF : f0_kind s0 a0 = some res) : Met l yX0_kind (Cond.code yX0_kind cX0_kind 1 (some .int) :: WT) (rmL 0 0 0) (PP κ A [.ref a0] (HS κ A s0)) (QQ (some (.int res)) (HS κ A s0) A) 0 0 A := by
  refine met_of (own := RX0) (by decide) rfl (Nat.le_of_ble_eq_true rfl) ?_
  intro Γ E hQ hL hR hA hent hini
  have hAA : ∀ q, A q → jA Γ q := fun q h => by rw [hA]; exact h
  have hroom : ∀ (d mL : Nat) {mc ms : Nat}, d < 0 → mL ≤ 21 → (rmL d mc ms).frames + 1 ≤ (jR Γ).frames ∧ 8 + (mL + 11) + (rmL d mc ms).locals ≤ (jR Γ).locals := fun d mL mc ms h1 h2 => by rw [hR]; exact rmL_le h1 h2
  show J Γ 1 (HS κ A s0) 0 0 0 [(0, .ref a0)] []
  unfold f0_kind at hF
  refine j_blk (pc' := 2) (lv' := [(0, .ref a0)]) (st' := [.int ((Int8.ofInt 7).toInt32)]) E b_c0_kind_0_1 rfl ?_
  have e : res = (Int8.ofInt 7).toInt32 := g_inj hF
  subst e
  exact j_iret E hQ d_c0_kind_2 (fun _ h => h)
theorem b_c1_kind_0_1 : bdec cX1_kind 0 [.iconst 3] = true := by decide +kernel
theorem d_c1_kind_1 : decode cX1_kind 1 = .ok (.ireturn, 1) := by decide +kernel
def f1_kind (s0 : HM) (a0 : Nat) : Option (Int32) := some (Int32.ofInt 3)
set_option maxRecDepth 100000 in
set_option maxHeartbeats 4000000 in
theorem c1_kind (l : Launch) (κ : KP) (A : Nat → Prop) (s0 : HM) (a0 : Nat) {res : Int32} (hF : f1_kind s0 a0 = some res) : Met l yX1_kind (Cond.code yX1_kind cX1_kind 1 (some .int) :: WT) (rmL 0 0 0) (PP κ A [.ref a0] (HS κ A s0)) (QQ (some (.int res)) (HS κ A s0) A) 0 0 A := by
  refine met_of (own := RX1) (by decide) rfl (Nat.le_of_ble_eq_true rfl) ?_
  intro Γ E hQ hL hR hA hent hini
  have hAA : ∀ q, A q → jA Γ q := fun q h => by rw [hA]; exact h
  have hroom : ∀ (d mL : Nat) {mc ms : Nat}, d < 0 → mL ≤ 21 → (rmL d mc ms).frames + 1 ≤ (jR Γ).frames ∧ 8 + (mL + 11) + (rmL d mc ms).locals ≤ (jR Γ).locals := fun d mL mc ms h1 h2 => by rw [hR]; exact rmL_le h1 h2
  show J Γ 1 (HS κ A s0) 0 0 0 [(0, .ref a0)] []
  unfold f1_kind at hF
  refine j_blk (pc' := 1) (lv' := [(0, .ref a0)]) (st' := [.int (Int32.ofInt 3)]) E b_c1_kind_0_1 rfl ?_
  have e : res = Int32.ofInt 3 := g_inj hF
  subst e
  exact j_iret E hQ d_c1_kind_1 (fun _ h => h)
theorem b_c3_kind_0_1 : bdec cX3_kind 0 [.iconst 5] = true := by decide +kernel
theorem d_c3_kind_1 : decode cX3_kind 1 = .ok (.ireturn, 1) := by decide +kernel
def f3_kind (s0 : HM) (a0 : Nat) : Option (Int32) := some (Int32.ofInt 5)
set_option maxRecDepth 100000 in
set_option maxHeartbeats 4000000 in
theorem c3_kind (l : Launch) (κ : KP) (A : Nat → Prop) (s0 : HM) (a0 : Nat) {res : Int32} (hF : f3_kind s0 a0 = some res) : Met l yX3_kind (Cond.code yX3_kind cX3_kind 1 (some .int) :: WT) (rmL 0 0 0) (PP κ A [.ref a0] (HS κ A s0)) (QQ (some (.int res)) (HS κ A s0) A) 0 0 A := by
  refine met_of (own := RX3) (by decide) rfl (Nat.le_of_ble_eq_true rfl) ?_
  intro Γ E hQ hL hR hA hent hini
  have hAA : ∀ q, A q → jA Γ q := fun q h => by rw [hA]; exact h
  have hroom : ∀ (d mL : Nat) {mc ms : Nat}, d < 0 → mL ≤ 21 → (rmL d mc ms).frames + 1 ≤ (jR Γ).frames ∧ 8 + (mL + 11) + (rmL d mc ms).locals ≤ (jR Γ).locals := fun d mL mc ms h1 h2 => by rw [hR]; exact rmL_le h1 h2
  show J Γ 1 (HS κ A s0) 0 0 0 [(0, .ref a0)] []
  unfold f3_kind at hF
  refine j_blk (pc' := 1) (lv' := [(0, .ref a0)]) (st' := [.int (Int32.ofInt 5)]) E b_c3_kind_0_1 rfl ?_
  have e : res = Int32.ofInt 5 := g_inj hF
  subst e
  exact j_iret E hQ d_c3_kind_1 (fun _ h => h)
theorem b_c3_skill_0_1 : bdec cX3_skill 0 [.iconst 1] = true := by decide +kernel
theorem d_c3_skill_1 : decode cX3_skill 1 = .ok (.ireturn, 1) := by decide +kernel
def f3_skill (s0 : HM) (a0 : Nat) : Option (Int32) := some (Int32.ofInt 1)
set_option maxRecDepth 100000 in
set_option maxHeartbeats 4000000 in
theorem c3_skill (l : Launch) (κ : KP) (A : Nat → Prop) (s0 : HM) (a0 : Nat) {res : Int32} (hF : f3_skill s0 a0 = some res) : Met l yX3_skill (Cond.code yX3_skill cX3_skill 1 (some .int) :: WT) (rmL 0 0 0) (PP κ A [.ref a0] (HS κ A s0)) (QQ (some (.int res)) (HS κ A s0) A) 0 0 A := by
  refine met_of (own := RX3) (by decide) rfl (Nat.le_of_ble_eq_true rfl) ?_
  intro Γ E hQ hL hR hA hent hini
  have hAA : ∀ q, A q → jA Γ q := fun q h => by rw [hA]; exact h
  have hroom : ∀ (d mL : Nat) {mc ms : Nat}, d < 0 → mL ≤ 21 → (rmL d mc ms).frames + 1 ≤ (jR Γ).frames ∧ 8 + (mL + 11) + (rmL d mc ms).locals ≤ (jR Γ).locals := fun d mL mc ms h1 h2 => by rw [hR]; exact rmL_le h1 h2
  show J Γ 1 (HS κ A s0) 0 0 0 [(0, .ref a0)] []
  unfold f3_skill at hF
  refine j_blk (pc' := 1) (lv' := [(0, .ref a0)]) (st' := [.int (Int32.ofInt 1)]) E b_c3_skill_0_1 rfl ?_
  have e : res = Int32.ofInt 1 := g_inj hF
  subst e
  exact j_iret E hQ d_c3_skill_1 (fun _ h => h)
theorem b_c3_countsWith_0_2 : bdec cX3_countsWith 0 [.iload_n 1, .aload_n 0] = true := by decide +kernel
theorem d_c3_countsWith_2 : decode cX3_countsWith 2 = .ok (.getfield 7, 3) := by decide +kernel
theorem d_c3_countsWith_5 : decode cX3_countsWith 5 = .ok (.if_icmp .lt 7, 3) := by decide +kernel
theorem b_c3_countsWith_12_1 : bdec cX3_countsWith 12 [.iconst 0] = true := by decide +kernel
theorem d_c3_countsWith_13 : decode cX3_countsWith 13 = .ok (.ireturn, 1) := by decide +kernel
theorem b_c3_countsWith_8_1 : bdec cX3_countsWith 8 [.iconst 1] = true := by decide +kernel
theorem d_c3_countsWith_9 : decode cX3_countsWith 9 = .ok (.goto 4, 3) := by decide +kernel
def f3_countsWith (s0 : HM) (a0 : Nat) (p1 : Int32) : Option (Int32) := obd (hfi s0 sP 0 a0) (fun v1 => if p1 < v1 then (some (Int32.ofInt 0)) else (some (Int32.ofInt 1)))
set_option maxRecDepth 100000 in
set_option maxHeartbeats 4000000 in
theorem c3_countsWith (l : Launch) (κ : KP) (A : Nat → Prop) (s0 : HM) (a0 : Nat) (p1 : Int32) {res : Int32} (hF : f3_countsWith s0 a0 p1 = some res) : Met l yX3_countsWith (Cond.code yX3_countsWith cX3_countsWith 2 (some .boolean) :: WT) (rmL 0 0 0) (PP κ A [.ref a0, .int p1] (HS κ A s0)) (QQ (some (.int res)) (HS κ A s0) A) 0 0 A := by
  refine met_of (own := RX3) (by decide) rfl (Nat.le_of_ble_eq_true rfl) ?_
  intro Γ E hQ hL hR hA hent hini
  have hAA : ∀ q, A q → jA Γ q := fun q h => by rw [hA]; exact h
  have hroom : ∀ (d mL : Nat) {mc ms : Nat}, d < 0 → mL ≤ 21 → (rmL d mc ms).frames + 1 ≤ (jR Γ).frames ∧ 8 + (mL + 11) + (rmL d mc ms).locals ≤ (jR Γ).locals := fun d mL mc ms h1 h2 => by rw [hR]; exact rmL_le h1 h2
  show J Γ 2 (HS κ A s0) 0 0 0 [(0, .ref a0), (1, .int p1)] []
  unfold f3_countsWith at hF
  refine j_blk (pc' := 2) (lv' := [(0, .ref a0), (1, .int p1)]) (st' := [.ref a0, .int p1]) E b_c3_countsWith_0_2 rfl ?_
  obtain ⟨v1, ev1, hF⟩ := obd_at hF
  refine j_getI E fg_RX3_7 d_c3_countsWith_2 ev1 ?_
  refine j_icmp_lt (tgt := 12) E d_c3_countsWith_5 (by decide) (fun h2 => ?_) (fun h2 => ?_)
  · have hF := g_t hF h2
    refine j_blk (pc' := 13) (lv' := [(0, .ref a0), (1, .int p1)]) (st' := [.int (Int32.ofInt 0)]) E b_c3_countsWith_12_1 rfl ?_
    have e : res = Int32.ofInt 0 := g_inj hF
    subst e
    exact j_zret E hQ nb_0 d_c3_countsWith_13 (fun _ h => h)
  · have hF := g_f hF h2
    refine j_blk (pc' := 9) (lv' := [(0, .ref a0), (1, .int p1)]) (st' := [.int (Int32.ofInt 1)]) E b_c3_countsWith_8_1 rfl ?_
    refine j_goto (tgt := 13) E d_c3_countsWith_9 (by decide) ?_
    have e : res = Int32.ofInt 1 := g_inj hF
    subst e
    exact j_zret E hQ nb_1 d_c3_countsWith_13 (fun _ h => h)
theorem b_c4_kind_0_1 : bdec cX4_kind 0 [.iconst 1] = true := by decide +kernel
theorem d_c4_kind_1 : decode cX4_kind 1 = .ok (.ireturn, 1) := by decide +kernel
def f4_kind (s0 : HM) (a0 : Nat) : Option (Int32) := some (Int32.ofInt 1)
set_option maxRecDepth 100000 in
set_option maxHeartbeats 4000000 in
theorem c4_kind (l : Launch) (κ : KP) (A : Nat → Prop) (s0 : HM) (a0 : Nat) {res : Int32} (hF : f4_kind s0 a0 = some res) : Met l yX4_kind (Cond.code yX4_kind cX4_kind 1 (some .int) :: WT) (rmL 0 0 0) (PP κ A [.ref a0] (HS κ A s0)) (QQ (some (.int res)) (HS κ A s0) A) 0 0 A := by
  refine met_of (own := RX4) (by decide) rfl (Nat.le_of_ble_eq_true rfl) ?_
  intro Γ E hQ hL hR hA hent hini
  have hAA : ∀ q, A q → jA Γ q := fun q h => by rw [hA]; exact h
  have hroom : ∀ (d mL : Nat) {mc ms : Nat}, d < 0 → mL ≤ 21 → (rmL d mc ms).frames + 1 ≤ (jR Γ).frames ∧ 8 + (mL + 11) + (rmL d mc ms).locals ≤ (jR Γ).locals := fun d mL mc ms h1 h2 => by rw [hR]; exact rmL_le h1 h2
  show J Γ 1 (HS κ A s0) 0 0 0 [(0, .ref a0)] []
  unfold f4_kind at hF
  refine j_blk (pc' := 1) (lv' := [(0, .ref a0)]) (st' := [.int (Int32.ofInt 1)]) E b_c4_kind_0_1 rfl ?_
  have e : res = Int32.ofInt 1 := g_inj hF
  subst e
  exact j_iret E hQ d_c4_kind_1 (fun _ h => h)
theorem b_c4_countsWith_0_2 : bdec cX4_countsWith 0 [.iload_n 1, .aload_n 0] = true := by decide +kernel
theorem d_c4_countsWith_2 : decode cX4_countsWith 2 = .ok (.getfield 11, 3) := by decide +kernel
theorem d_c4_countsWith_5 : decode cX4_countsWith 5 = .ok (.if_icmp .gt 7, 3) := by decide +kernel
theorem b_c4_countsWith_12_1 : bdec cX4_countsWith 12 [.iconst 0] = true := by decide +kernel
theorem d_c4_countsWith_13 : decode cX4_countsWith 13 = .ok (.ireturn, 1) := by decide +kernel
theorem b_c4_countsWith_8_1 : bdec cX4_countsWith 8 [.iconst 1] = true := by decide +kernel
theorem d_c4_countsWith_9 : decode cX4_countsWith 9 = .ok (.goto 4, 3) := by decide +kernel
def f4_countsWith (s0 : HM) (a0 : Nat) (p1 : Int32) : Option (Int32) := obd (hfi s0 sP 0 a0) (fun v1 => if v1 < p1 then (some (Int32.ofInt 0)) else (some (Int32.ofInt 1)))
set_option maxRecDepth 100000 in
set_option maxHeartbeats 4000000 in
theorem c4_countsWith (l : Launch) (κ : KP) (A : Nat → Prop) (s0 : HM) (a0 : Nat) (p1 : Int32) {res : Int32} (hF : f4_countsWith s0 a0 p1 = some res) : Met l yX4_countsWith (Cond.code yX4_countsWith cX4_countsWith 2 (some .boolean) :: WT) (rmL 0 0 0) (PP κ A [.ref a0, .int p1] (HS κ A s0)) (QQ (some (.int res)) (HS κ A s0) A) 0 0 A := by
  refine met_of (own := RX4) (by decide) rfl (Nat.le_of_ble_eq_true rfl) ?_
  intro Γ E hQ hL hR hA hent hini
  have hAA : ∀ q, A q → jA Γ q := fun q h => by rw [hA]; exact h
  have hroom : ∀ (d mL : Nat) {mc ms : Nat}, d < 0 → mL ≤ 21 → (rmL d mc ms).frames + 1 ≤ (jR Γ).frames ∧ 8 + (mL + 11) + (rmL d mc ms).locals ≤ (jR Γ).locals := fun d mL mc ms h1 h2 => by rw [hR]; exact rmL_le h1 h2
  show J Γ 2 (HS κ A s0) 0 0 0 [(0, .ref a0), (1, .int p1)] []
  unfold f4_countsWith at hF
  refine j_blk (pc' := 2) (lv' := [(0, .ref a0), (1, .int p1)]) (st' := [.ref a0, .int p1]) E b_c4_countsWith_0_2 rfl ?_
  obtain ⟨v1, ev1, hF⟩ := obd_at hF
  refine j_getI E fg_RX4_11 d_c4_countsWith_2 ev1 ?_
  refine j_icmp_gt (tgt := 12) E d_c4_countsWith_5 (by decide) (fun h2 => ?_) (fun h2 => ?_)
  · have hF := g_t hF h2
    refine j_blk (pc' := 13) (lv' := [(0, .ref a0), (1, .int p1)]) (st' := [.int (Int32.ofInt 0)]) E b_c4_countsWith_12_1 rfl ?_
    have e : res = Int32.ofInt 0 := g_inj hF
    subst e
    exact j_zret E hQ nb_0 d_c4_countsWith_13 (fun _ h => h)
  · have hF := g_f hF h2
    refine j_blk (pc' := 9) (lv' := [(0, .ref a0), (1, .int p1)]) (st' := [.int (Int32.ofInt 1)]) E b_c4_countsWith_8_1 rfl ?_
    refine j_goto (tgt := 13) E d_c4_countsWith_9 (by decide) ?_
    have e : res = Int32.ofInt 1 := g_inj hF
    subst e
    exact j_zret E hQ nb_1 d_c4_countsWith_13 (fun _ h => h)
theorem b_c5_kind_0_1 : bdec cX5_kind 0 [.iconst 2] = true := by decide +kernel
theorem d_c5_kind_1 : decode cX5_kind 1 = .ok (.ireturn, 1) := by decide +kernel
def f5_kind (s0 : HM) (a0 : Nat) : Option (Int32) := some (Int32.ofInt 2)
set_option maxRecDepth 100000 in
set_option maxHeartbeats 4000000 in
theorem c5_kind (l : Launch) (κ : KP) (A : Nat → Prop) (s0 : HM) (a0 : Nat) {res : Int32} (hF : f5_kind s0 a0 = some res) : Met l yX5_kind (Cond.code yX5_kind cX5_kind 1 (some .int) :: WT) (rmL 0 0 0) (PP κ A [.ref a0] (HS κ A s0)) (QQ (some (.int res)) (HS κ A s0) A) 0 0 A := by
  refine met_of (own := RX5) (by decide) rfl (Nat.le_of_ble_eq_true rfl) ?_
  intro Γ E hQ hL hR hA hent hini
  have hAA : ∀ q, A q → jA Γ q := fun q h => by rw [hA]; exact h
  have hroom : ∀ (d mL : Nat) {mc ms : Nat}, d < 0 → mL ≤ 21 → (rmL d mc ms).frames + 1 ≤ (jR Γ).frames ∧ 8 + (mL + 11) + (rmL d mc ms).locals ≤ (jR Γ).locals := fun d mL mc ms h1 h2 => by rw [hR]; exact rmL_le h1 h2
  show J Γ 1 (HS κ A s0) 0 0 0 [(0, .ref a0)] []
  unfold f5_kind at hF
  refine j_blk (pc' := 1) (lv' := [(0, .ref a0)]) (st' := [.int (Int32.ofInt 2)]) E b_c5_kind_0_1 rfl ?_
  have e : res = Int32.ofInt 2 := g_inj hF
  subst e
  exact j_iret E hQ d_c5_kind_1 (fun _ h => h)
theorem b_c6_kind_0_1 : bdec cX6_kind 0 [.iconst 0] = true := by decide +kernel
theorem d_c6_kind_1 : decode cX6_kind 1 = .ok (.ireturn, 1) := by decide +kernel
def f6_kind (s0 : HM) (a0 : Nat) : Option (Int32) := some (Int32.ofInt 0)
set_option maxRecDepth 100000 in
set_option maxHeartbeats 4000000 in
theorem c6_kind (l : Launch) (κ : KP) (A : Nat → Prop) (s0 : HM) (a0 : Nat) {res : Int32} (hF : f6_kind s0 a0 = some res) : Met l yX6_kind (Cond.code yX6_kind cX6_kind 1 (some .int) :: WT) (rmL 0 0 0) (PP κ A [.ref a0] (HS κ A s0)) (QQ (some (.int res)) (HS κ A s0) A) 0 0 A := by
  refine met_of (own := RX6) (by decide) rfl (Nat.le_of_ble_eq_true rfl) ?_
  intro Γ E hQ hL hR hA hent hini
  have hAA : ∀ q, A q → jA Γ q := fun q h => by rw [hA]; exact h
  have hroom : ∀ (d mL : Nat) {mc ms : Nat}, d < 0 → mL ≤ 21 → (rmL d mc ms).frames + 1 ≤ (jR Γ).frames ∧ 8 + (mL + 11) + (rmL d mc ms).locals ≤ (jR Γ).locals := fun d mL mc ms h1 h2 => by rw [hR]; exact rmL_le h1 h2
  show J Γ 1 (HS κ A s0) 0 0 0 [(0, .ref a0)] []
  unfold f6_kind at hF
  refine j_blk (pc' := 1) (lv' := [(0, .ref a0)]) (st' := [.int (Int32.ofInt 0)]) E b_c6_kind_0_1 rfl ?_
  have e : res = Int32.ofInt 0 := g_inj hF
  subst e
  exact j_iret E hQ d_c6_kind_1 (fun _ h => h)
theorem b_c6_skill_0_1 : bdec cX6_skill 0 [.aload_n 0] = true := by decide +kernel
theorem d_c6_skill_1 : decode cX6_skill 1 = .ok (.getfield 7, 3) := by decide +kernel
theorem b_c6_skill_4_2 : bdec cX6_skill 4 [.iconst 1, .iadd] = true := by decide +kernel
theorem d_c6_skill_6 : decode cX6_skill 6 = .ok (.ireturn, 1) := by decide +kernel
def f6_skill (s0 : HM) (a0 : Nat) : Option (Int32) := obd (hfi s0 sP 0 a0) (fun v1 => some (v1 + (Int32.ofInt 1)))
set_option maxRecDepth 100000 in
set_option maxHeartbeats 4000000 in
theorem c6_skill (l : Launch) (κ : KP) (A : Nat → Prop) (s0 : HM) (a0 : Nat) {res : Int32} (hF : f6_skill s0 a0 = some res) : Met l yX6_skill (Cond.code yX6_skill cX6_skill 1 (some .int) :: WT) (rmL 0 0 0) (PP κ A [.ref a0] (HS κ A s0)) (QQ (some (.int res)) (HS κ A s0) A) 0 0 A := by
  refine met_of (own := RX6) (by decide) rfl (Nat.le_of_ble_eq_true rfl) ?_
  intro Γ E hQ hL hR hA hent hini
  have hAA : ∀ q, A q → jA Γ q := fun q h => by rw [hA]; exact h
  have hroom : ∀ (d mL : Nat) {mc ms : Nat}, d < 0 → mL ≤ 21 → (rmL d mc ms).frames + 1 ≤ (jR Γ).frames ∧ 8 + (mL + 11) + (rmL d mc ms).locals ≤ (jR Γ).locals := fun d mL mc ms h1 h2 => by rw [hR]; exact rmL_le h1 h2
  show J Γ 1 (HS κ A s0) 0 0 0 [(0, .ref a0)] []
  unfold f6_skill at hF
  refine j_blk (pc' := 1) (lv' := [(0, .ref a0)]) (st' := [.ref a0]) E b_c6_skill_0_1 rfl ?_
  obtain ⟨v1, ev1, hF⟩ := obd_at hF
  refine j_getI E fg_RX6_7 d_c6_skill_1 ev1 ?_
  refine j_blk (pc' := 6) (lv' := [(0, .ref a0)]) (st' := [.int (v1 + (Int32.ofInt 1))]) E b_c6_skill_4_2 rfl ?_
  have e : res = v1 + (Int32.ofInt 1) := g_inj hF
  subst e
  exact j_iret E hQ d_c6_skill_6 (fun _ h => h)
theorem b_c6_countsWith_0_1 : bdec cX6_countsWith 0 [.iconst 1] = true := by decide +kernel
theorem d_c6_countsWith_1 : decode cX6_countsWith 1 = .ok (.ireturn, 1) := by decide +kernel
def f6_countsWith (s0 : HM) (a0 : Nat) (p1 : Int32) : Option (Int32) := some (Int32.ofInt 1)
set_option maxRecDepth 100000 in
set_option maxHeartbeats 4000000 in
theorem c6_countsWith (l : Launch) (κ : KP) (A : Nat → Prop) (s0 : HM) (a0 : Nat) (p1 : Int32) {res : Int32} (hF : f6_countsWith s0 a0 p1 = some res) : Met l yX6_countsWith (Cond.code yX6_countsWith cX6_countsWith 2 (some .boolean) :: WT) (rmL 0 0 0) (PP κ A [.ref a0, .int p1] (HS κ A s0)) (QQ (some (.int res)) (HS κ A s0) A) 0 0 A := by
  refine met_of (own := RX6) (by decide) rfl (Nat.le_of_ble_eq_true rfl) ?_
  intro Γ E hQ hL hR hA hent hini
  have hAA : ∀ q, A q → jA Γ q := fun q h => by rw [hA]; exact h
  have hroom : ∀ (d mL : Nat) {mc ms : Nat}, d < 0 → mL ≤ 21 → (rmL d mc ms).frames + 1 ≤ (jR Γ).frames ∧ 8 + (mL + 11) + (rmL d mc ms).locals ≤ (jR Γ).locals := fun d mL mc ms h1 h2 => by rw [hR]; exact rmL_le h1 h2
  show J Γ 2 (HS κ A s0) 0 0 0 [(0, .ref a0), (1, .int p1)] []
  unfold f6_countsWith at hF
  refine j_blk (pc' := 1) (lv' := [(0, .ref a0), (1, .int p1)]) (st' := [.int (Int32.ofInt 1)]) E b_c6_countsWith_0_1 rfl ?_
  have e : res = Int32.ofInt 1 := g_inj hF
  subst e
  exact j_zret E hQ nb_1 d_c6_countsWith_1 (fun _ h => h)
theorem b_c6_cost_0_1 : bdec cX6_cost 0 [.iconst 3] = true := by decide +kernel
theorem d_c6_cost_1 : decode cX6_cost 1 = .ok (.ireturn, 1) := by decide +kernel
def f6_cost (s0 : HM) (a0 : Nat) : Option (Int32) := some (Int32.ofInt 3)
set_option maxRecDepth 100000 in
set_option maxHeartbeats 4000000 in
theorem c6_cost (l : Launch) (κ : KP) (A : Nat → Prop) (s0 : HM) (a0 : Nat) {res : Int32} (hF : f6_cost s0 a0 = some res) : Met l yX6_cost (Cond.code yX6_cost cX6_cost 1 (some .int) :: WT) (rmL 0 0 0) (PP κ A [.ref a0] (HS κ A s0)) (QQ (some (.int res)) (HS κ A s0) A) 0 0 A := by
  refine met_of (own := RX6) (by decide) rfl (Nat.le_of_ble_eq_true rfl) ?_
  intro Γ E hQ hL hR hA hent hini
  have hAA : ∀ q, A q → jA Γ q := fun q h => by rw [hA]; exact h
  have hroom : ∀ (d mL : Nat) {mc ms : Nat}, d < 0 → mL ≤ 21 → (rmL d mc ms).frames + 1 ≤ (jR Γ).frames ∧ 8 + (mL + 11) + (rmL d mc ms).locals ≤ (jR Γ).locals := fun d mL mc ms h1 h2 => by rw [hR]; exact rmL_le h1 h2
  show J Γ 1 (HS κ A s0) 0 0 0 [(0, .ref a0)] []
  unfold f6_cost at hF
  refine j_blk (pc' := 1) (lv' := [(0, .ref a0)]) (st' := [.int (Int32.ofInt 3)]) E b_c6_cost_0_1 rfl ?_
  have e : res = Int32.ofInt 3 := g_inj hF
  subst e
  exact j_iret E hQ d_c6_cost_1 (fun _ h => h)
theorem b_c7_kind_0_1 : bdec cX7_kind 0 [.bipush 6] = true := by decide +kernel
theorem d_c7_kind_2 : decode cX7_kind 2 = .ok (.ireturn, 1) := by decide +kernel
def f7_kind (s0 : HM) (a0 : Nat) : Option (Int32) := some ((Int8.ofInt 6).toInt32)
set_option maxRecDepth 100000 in
set_option maxHeartbeats 4000000 in
theorem c7_kind (l : Launch) (κ : KP) (A : Nat → Prop) (s0 : HM) (a0 : Nat) {res : Int32} (hF : f7_kind s0 a0 = some res) : Met l yX7_kind (Cond.code yX7_kind cX7_kind 1 (some .int) :: WT) (rmL 0 0 0) (PP κ A [.ref a0] (HS κ A s0)) (QQ (some (.int res)) (HS κ A s0) A) 0 0 A := by
  refine met_of (own := RX7) (by decide) rfl (Nat.le_of_ble_eq_true rfl) ?_
  intro Γ E hQ hL hR hA hent hini
  have hAA : ∀ q, A q → jA Γ q := fun q h => by rw [hA]; exact h
  have hroom : ∀ (d mL : Nat) {mc ms : Nat}, d < 0 → mL ≤ 21 → (rmL d mc ms).frames + 1 ≤ (jR Γ).frames ∧ 8 + (mL + 11) + (rmL d mc ms).locals ≤ (jR Γ).locals := fun d mL mc ms h1 h2 => by rw [hR]; exact rmL_le h1 h2
  show J Γ 1 (HS κ A s0) 0 0 0 [(0, .ref a0)] []
  unfold f7_kind at hF
  refine j_blk (pc' := 2) (lv' := [(0, .ref a0)]) (st' := [.int ((Int8.ofInt 6).toInt32)]) E b_c7_kind_0_1 rfl ?_
  have e : res = (Int8.ofInt 6).toInt32 := g_inj hF
  subst e
  exact j_iret E hQ d_c7_kind_2 (fun _ h => h)
theorem b_c7_countsWith_0_1 : bdec cX7_countsWith 0 [.iconst 0] = true := by decide +kernel
theorem d_c7_countsWith_1 : decode cX7_countsWith 1 = .ok (.ireturn, 1) := by decide +kernel
def f7_countsWith (s0 : HM) (a0 : Nat) (p1 : Int32) : Option (Int32) := some (Int32.ofInt 0)
set_option maxRecDepth 100000 in
set_option maxHeartbeats 4000000 in
theorem c7_countsWith (l : Launch) (κ : KP) (A : Nat → Prop) (s0 : HM) (a0 : Nat) (p1 : Int32) {res : Int32} (hF : f7_countsWith s0 a0 p1 = some res) : Met l yX7_countsWith (Cond.code yX7_countsWith cX7_countsWith 2 (some .boolean) :: WT) (rmL 0 0 0) (PP κ A [.ref a0, .int p1] (HS κ A s0)) (QQ (some (.int res)) (HS κ A s0) A) 0 0 A := by
  refine met_of (own := RX7) (by decide) rfl (Nat.le_of_ble_eq_true rfl) ?_
  intro Γ E hQ hL hR hA hent hini
  have hAA : ∀ q, A q → jA Γ q := fun q h => by rw [hA]; exact h
  have hroom : ∀ (d mL : Nat) {mc ms : Nat}, d < 0 → mL ≤ 21 → (rmL d mc ms).frames + 1 ≤ (jR Γ).frames ∧ 8 + (mL + 11) + (rmL d mc ms).locals ≤ (jR Γ).locals := fun d mL mc ms h1 h2 => by rw [hR]; exact rmL_le h1 h2
  show J Γ 2 (HS κ A s0) 0 0 0 [(0, .ref a0), (1, .int p1)] []
  unfold f7_countsWith at hF
  refine j_blk (pc' := 1) (lv' := [(0, .ref a0), (1, .int p1)]) (st' := [.int (Int32.ofInt 0)]) E b_c7_countsWith_0_1 rfl ?_
  have e : res = Int32.ofInt 0 := g_inj hF
  subst e
  exact j_zret E hQ nb_0 d_c7_countsWith_1 (fun _ h => h)
theorem b_c8_size_0_1 : bdec cX8_size 0 [.aload_n 0] = true := by decide +kernel
theorem d_c8_size_1 : decode cX8_size 1 = .ok (.getfield 13, 3) := by decide +kernel
theorem d_c8_size_4 : decode cX8_size 4 = .ok (.arraylength, 1) := by decide +kernel
theorem d_c8_size_5 : decode cX8_size 5 = .ok (.ireturn, 1) := by decide +kernel
def f8_size (s0 : HM) (a0 : Nat) : Option (Int32) := obd (hfld s0 [8] 1 a0) (fun v1 => orf v1 (fun b2 => obd (hlen s0 b2) (fun v3 => some v3)))
set_option maxRecDepth 100000 in
set_option maxHeartbeats 4000000 in
theorem c8_size (l : Launch) (κ : KP) (A : Nat → Prop) (s0 : HM) (a0 : Nat) {res : Int32} (hF : f8_size s0 a0 = some res) : Met l yX8_size (Cond.code yX8_size cX8_size 1 (some .int) :: WT) (rmL 0 0 0) (PP κ A [.ref a0] (HS κ A s0)) (QQ (some (.int res)) (HS κ A s0) A) 0 0 A := by
  refine met_of (own := RX8) (by decide) rfl (Nat.le_of_ble_eq_true rfl) ?_
  intro Γ E hQ hL hR hA hent hini
  have hAA : ∀ q, A q → jA Γ q := fun q h => by rw [hA]; exact h
  have hroom : ∀ (d mL : Nat) {mc ms : Nat}, d < 0 → mL ≤ 21 → (rmL d mc ms).frames + 1 ≤ (jR Γ).frames ∧ 8 + (mL + 11) + (rmL d mc ms).locals ≤ (jR Γ).locals := fun d mL mc ms h1 h2 => by rw [hR]; exact rmL_le h1 h2
  show J Γ 1 (HS κ A s0) 0 0 0 [(0, .ref a0)] []
  unfold f8_size at hF
  refine j_blk (pc' := 1) (lv' := [(0, .ref a0)]) (st' := [.ref a0]) E b_c8_size_0_1 rfl ?_
  obtain ⟨v1, ev1, hF⟩ := obd_at hF
  refine j_getf E fg_RX8_13 d_c8_size_1 ev1 ?_
  obtain ⟨b2, rfl, hF⟩ := orf_at hF
  obtain ⟨v3, ev3, hF⟩ := obd_at hF
  refine j_alen E d_c8_size_4 ev3 ?_
  have e : res = v3 := g_inj hF
  subst e
  exact j_iret E hQ d_c8_size_5 (fun _ h => h)
theorem b_c8_hasPlaces_0_1 : bdec cX8_hasPlaces 0 [.iload_n 1] = true := by decide +kernel
theorem d_c8_hasPlaces_1 : decode cX8_hasPlaces 1 = .ok (.ifCond .lt 31, 3) := by decide +kernel
theorem b_c8_hasPlaces_32_1 : bdec cX8_hasPlaces 32 [.iconst 0] = true := by decide +kernel
theorem d_c8_hasPlaces_33 : decode cX8_hasPlaces 33 = .ok (.ireturn, 1) := by decide +kernel
theorem b_c8_hasPlaces_4_1 : bdec cX8_hasPlaces 4 [.iload_n 2] = true := by decide +kernel
theorem d_c8_hasPlaces_5 : decode cX8_hasPlaces 5 = .ok (.ifCond .lt 27, 3) := by decide +kernel
theorem b_c8_hasPlaces_8_2 : bdec cX8_hasPlaces 8 [.iload_n 2, .aload_n 0] = true := by decide +kernel
theorem d_c8_hasPlaces_10 : decode cX8_hasPlaces 10 = .ok (.getfield 13, 3) := by decide +kernel
theorem d_c8_hasPlaces_13 : decode cX8_hasPlaces 13 = .ok (.arraylength, 1) := by decide +kernel
theorem d_c8_hasPlaces_14 : decode cX8_hasPlaces 14 = .ok (.if_icmp .gt 18, 3) := by decide +kernel
theorem b_c8_hasPlaces_17_2 : bdec cX8_hasPlaces 17 [.iload_n 1, .aload_n 0] = true := by decide +kernel
theorem d_c8_hasPlaces_19 : decode cX8_hasPlaces 19 = .ok (.getfield 13, 3) := by decide +kernel
theorem d_c8_hasPlaces_22 : decode cX8_hasPlaces 22 = .ok (.arraylength, 1) := by decide +kernel
theorem b_c8_hasPlaces_23_2 : bdec cX8_hasPlaces 23 [.iload_n 2, .isub] = true := by decide +kernel
theorem d_c8_hasPlaces_25 : decode cX8_hasPlaces 25 = .ok (.if_icmp .gt 7, 3) := by decide +kernel
theorem b_c8_hasPlaces_28_1 : bdec cX8_hasPlaces 28 [.iconst 1] = true := by decide +kernel
theorem d_c8_hasPlaces_29 : decode cX8_hasPlaces 29 = .ok (.goto 4, 3) := by decide +kernel
def f8_hasPlaces (s0 : HM) (a0 : Nat) (p1 : Int32) (p2 : Int32) : Option (Int32) := if p1 < 0 then (some (Int32.ofInt 0)) else (if p2 < 0 then (some (Int32.ofInt 0)) else (obd (hfld s0 [8] 1 a0) (fun v3 => orf v3 (fun b4 => obd (hlen s0 b4) (fun v5 => if v5 < p2 then (some (Int32.ofInt 0)) else (obd (hfld s0 [8] 1 a0) (fun v7 => orf v7 (fun b8 => obd (hlen s0 b8) (fun v9 => if (v9 - p2) < p1 then (some (Int32.ofInt 0)) else (some (Int32.ofInt 1)))))))))))
set_option maxRecDepth 100000 in
set_option maxHeartbeats 4000000 in
theorem c8_hasPlaces (l : Launch) (κ : KP) (A : Nat → Prop) (s0 : HM) (a0 : Nat) (p1 : Int32) (p2 : Int32) {res : Int32} (hF : f8_hasPlaces s0 a0 p1 p2 = some res) : Met l yX8_hasPlaces (Cond.code yX8_hasPlaces cX8_hasPlaces 3 (some .boolean) :: WT) (rmL 0 0 0) (PP κ A [.ref a0, .int p1, .int p2] (HS κ A s0)) (QQ (some (.int res)) (HS κ A s0) A) 0 0 A := by
  refine met_of (own := RX8) (by decide) rfl (Nat.le_of_ble_eq_true rfl) ?_
  intro Γ E hQ hL hR hA hent hini
  have hAA : ∀ q, A q → jA Γ q := fun q h => by rw [hA]; exact h
  have hroom : ∀ (d mL : Nat) {mc ms : Nat}, d < 0 → mL ≤ 21 → (rmL d mc ms).frames + 1 ≤ (jR Γ).frames ∧ 8 + (mL + 11) + (rmL d mc ms).locals ≤ (jR Γ).locals := fun d mL mc ms h1 h2 => by rw [hR]; exact rmL_le h1 h2
  show J Γ 3 (HS κ A s0) 0 0 0 [(0, .ref a0), (1, .int p1), (2, .int p2)] []
  unfold f8_hasPlaces at hF
  refine j_blk (pc' := 1) (lv' := [(0, .ref a0), (1, .int p1), (2, .int p2)]) (st' := [.int p1]) E b_c8_hasPlaces_0_1 rfl ?_
  refine j_if_lt (tgt := 32) E d_c8_hasPlaces_1 (by decide) (fun h1 => ?_) (fun h1 => ?_)
  · have hF := g_t hF h1
    refine j_blk (pc' := 33) (lv' := [(0, .ref a0), (1, .int p1), (2, .int p2)]) (st' := [.int (Int32.ofInt 0)]) E b_c8_hasPlaces_32_1 rfl ?_
    have e : res = Int32.ofInt 0 := g_inj hF
    subst e
    exact j_zret E hQ nb_0 d_c8_hasPlaces_33 (fun _ h => h)
  · have hF := g_f hF h1
    refine j_blk (pc' := 5) (lv' := [(0, .ref a0), (1, .int p1), (2, .int p2)]) (st' := [.int p2]) E b_c8_hasPlaces_4_1 rfl ?_
    refine j_if_lt (tgt := 32) E d_c8_hasPlaces_5 (by decide) (fun h2 => ?_) (fun h2 => ?_)
    · have hF := g_t hF h2
      refine j_blk (pc' := 33) (lv' := [(0, .ref a0), (1, .int p1), (2, .int p2)]) (st' := [.int (Int32.ofInt 0)]) E b_c8_hasPlaces_32_1 rfl ?_
      have e : res = Int32.ofInt 0 := g_inj hF
      subst e
      exact j_zret E hQ nb_0 d_c8_hasPlaces_33 (fun _ h => h)
    · have hF := g_f hF h2
      refine j_blk (pc' := 10) (lv' := [(0, .ref a0), (1, .int p1), (2, .int p2)]) (st' := [.ref a0, .int p2]) E b_c8_hasPlaces_8_2 rfl ?_
      obtain ⟨v3, ev3, hF⟩ := obd_at hF
      refine j_getf E fg_RX8_13 d_c8_hasPlaces_10 ev3 ?_
      obtain ⟨b4, rfl, hF⟩ := orf_at hF
      obtain ⟨v5, ev5, hF⟩ := obd_at hF
      refine j_alen E d_c8_hasPlaces_13 ev5 ?_
      refine j_icmp_gt (tgt := 32) E d_c8_hasPlaces_14 (by decide) (fun h6 => ?_) (fun h6 => ?_)
      · have hF := g_t hF h6
        refine j_blk (pc' := 33) (lv' := [(0, .ref a0), (1, .int p1), (2, .int p2)]) (st' := [.int (Int32.ofInt 0)]) E b_c8_hasPlaces_32_1 rfl ?_
        have e : res = Int32.ofInt 0 := g_inj hF
        subst e
        exact j_zret E hQ nb_0 d_c8_hasPlaces_33 (fun _ h => h)
      · have hF := g_f hF h6
        refine j_blk (pc' := 19) (lv' := [(0, .ref a0), (1, .int p1), (2, .int p2)]) (st' := [.ref a0, .int p1]) E b_c8_hasPlaces_17_2 rfl ?_
        obtain ⟨v7, ev7, hF⟩ := obd_at hF
        refine j_getf E fg_RX8_13 d_c8_hasPlaces_19 ev7 ?_
        obtain ⟨b8, rfl, hF⟩ := orf_at hF
        obtain ⟨v9, ev9, hF⟩ := obd_at hF
        refine j_alen E d_c8_hasPlaces_22 ev9 ?_
        refine j_blk (pc' := 25) (lv' := [(0, .ref a0), (1, .int p1), (2, .int p2)]) (st' := [.int (v9 - p2), .int p1]) E b_c8_hasPlaces_23_2 rfl ?_
        refine j_icmp_gt (tgt := 32) E d_c8_hasPlaces_25 (by decide) (fun h10 => ?_) (fun h10 => ?_)
        · have hF := g_t hF h10
          refine j_blk (pc' := 33) (lv' := [(0, .ref a0), (1, .int p1), (2, .int p2)]) (st' := [.int (Int32.ofInt 0)]) E b_c8_hasPlaces_32_1 rfl ?_
          have e : res = Int32.ofInt 0 := g_inj hF
          subst e
          exact j_zret E hQ nb_0 d_c8_hasPlaces_33 (fun _ h => h)
        · have hF := g_f hF h10
          refine j_blk (pc' := 29) (lv' := [(0, .ref a0), (1, .int p1), (2, .int p2)]) (st' := [.int (Int32.ofInt 1)]) E b_c8_hasPlaces_28_1 rfl ?_
          refine j_goto (tgt := 33) E d_c8_hasPlaces_29 (by decide) ?_
          have e : res = Int32.ofInt 1 := g_inj hF
          subst e
          exact j_zret E hQ nb_1 d_c8_hasPlaces_33 (fun _ h => h)
theorem b_c9_kind_0_1 : bdec cX9_kind 0 [.iconst 4] = true := by decide +kernel
theorem d_c9_kind_1 : decode cX9_kind 1 = .ok (.ireturn, 1) := by decide +kernel
def f9_kind (s0 : HM) (a0 : Nat) : Option (Int32) := some (Int32.ofInt 4)
set_option maxRecDepth 100000 in
set_option maxHeartbeats 4000000 in
theorem c9_kind (l : Launch) (κ : KP) (A : Nat → Prop) (s0 : HM) (a0 : Nat) {res : Int32} (hF : f9_kind s0 a0 = some res) : Met l yX9_kind (Cond.code yX9_kind cX9_kind 1 (some .int) :: WT) (rmL 0 0 0) (PP κ A [.ref a0] (HS κ A s0)) (QQ (some (.int res)) (HS κ A s0) A) 0 0 A := by
  refine met_of (own := RX9) (by decide) rfl (Nat.le_of_ble_eq_true rfl) ?_
  intro Γ E hQ hL hR hA hent hini
  have hAA : ∀ q, A q → jA Γ q := fun q h => by rw [hA]; exact h
  have hroom : ∀ (d mL : Nat) {mc ms : Nat}, d < 0 → mL ≤ 21 → (rmL d mc ms).frames + 1 ≤ (jR Γ).frames ∧ 8 + (mL + 11) + (rmL d mc ms).locals ≤ (jR Γ).locals := fun d mL mc ms h1 h2 => by rw [hR]; exact rmL_le h1 h2
  show J Γ 1 (HS κ A s0) 0 0 0 [(0, .ref a0)] []
  unfold f9_kind at hF
  refine j_blk (pc' := 1) (lv' := [(0, .ref a0)]) (st' := [.int (Int32.ofInt 4)]) E b_c9_kind_0_1 rfl ?_
  have e : res = Int32.ofInt 4 := g_inj hF
  subst e
  exact j_iret E hQ d_c9_kind_1 (fun _ h => h)
theorem b_cJ6_bitCount_0f7a4_0_4 : bdec cJ6_bitCount_0f7a4 0 [.iload_n 0, .iload_n 0, .iconst 1, .iushr] = true := by decide +kernel
theorem d_cJ6_bitCount_0f7a4_4 : decode cJ6_bitCount_0f7a4 4 = .ok (.ldc_w 265, 3) := by decide +kernel
theorem b_cJ6_bitCount_0f7a4_7_4 : bdec cJ6_bitCount_0f7a4 7 [.iand, .isub, .istore_n 0, .iload_n 0] = true := by decide +kernel
theorem d_cJ6_bitCount_0f7a4_11 : decode cJ6_bitCount_0f7a4 11 = .ok (.ldc_w 266, 3) := by decide +kernel
theorem b_cJ6_bitCount_0f7a4_14_4 : bdec cJ6_bitCount_0f7a4 14 [.iand, .iload_n 0, .iconst 2, .iushr] = true := by decide +kernel
theorem d_cJ6_bitCount_0f7a4_18 : decode cJ6_bitCount_0f7a4 18 = .ok (.ldc_w 266, 3) := by decide +kernel
theorem b_cJ6_bitCount_0f7a4_21_8 : bdec cJ6_bitCount_0f7a4 21 [.iand, .iadd, .istore_n 0, .iload_n 0, .iload_n 0, .iconst 4, .iushr, .iadd] = true := by decide +kernel
theorem d_cJ6_bitCount_0f7a4_29 : decode cJ6_bitCount_0f7a4 29 = .ok (.ldc_w 267, 3) := by decide +kernel
theorem b_cJ6_bitCount_0f7a4_32_17 : bdec cJ6_bitCount_0f7a4 32 [.iand, .istore_n 0, .iload_n 0, .iload_n 0, .bipush 8, .iushr, .iadd, .istore_n 0, .iload_n 0, .iload_n 0, .bipush 16, .iushr, .iadd, .istore_n 0, .iload_n 0, .bipush 63, .iand] = true := by decide +kernel
theorem d_cJ6_bitCount_0f7a4_52 : decode cJ6_bitCount_0f7a4 52 = .ok (.ireturn, 1) := by decide +kernel
def fJ6_bitCount_0f7a4 (p0 : Int32) : Option (Int32) := some ((((((((p0 - (((p0.toUInt32 >>> ((Int32.ofInt 1).toUInt32 &&& Int32.toUInt32 31)).toInt32) &&& 1431655765)) &&& 858993459) + ((((p0 - (((p0.toUInt32 >>> ((Int32.ofInt 1).toUInt32 &&& Int32.toUInt32 31)).toInt32) &&& 1431655765)).toUInt32 >>> ((Int32.ofInt 2).toUInt32 &&& Int32.toUInt32 31)).toInt32) &&& 858993459)) + (((((p0 - (((p0.toUInt32 >>> ((Int32.ofInt 1).toUInt32 &&& Int32.toUInt32 31)).toInt32) &&& 1431655765)) &&& 858993459) + ((((p0 - (((p0.toUInt32 >>> ((Int32.ofInt 1).toUInt32 &&& Int32.toUInt32 31)).toInt32) &&& 1431655765)).toUInt32 >>> ((Int32.ofInt 2).toUInt32 &&& Int32.toUInt32 31)).toInt32) &&& 858993459)).toUInt32 >>> ((Int32.ofInt 4).toUInt32 &&& Int32.toUInt32 31)).toInt32)) &&& 252645135) + (((((((p0 - (((p0.toUInt32 >>> ((Int32.ofInt 1).toUInt32 &&& Int32.toUInt32 31)).toInt32) &&& 1431655765)) &&& 858993459) + ((((p0 - (((p0.toUInt32 >>> ((Int32.ofInt 1).toUInt32 &&& Int32.toUInt32 31)).toInt32) &&& 1431655765)).toUInt32 >>> ((Int32.ofInt 2).toUInt32 &&& Int32.toUInt32 31)).toInt32) &&& 858993459)) + (((((p0 - (((p0.toUInt32 >>> ((Int32.ofInt 1).toUInt32 &&& Int32.toUInt32 31)).toInt32) &&& 1431655765)) &&& 858993459) + ((((p0 - (((p0.toUInt32 >>> ((Int32.ofInt 1).toUInt32 &&& Int32.toUInt32 31)).toInt32) &&& 1431655765)).toUInt32 >>> ((Int32.ofInt 2).toUInt32 &&& Int32.toUInt32 31)).toInt32) &&& 858993459)).toUInt32 >>> ((Int32.ofInt 4).toUInt32 &&& Int32.toUInt32 31)).toInt32)) &&& 252645135).toUInt32 >>> (((Int8.ofInt 8).toInt32).toUInt32 &&& Int32.toUInt32 31)).toInt32)) + ((((((((p0 - (((p0.toUInt32 >>> ((Int32.ofInt 1).toUInt32 &&& Int32.toUInt32 31)).toInt32) &&& 1431655765)) &&& 858993459) + ((((p0 - (((p0.toUInt32 >>> ((Int32.ofInt 1).toUInt32 &&& Int32.toUInt32 31)).toInt32) &&& 1431655765)).toUInt32 >>> ((Int32.ofInt 2).toUInt32 &&& Int32.toUInt32 31)).toInt32) &&& 858993459)) + (((((p0 - (((p0.toUInt32 >>> ((Int32.ofInt 1).toUInt32 &&& Int32.toUInt32 31)).toInt32) &&& 1431655765)) &&& 858993459) + ((((p0 - (((p0.toUInt32 >>> ((Int32.ofInt 1).toUInt32 &&& Int32.toUInt32 31)).toInt32) &&& 1431655765)).toUInt32 >>> ((Int32.ofInt 2).toUInt32 &&& Int32.toUInt32 31)).toInt32) &&& 858993459)).toUInt32 >>> ((Int32.ofInt 4).toUInt32 &&& Int32.toUInt32 31)).toInt32)) &&& 252645135) + (((((((p0 - (((p0.toUInt32 >>> ((Int32.ofInt 1).toUInt32 &&& Int32.toUInt32 31)).toInt32) &&& 1431655765)) &&& 858993459) + ((((p0 - (((p0.toUInt32 >>> ((Int32.ofInt 1).toUInt32 &&& Int32.toUInt32 31)).toInt32) &&& 1431655765)).toUInt32 >>> ((Int32.ofInt 2).toUInt32 &&& Int32.toUInt32 31)).toInt32) &&& 858993459)) + (((((p0 - (((p0.toUInt32 >>> ((Int32.ofInt 1).toUInt32 &&& Int32.toUInt32 31)).toInt32) &&& 1431655765)) &&& 858993459) + ((((p0 - (((p0.toUInt32 >>> ((Int32.ofInt 1).toUInt32 &&& Int32.toUInt32 31)).toInt32) &&& 1431655765)).toUInt32 >>> ((Int32.ofInt 2).toUInt32 &&& Int32.toUInt32 31)).toInt32) &&& 858993459)).toUInt32 >>> ((Int32.ofInt 4).toUInt32 &&& Int32.toUInt32 31)).toInt32)) &&& 252645135).toUInt32 >>> (((Int8.ofInt 8).toInt32).toUInt32 &&& Int32.toUInt32 31)).toInt32)).toUInt32 >>> (((Int8.ofInt 16).toInt32).toUInt32 &&& Int32.toUInt32 31)).toInt32)) &&& ((Int8.ofInt 63).toInt32))
set_option maxRecDepth 100000 in
set_option maxHeartbeats 4000000 in
theorem cJ6_bitCount_0f7a4 (l : Launch) (κ : KP) (A : Nat → Prop) (HP : Heap → Prop) (p0 : Int32) {res : Int32} (hF : fJ6_bitCount_0f7a4 p0 = some res) : Met l yJ6_bitCount_0f7a4 (Cond.code yJ6_bitCount_0f7a4 cJ6_bitCount_0f7a4 1 (some .int) :: WT) (rmL 0 0 0) (PP κ A [.int p0] HP) (QQ (some (.int res)) HP A) 0 0 A := by
  refine met_of (own := RJ6) (by decide) rfl (Nat.le_of_ble_eq_true rfl) ?_
  intro Γ E hQ hL hR hA hent hini
  have hAA : ∀ q, A q → jA Γ q := fun q h => by rw [hA]; exact h
  have hroom : ∀ (d mL : Nat) {mc ms : Nat}, d < 0 → mL ≤ 21 → (rmL d mc ms).frames + 1 ≤ (jR Γ).frames ∧ 8 + (mL + 11) + (rmL d mc ms).locals ≤ (jR Γ).locals := fun d mL mc ms h1 h2 => by rw [hR]; exact rmL_le h1 h2
  show J Γ 1 HP 0 0 0 [(0, .int p0)] []
  unfold fJ6_bitCount_0f7a4 at hF
  refine j_blk (pc' := 4) (lv' := [(0, .int p0)]) (st' := [.int ((p0.toUInt32 >>> ((Int32.ofInt 1).toUInt32 &&& Int32.toUInt32 31)).toInt32), .int p0]) E b_cJ6_bitCount_0f7a4_0_4 rfl ?_
  refine j_ldcw (x := 1431655765) E d_cJ6_bitCount_0f7a4_4 m_348 ?_
  refine j_blk (pc' := 11) (lv' := [(0, .int (p0 - (((p0.toUInt32 >>> ((Int32.ofInt 1).toUInt32 &&& Int32.toUInt32 31)).toInt32) &&& 1431655765)))]) (st' := [.int (p0 - (((p0.toUInt32 >>> ((Int32.ofInt 1).toUInt32 &&& Int32.toUInt32 31)).toInt32) &&& 1431655765))]) E b_cJ6_bitCount_0f7a4_7_4 rfl ?_
  refine j_ldcw (x := 858993459) E d_cJ6_bitCount_0f7a4_11 m_349 ?_
  refine j_blk (pc' := 18) (lv' := [(0, .int (p0 - (((p0.toUInt32 >>> ((Int32.ofInt 1).toUInt32 &&& Int32.toUInt32 31)).toInt32) &&& 1431655765)))]) (st' := [.int (((p0 - (((p0.toUInt32 >>> ((Int32.ofInt 1).toUInt32 &&& Int32.toUInt32 31)).toInt32) &&& 1431655765)).toUInt32 >>> ((Int32.ofInt 2).toUInt32 &&& Int32.toUInt32 31)).toInt32), .int ((p0 - (((p0.toUInt32 >>> ((Int32.ofInt 1).toUInt32 &&& Int32.toUInt32 31)).toInt32) &&& 1431655765)) &&& 858993459)]) E b_cJ6_bitCount_0f7a4_14_4 rfl ?_
  refine j_ldcw (x := 858993459) E d_cJ6_bitCount_0f7a4_18 m_349 ?_
  refine j_blk (pc' := 29) (lv' := [(0, .int (((p0 - (((p0.toUInt32 >>> ((Int32.ofInt 1).toUInt32 &&& Int32.toUInt32 31)).toInt32) &&& 1431655765)) &&& 858993459) + ((((p0 - (((p0.toUInt32 >>> ((Int32.ofInt 1).toUInt32 &&& Int32.toUInt32 31)).toInt32) &&& 1431655765)).toUInt32 >>> ((Int32.ofInt 2).toUInt32 &&& Int32.toUInt32 31)).toInt32) &&& 858993459)))]) (st' := [.int ((((p0 - (((p0.toUInt32 >>> ((Int32.ofInt 1).toUInt32 &&& Int32.toUInt32 31)).toInt32) &&& 1431655765)) &&& 858993459) + ((((p0 - (((p0.toUInt32 >>> ((Int32.ofInt 1).toUInt32 &&& Int32.toUInt32 31)).toInt32) &&& 1431655765)).toUInt32 >>> ((Int32.ofInt 2).toUInt32 &&& Int32.toUInt32 31)).toInt32) &&& 858993459)) + (((((p0 - (((p0.toUInt32 >>> ((Int32.ofInt 1).toUInt32 &&& Int32.toUInt32 31)).toInt32) &&& 1431655765)) &&& 858993459) + ((((p0 - (((p0.toUInt32 >>> ((Int32.ofInt 1).toUInt32 &&& Int32.toUInt32 31)).toInt32) &&& 1431655765)).toUInt32 >>> ((Int32.ofInt 2).toUInt32 &&& Int32.toUInt32 31)).toInt32) &&& 858993459)).toUInt32 >>> ((Int32.ofInt 4).toUInt32 &&& Int32.toUInt32 31)).toInt32))]) E b_cJ6_bitCount_0f7a4_21_8 rfl ?_
  refine j_ldcw (x := 252645135) E d_cJ6_bitCount_0f7a4_29 m_350 ?_
  refine j_blk (pc' := 52) (lv' := [(0, .int (((((((p0 - (((p0.toUInt32 >>> ((Int32.ofInt 1).toUInt32 &&& Int32.toUInt32 31)).toInt32) &&& 1431655765)) &&& 858993459) + ((((p0 - (((p0.toUInt32 >>> ((Int32.ofInt 1).toUInt32 &&& Int32.toUInt32 31)).toInt32) &&& 1431655765)).toUInt32 >>> ((Int32.ofInt 2).toUInt32 &&& Int32.toUInt32 31)).toInt32) &&& 858993459)) + (((((p0 - (((p0.toUInt32 >>> ((Int32.ofInt 1).toUInt32 &&& Int32.toUInt32 31)).toInt32) &&& 1431655765)) &&& 858993459) + ((((p0 - (((p0.toUInt32 >>> ((Int32.ofInt 1).toUInt32 &&& Int32.toUInt32 31)).toInt32) &&& 1431655765)).toUInt32 >>> ((Int32.ofInt 2).toUInt32 &&& Int32.toUInt32 31)).toInt32) &&& 858993459)).toUInt32 >>> ((Int32.ofInt 4).toUInt32 &&& Int32.toUInt32 31)).toInt32)) &&& 252645135) + (((((((p0 - (((p0.toUInt32 >>> ((Int32.ofInt 1).toUInt32 &&& Int32.toUInt32 31)).toInt32) &&& 1431655765)) &&& 858993459) + ((((p0 - (((p0.toUInt32 >>> ((Int32.ofInt 1).toUInt32 &&& Int32.toUInt32 31)).toInt32) &&& 1431655765)).toUInt32 >>> ((Int32.ofInt 2).toUInt32 &&& Int32.toUInt32 31)).toInt32) &&& 858993459)) + (((((p0 - (((p0.toUInt32 >>> ((Int32.ofInt 1).toUInt32 &&& Int32.toUInt32 31)).toInt32) &&& 1431655765)) &&& 858993459) + ((((p0 - (((p0.toUInt32 >>> ((Int32.ofInt 1).toUInt32 &&& Int32.toUInt32 31)).toInt32) &&& 1431655765)).toUInt32 >>> ((Int32.ofInt 2).toUInt32 &&& Int32.toUInt32 31)).toInt32) &&& 858993459)).toUInt32 >>> ((Int32.ofInt 4).toUInt32 &&& Int32.toUInt32 31)).toInt32)) &&& 252645135).toUInt32 >>> (((Int8.ofInt 8).toInt32).toUInt32 &&& Int32.toUInt32 31)).toInt32)) + ((((((((p0 - (((p0.toUInt32 >>> ((Int32.ofInt 1).toUInt32 &&& Int32.toUInt32 31)).toInt32) &&& 1431655765)) &&& 858993459) + ((((p0 - (((p0.toUInt32 >>> ((Int32.ofInt 1).toUInt32 &&& Int32.toUInt32 31)).toInt32) &&& 1431655765)).toUInt32 >>> ((Int32.ofInt 2).toUInt32 &&& Int32.toUInt32 31)).toInt32) &&& 858993459)) + (((((p0 - (((p0.toUInt32 >>> ((Int32.ofInt 1).toUInt32 &&& Int32.toUInt32 31)).toInt32) &&& 1431655765)) &&& 858993459) + ((((p0 - (((p0.toUInt32 >>> ((Int32.ofInt 1).toUInt32 &&& Int32.toUInt32 31)).toInt32) &&& 1431655765)).toUInt32 >>> ((Int32.ofInt 2).toUInt32 &&& Int32.toUInt32 31)).toInt32) &&& 858993459)).toUInt32 >>> ((Int32.ofInt 4).toUInt32 &&& Int32.toUInt32 31)).toInt32)) &&& 252645135) + (((((((p0 - (((p0.toUInt32 >>> ((Int32.ofInt 1).toUInt32 &&& Int32.toUInt32 31)).toInt32) &&& 1431655765)) &&& 858993459) + ((((p0 - (((p0.toUInt32 >>> ((Int32.ofInt 1).toUInt32 &&& Int32.toUInt32 31)).toInt32) &&& 1431655765)).toUInt32 >>> ((Int32.ofInt 2).toUInt32 &&& Int32.toUInt32 31)).toInt32) &&& 858993459)) + (((((p0 - (((p0.toUInt32 >>> ((Int32.ofInt 1).toUInt32 &&& Int32.toUInt32 31)).toInt32) &&& 1431655765)) &&& 858993459) + ((((p0 - (((p0.toUInt32 >>> ((Int32.ofInt 1).toUInt32 &&& Int32.toUInt32 31)).toInt32) &&& 1431655765)).toUInt32 >>> ((Int32.ofInt 2).toUInt32 &&& Int32.toUInt32 31)).toInt32) &&& 858993459)).toUInt32 >>> ((Int32.ofInt 4).toUInt32 &&& Int32.toUInt32 31)).toInt32)) &&& 252645135).toUInt32 >>> (((Int8.ofInt 8).toInt32).toUInt32 &&& Int32.toUInt32 31)).toInt32)).toUInt32 >>> (((Int8.ofInt 16).toInt32).toUInt32 &&& Int32.toUInt32 31)).toInt32)))]) (st' := [.int ((((((((p0 - (((p0.toUInt32 >>> ((Int32.ofInt 1).toUInt32 &&& Int32.toUInt32 31)).toInt32) &&& 1431655765)) &&& 858993459) + ((((p0 - (((p0.toUInt32 >>> ((Int32.ofInt 1).toUInt32 &&& Int32.toUInt32 31)).toInt32) &&& 1431655765)).toUInt32 >>> ((Int32.ofInt 2).toUInt32 &&& Int32.toUInt32 31)).toInt32) &&& 858993459)) + (((((p0 - (((p0.toUInt32 >>> ((Int32.ofInt 1).toUInt32 &&& Int32.toUInt32 31)).toInt32) &&& 1431655765)) &&& 858993459) + ((((p0 - (((p0.toUInt32 >>> ((Int32.ofInt 1).toUInt32 &&& Int32.toUInt32 31)).toInt32) &&& 1431655765)).toUInt32 >>> ((Int32.ofInt 2).toUInt32 &&& Int32.toUInt32 31)).toInt32) &&& 858993459)).toUInt32 >>> ((Int32.ofInt 4).toUInt32 &&& Int32.toUInt32 31)).toInt32)) &&& 252645135) + (((((((p0 - (((p0.toUInt32 >>> ((Int32.ofInt 1).toUInt32 &&& Int32.toUInt32 31)).toInt32) &&& 1431655765)) &&& 858993459) + ((((p0 - (((p0.toUInt32 >>> ((Int32.ofInt 1).toUInt32 &&& Int32.toUInt32 31)).toInt32) &&& 1431655765)).toUInt32 >>> ((Int32.ofInt 2).toUInt32 &&& Int32.toUInt32 31)).toInt32) &&& 858993459)) + (((((p0 - (((p0.toUInt32 >>> ((Int32.ofInt 1).toUInt32 &&& Int32.toUInt32 31)).toInt32) &&& 1431655765)) &&& 858993459) + ((((p0 - (((p0.toUInt32 >>> ((Int32.ofInt 1).toUInt32 &&& Int32.toUInt32 31)).toInt32) &&& 1431655765)).toUInt32 >>> ((Int32.ofInt 2).toUInt32 &&& Int32.toUInt32 31)).toInt32) &&& 858993459)).toUInt32 >>> ((Int32.ofInt 4).toUInt32 &&& Int32.toUInt32 31)).toInt32)) &&& 252645135).toUInt32 >>> (((Int8.ofInt 8).toInt32).toUInt32 &&& Int32.toUInt32 31)).toInt32)) + ((((((((p0 - (((p0.toUInt32 >>> ((Int32.ofInt 1).toUInt32 &&& Int32.toUInt32 31)).toInt32) &&& 1431655765)) &&& 858993459) + ((((p0 - (((p0.toUInt32 >>> ((Int32.ofInt 1).toUInt32 &&& Int32.toUInt32 31)).toInt32) &&& 1431655765)).toUInt32 >>> ((Int32.ofInt 2).toUInt32 &&& Int32.toUInt32 31)).toInt32) &&& 858993459)) + (((((p0 - (((p0.toUInt32 >>> ((Int32.ofInt 1).toUInt32 &&& Int32.toUInt32 31)).toInt32) &&& 1431655765)) &&& 858993459) + ((((p0 - (((p0.toUInt32 >>> ((Int32.ofInt 1).toUInt32 &&& Int32.toUInt32 31)).toInt32) &&& 1431655765)).toUInt32 >>> ((Int32.ofInt 2).toUInt32 &&& Int32.toUInt32 31)).toInt32) &&& 858993459)).toUInt32 >>> ((Int32.ofInt 4).toUInt32 &&& Int32.toUInt32 31)).toInt32)) &&& 252645135) + (((((((p0 - (((p0.toUInt32 >>> ((Int32.ofInt 1).toUInt32 &&& Int32.toUInt32 31)).toInt32) &&& 1431655765)) &&& 858993459) + ((((p0 - (((p0.toUInt32 >>> ((Int32.ofInt 1).toUInt32 &&& Int32.toUInt32 31)).toInt32) &&& 1431655765)).toUInt32 >>> ((Int32.ofInt 2).toUInt32 &&& Int32.toUInt32 31)).toInt32) &&& 858993459)) + (((((p0 - (((p0.toUInt32 >>> ((Int32.ofInt 1).toUInt32 &&& Int32.toUInt32 31)).toInt32) &&& 1431655765)) &&& 858993459) + ((((p0 - (((p0.toUInt32 >>> ((Int32.ofInt 1).toUInt32 &&& Int32.toUInt32 31)).toInt32) &&& 1431655765)).toUInt32 >>> ((Int32.ofInt 2).toUInt32 &&& Int32.toUInt32 31)).toInt32) &&& 858993459)).toUInt32 >>> ((Int32.ofInt 4).toUInt32 &&& Int32.toUInt32 31)).toInt32)) &&& 252645135).toUInt32 >>> (((Int8.ofInt 8).toInt32).toUInt32 &&& Int32.toUInt32 31)).toInt32)).toUInt32 >>> (((Int8.ofInt 16).toInt32).toUInt32 &&& Int32.toUInt32 31)).toInt32)) &&& ((Int8.ofInt 63).toInt32))]) E b_cJ6_bitCount_0f7a4_32_17 rfl ?_
  have e : res = (((((((p0 - (((p0.toUInt32 >>> ((Int32.ofInt 1).toUInt32 &&& Int32.toUInt32 31)).toInt32) &&& 1431655765)) &&& 858993459) + ((((p0 - (((p0.toUInt32 >>> ((Int32.ofInt 1).toUInt32 &&& Int32.toUInt32 31)).toInt32) &&& 1431655765)).toUInt32 >>> ((Int32.ofInt 2).toUInt32 &&& Int32.toUInt32 31)).toInt32) &&& 858993459)) + (((((p0 - (((p0.toUInt32 >>> ((Int32.ofInt 1).toUInt32 &&& Int32.toUInt32 31)).toInt32) &&& 1431655765)) &&& 858993459) + ((((p0 - (((p0.toUInt32 >>> ((Int32.ofInt 1).toUInt32 &&& Int32.toUInt32 31)).toInt32) &&& 1431655765)).toUInt32 >>> ((Int32.ofInt 2).toUInt32 &&& Int32.toUInt32 31)).toInt32) &&& 858993459)).toUInt32 >>> ((Int32.ofInt 4).toUInt32 &&& Int32.toUInt32 31)).toInt32)) &&& 252645135) + (((((((p0 - (((p0.toUInt32 >>> ((Int32.ofInt 1).toUInt32 &&& Int32.toUInt32 31)).toInt32) &&& 1431655765)) &&& 858993459) + ((((p0 - (((p0.toUInt32 >>> ((Int32.ofInt 1).toUInt32 &&& Int32.toUInt32 31)).toInt32) &&& 1431655765)).toUInt32 >>> ((Int32.ofInt 2).toUInt32 &&& Int32.toUInt32 31)).toInt32) &&& 858993459)) + (((((p0 - (((p0.toUInt32 >>> ((Int32.ofInt 1).toUInt32 &&& Int32.toUInt32 31)).toInt32) &&& 1431655765)) &&& 858993459) + ((((p0 - (((p0.toUInt32 >>> ((Int32.ofInt 1).toUInt32 &&& Int32.toUInt32 31)).toInt32) &&& 1431655765)).toUInt32 >>> ((Int32.ofInt 2).toUInt32 &&& Int32.toUInt32 31)).toInt32) &&& 858993459)).toUInt32 >>> ((Int32.ofInt 4).toUInt32 &&& Int32.toUInt32 31)).toInt32)) &&& 252645135).toUInt32 >>> (((Int8.ofInt 8).toInt32).toUInt32 &&& Int32.toUInt32 31)).toInt32)) + ((((((((p0 - (((p0.toUInt32 >>> ((Int32.ofInt 1).toUInt32 &&& Int32.toUInt32 31)).toInt32) &&& 1431655765)) &&& 858993459) + ((((p0 - (((p0.toUInt32 >>> ((Int32.ofInt 1).toUInt32 &&& Int32.toUInt32 31)).toInt32) &&& 1431655765)).toUInt32 >>> ((Int32.ofInt 2).toUInt32 &&& Int32.toUInt32 31)).toInt32) &&& 858993459)) + (((((p0 - (((p0.toUInt32 >>> ((Int32.ofInt 1).toUInt32 &&& Int32.toUInt32 31)).toInt32) &&& 1431655765)) &&& 858993459) + ((((p0 - (((p0.toUInt32 >>> ((Int32.ofInt 1).toUInt32 &&& Int32.toUInt32 31)).toInt32) &&& 1431655765)).toUInt32 >>> ((Int32.ofInt 2).toUInt32 &&& Int32.toUInt32 31)).toInt32) &&& 858993459)).toUInt32 >>> ((Int32.ofInt 4).toUInt32 &&& Int32.toUInt32 31)).toInt32)) &&& 252645135) + (((((((p0 - (((p0.toUInt32 >>> ((Int32.ofInt 1).toUInt32 &&& Int32.toUInt32 31)).toInt32) &&& 1431655765)) &&& 858993459) + ((((p0 - (((p0.toUInt32 >>> ((Int32.ofInt 1).toUInt32 &&& Int32.toUInt32 31)).toInt32) &&& 1431655765)).toUInt32 >>> ((Int32.ofInt 2).toUInt32 &&& Int32.toUInt32 31)).toInt32) &&& 858993459)) + (((((p0 - (((p0.toUInt32 >>> ((Int32.ofInt 1).toUInt32 &&& Int32.toUInt32 31)).toInt32) &&& 1431655765)) &&& 858993459) + ((((p0 - (((p0.toUInt32 >>> ((Int32.ofInt 1).toUInt32 &&& Int32.toUInt32 31)).toInt32) &&& 1431655765)).toUInt32 >>> ((Int32.ofInt 2).toUInt32 &&& Int32.toUInt32 31)).toInt32) &&& 858993459)).toUInt32 >>> ((Int32.ofInt 4).toUInt32 &&& Int32.toUInt32 31)).toInt32)) &&& 252645135).toUInt32 >>> (((Int8.ofInt 8).toInt32).toUInt32 &&& Int32.toUInt32 31)).toInt32)).toUInt32 >>> (((Int8.ofInt 16).toInt32).toUInt32 &&& Int32.toUInt32 31)).toInt32)) &&& ((Int8.ofInt 63).toInt32) := g_inj hF
  subst e
  exact j_iret E hQ d_cJ6_bitCount_0f7a4_52 (fun _ h => h)
theorem b_c0_skill_0_1 : bdec cX0_skill 0 [.aload_n 0] = true := by decide +kernel
theorem d_c0_skill_1 : decode cX0_skill 1 = .ok (.invokespecial 7, 3) := by decide +kernel
theorem b_c0_skill_4_2 : bdec cX0_skill 4 [.bipush 9, .iadd] = true := by decide +kernel
theorem d_c0_skill_7 : decode cX0_skill 7 = .ok (.ireturn, 1) := by decide +kernel
def f0_skill (s0 : HM) (a0 : Nat) : Option (Int32) := obd (hcls s0 a0) (fun c3 => ogd (Nat.blt c3 12) (obd (f6_skill s0 a0) (fun v2 => some (v2 + ((Int8.ofInt 9).toInt32)))))
set_option maxRecDepth 100000 in
set_option maxHeartbeats 4000000 in
theorem c0_skill (l : Launch) (κ : KP) (A : Nat → Prop) (s0 : HM) (a0 : Nat) {res : Int32} (hF : f0_skill s0 a0 = some res) : Met l yX0_skill (Cond.code yX0_skill cX0_skill 1 (some .int) :: WT) (rmL 1 0 0) (PP κ A [.ref a0] (HS κ A s0)) (QQ (some (.int res)) (HS κ A s0) A) 0 0 A := by
  refine met_of (own := RX0) (by decide) rfl (Nat.le_of_ble_eq_true rfl) ?_
  intro Γ E hQ hL hR hA hent hini
  have hAA : ∀ q, A q → jA Γ q := fun q h => by rw [hA]; exact h
  have hroom : ∀ (d mL : Nat) {mc ms : Nat}, d < 1 → mL ≤ 21 → (rmL d mc ms).frames + 1 ≤ (jR Γ).frames ∧ 8 + (mL + 11) + (rmL d mc ms).locals ≤ (jR Γ).locals := fun d mL mc ms h1 h2 => by rw [hR]; exact rmL_le h1 h2
  show J Γ 1 (HS κ A s0) 0 0 0 [(0, .ref a0)] []
  unfold f0_skill at hF
  refine j_blk (pc' := 1) (lv' := [(0, .ref a0)]) (st' := [.ref a0]) E b_c0_skill_0_1 rfl ?_
  obtain ⟨c3, hc, hF⟩ := obd_at hF
  obtain ⟨hc12, hF⟩ := ogd_at hF
  obtain ⟨v2, he1, hF⟩ := obd_at hF
  refine j_callx [] [] E w_RX0_7 (hroom 0 1 (by decide) (by decide)) hAA (c6_skill _ κ A _ _  he1) hc (blt_of hc12) (fun _ _ _ h _ _ => h) rfl rfl (by decide) d_c0_skill_1 ⟨Nat.zero_le _, Nat.zero_le _⟩ ?_
  refine j_blk (pc' := 7) (lv' := [(0, .ref a0)]) (st' := [.int (v2 + ((Int8.ofInt 9).toInt32))]) E b_c0_skill_4_2 rfl ?_
  have e : res = v2 + ((Int8.ofInt 9).toInt32) := g_inj hF
  subst e
  exact j_iret E hQ d_c0_skill_7 (fun _ h => h)
theorem b_c0_cost_0_1 : bdec cX0_cost 0 [.aload_n 0] = true := by decide +kernel
theorem d_c0_cost_1 : decode cX0_cost 1 = .ok (.invokespecial 11, 3) := by decide +kernel
theorem b_c0_cost_4_2 : bdec cX0_cost 4 [.iconst 4, .imul] = true := by decide +kernel
theorem d_c0_cost_6 : decode cX0_cost 6 = .ok (.ireturn, 1) := by decide +kernel
def f0_cost (s0 : HM) (a0 : Nat) : Option (Int32) := obd (hcls s0 a0) (fun c3 => ogd (Nat.blt c3 12) (obd (f6_cost s0 a0) (fun v2 => some (v2 * (Int32.ofInt 4)))))
set_option maxRecDepth 100000 in
set_option maxHeartbeats 4000000 in
theorem c0_cost (l : Launch) (κ : KP) (A : Nat → Prop) (s0 : HM) (a0 : Nat) {res : Int32} (hF : f0_cost s0 a0 = some res) : Met l yX0_cost (Cond.code yX0_cost cX0_cost 1 (some .int) :: WT) (rmL 1 0 0) (PP κ A [.ref a0] (HS κ A s0)) (QQ (some (.int res)) (HS κ A s0) A) 0 0 A := by
  refine met_of (own := RX0) (by decide) rfl (Nat.le_of_ble_eq_true rfl) ?_
  intro Γ E hQ hL hR hA hent hini
  have hAA : ∀ q, A q → jA Γ q := fun q h => by rw [hA]; exact h
  have hroom : ∀ (d mL : Nat) {mc ms : Nat}, d < 1 → mL ≤ 21 → (rmL d mc ms).frames + 1 ≤ (jR Γ).frames ∧ 8 + (mL + 11) + (rmL d mc ms).locals ≤ (jR Γ).locals := fun d mL mc ms h1 h2 => by rw [hR]; exact rmL_le h1 h2
  show J Γ 1 (HS κ A s0) 0 0 0 [(0, .ref a0)] []
  unfold f0_cost at hF
  refine j_blk (pc' := 1) (lv' := [(0, .ref a0)]) (st' := [.ref a0]) E b_c0_cost_0_1 rfl ?_
  obtain ⟨c3, hc, hF⟩ := obd_at hF
  obtain ⟨hc12, hF⟩ := ogd_at hF
  obtain ⟨v2, he1, hF⟩ := obd_at hF
  refine j_callx [] [] E w_RX0_11 (hroom 0 1 (by decide) (by decide)) hAA (c6_cost _ κ A _ _  he1) hc (blt_of hc12) (fun _ _ _ h _ _ => h) rfl rfl (by decide) d_c0_cost_1 ⟨Nat.zero_le _, Nat.zero_le _⟩ ?_
  refine j_blk (pc' := 6) (lv' := [(0, .ref a0)]) (st' := [.int (v2 * (Int32.ofInt 4))]) E b_c0_cost_4_2 rfl ?_
  have e : res = v2 * (Int32.ofInt 4) := g_inj hF
  subst e
  exact j_iret E hQ d_c0_cost_6 (fun _ h => h)
theorem b_c1_skill_0_1 : bdec cX1_skill 0 [.aload_n 0] = true := by decide +kernel
theorem d_c1_skill_1 : decode cX1_skill 1 = .ok (.invokespecial 7, 3) := by decide +kernel
theorem b_c1_skill_4_2 : bdec cX1_skill 4 [.iconst 3, .iadd] = true := by decide +kernel
theorem d_c1_skill_6 : decode cX1_skill 6 = .ok (.ireturn, 1) := by decide +kernel
def f1_skill (s0 : HM) (a0 : Nat) : Option (Int32) := obd (hcls s0 a0) (fun c3 => ogd (Nat.blt c3 12) (obd (f6_skill s0 a0) (fun v2 => some (v2 + (Int32.ofInt 3)))))
set_option maxRecDepth 100000 in
set_option maxHeartbeats 4000000 in
theorem c1_skill (l : Launch) (κ : KP) (A : Nat → Prop) (s0 : HM) (a0 : Nat) {res : Int32} (hF : f1_skill s0 a0 = some res) : Met l yX1_skill (Cond.code yX1_skill cX1_skill 1 (some .int) :: WT) (rmL 1 0 0) (PP κ A [.ref a0] (HS κ A s0)) (QQ (some (.int res)) (HS κ A s0) A) 0 0 A := by
  refine met_of (own := RX1) (by decide) rfl (Nat.le_of_ble_eq_true rfl) ?_
  intro Γ E hQ hL hR hA hent hini
  have hAA : ∀ q, A q → jA Γ q := fun q h => by rw [hA]; exact h
  have hroom : ∀ (d mL : Nat) {mc ms : Nat}, d < 1 → mL ≤ 21 → (rmL d mc ms).frames + 1 ≤ (jR Γ).frames ∧ 8 + (mL + 11) + (rmL d mc ms).locals ≤ (jR Γ).locals := fun d mL mc ms h1 h2 => by rw [hR]; exact rmL_le h1 h2
  show J Γ 1 (HS κ A s0) 0 0 0 [(0, .ref a0)] []
  unfold f1_skill at hF
  refine j_blk (pc' := 1) (lv' := [(0, .ref a0)]) (st' := [.ref a0]) E b_c1_skill_0_1 rfl ?_
  obtain ⟨c3, hc, hF⟩ := obd_at hF
  obtain ⟨hc12, hF⟩ := ogd_at hF
  obtain ⟨v2, he1, hF⟩ := obd_at hF
  refine j_callx [] [] E w_RX1_7 (hroom 0 1 (by decide) (by decide)) hAA (c6_skill _ κ A _ _  he1) hc (blt_of hc12) (fun _ _ _ h _ _ => h) rfl rfl (by decide) d_c1_skill_1 ⟨Nat.zero_le _, Nat.zero_le _⟩ ?_
  refine j_blk (pc' := 6) (lv' := [(0, .ref a0)]) (st' := [.int (v2 + (Int32.ofInt 3))]) E b_c1_skill_4_2 rfl ?_
  have e : res = v2 + (Int32.ofInt 3) := g_inj hF
  subst e
  exact j_iret E hQ d_c1_skill_6 (fun _ h => h)
theorem b_c1_cost_0_2 : bdec cX1_cost 0 [.iconst 2, .aload_n 0] = true := by decide +kernel
theorem d_c1_cost_2 : decode cX1_cost 2 = .ok (.invokespecial 11, 3) := by decide +kernel
theorem b_c1_cost_5_1 : bdec cX1_cost 5 [.imul] = true := by decide +kernel
theorem d_c1_cost_6 : decode cX1_cost 6 = .ok (.ireturn, 1) := by decide +kernel
def f1_cost (s0 : HM) (a0 : Nat) : Option (Int32) := obd (hcls s0 a0) (fun c3 => ogd (Nat.blt c3 12) (obd (f6_cost s0 a0) (fun v2 => some ((Int32.ofInt 2) * v2))))
set_option maxRecDepth 100000 in
set_option maxHeartbeats 4000000 in
theorem c1_cost (l : Launch) (κ : KP) (A : Nat → Prop) (s0 : HM) (a0 : Nat) {res : Int32} (hF : f1_cost s0 a0 = some res) : Met l yX1_cost (Cond.code yX1_cost cX1_cost 1 (some .int) :: WT) (rmL 1 0 0) (PP κ A [.ref a0] (HS κ A s0)) (QQ (some (.int res)) (HS κ A s0) A) 0 0 A := by
  refine met_of (own := RX1) (by decide) rfl (Nat.le_of_ble_eq_true rfl) ?_
  intro Γ E hQ hL hR hA hent hini
  have hAA : ∀ q, A q → jA Γ q := fun q h => by rw [hA]; exact h
  have hroom : ∀ (d mL : Nat) {mc ms : Nat}, d < 1 → mL ≤ 21 → (rmL d mc ms).frames + 1 ≤ (jR Γ).frames ∧ 8 + (mL + 11) + (rmL d mc ms).locals ≤ (jR Γ).locals := fun d mL mc ms h1 h2 => by rw [hR]; exact rmL_le h1 h2
  show J Γ 1 (HS κ A s0) 0 0 0 [(0, .ref a0)] []
  unfold f1_cost at hF
  refine j_blk (pc' := 2) (lv' := [(0, .ref a0)]) (st' := [.ref a0, .int (Int32.ofInt 2)]) E b_c1_cost_0_2 rfl ?_
  obtain ⟨c3, hc, hF⟩ := obd_at hF
  obtain ⟨hc12, hF⟩ := ogd_at hF
  obtain ⟨v2, he1, hF⟩ := obd_at hF
  refine j_callx [] [.int (Int32.ofInt 2)] E w_RX1_11 (hroom 0 1 (by decide) (by decide)) hAA (c6_cost _ κ A _ _  he1) hc (blt_of hc12) (fun _ _ _ h _ _ => h) rfl rfl (by decide) d_c1_cost_2 ⟨Nat.zero_le _, Nat.zero_le _⟩ ?_
  refine j_blk (pc' := 6) (lv' := [(0, .ref a0)]) (st' := [.int ((Int32.ofInt 2) * v2)]) E b_c1_cost_5_1 rfl ?_
  have e : res = (Int32.ofInt 2) * v2 := g_inj hF
  subst e
  exact j_iret E hQ d_c1_cost_6 (fun _ h => h)
theorem b_c4_skill_0_2 : bdec cX4_skill 0 [.iconst 2, .aload_n 0] = true := by decide +kernel
theorem d_c4_skill_2 : decode cX4_skill 2 = .ok (.invokespecial 7, 3) := by decide +kernel
theorem b_c4_skill_5_1 : bdec cX4_skill 5 [.imul] = true := by decide +kernel
theorem d_c4_skill_6 : decode cX4_skill 6 = .ok (.ireturn, 1) := by decide +kernel
def f4_skill (s0 : HM) (a0 : Nat) : Option (Int32) := obd (hcls s0 a0) (fun c3 => ogd (Nat.blt c3 12) (obd (f6_skill s0 a0) (fun v2 => some ((Int32.ofInt 2) * v2))))
set_option maxRecDepth 100000 in
set_option maxHeartbeats 4000000 in
theorem c4_skill (l : Launch) (κ : KP) (A : Nat → Prop) (s0 : HM) (a0 : Nat) {res : Int32} (hF : f4_skill s0 a0 = some res) : Met l yX4_skill (Cond.code yX4_skill cX4_skill 1 (some .int) :: WT) (rmL 1 0 0) (PP κ A [.ref a0] (HS κ A s0)) (QQ (some (.int res)) (HS κ A s0) A) 0 0 A := by
  refine met_of (own := RX4) (by decide) rfl (Nat.le_of_ble_eq_true rfl) ?_
  intro Γ E hQ hL hR hA hent hini
  have hAA : ∀ q, A q → jA Γ q := fun q h => by rw [hA]; exact h
  have hroom : ∀ (d mL : Nat) {mc ms : Nat}, d < 1 → mL ≤ 21 → (rmL d mc ms).frames + 1 ≤ (jR Γ).frames ∧ 8 + (mL + 11) + (rmL d mc ms).locals ≤ (jR Γ).locals := fun d mL mc ms h1 h2 => by rw [hR]; exact rmL_le h1 h2
  show J Γ 1 (HS κ A s0) 0 0 0 [(0, .ref a0)] []
  unfold f4_skill at hF
  refine j_blk (pc' := 2) (lv' := [(0, .ref a0)]) (st' := [.ref a0, .int (Int32.ofInt 2)]) E b_c4_skill_0_2 rfl ?_
  obtain ⟨c3, hc, hF⟩ := obd_at hF
  obtain ⟨hc12, hF⟩ := ogd_at hF
  obtain ⟨v2, he1, hF⟩ := obd_at hF
  refine j_callx [] [.int (Int32.ofInt 2)] E w_RX4_7 (hroom 0 1 (by decide) (by decide)) hAA (c6_skill _ κ A _ _  he1) hc (blt_of hc12) (fun _ _ _ h _ _ => h) rfl rfl (by decide) d_c4_skill_2 ⟨Nat.zero_le _, Nat.zero_le _⟩ ?_
  refine j_blk (pc' := 6) (lv' := [(0, .ref a0)]) (st' := [.int ((Int32.ofInt 2) * v2)]) E b_c4_skill_5_1 rfl ?_
  have e : res = (Int32.ofInt 2) * v2 := g_inj hF
  subst e
  exact j_iret E hQ d_c4_skill_6 (fun _ h => h)
theorem b_c4_cost_0_1 : bdec cX4_cost 0 [.aload_n 0] = true := by decide +kernel
theorem d_c4_cost_1 : decode cX4_cost 1 = .ok (.invokespecial 17, 3) := by decide +kernel
theorem b_c4_cost_4_1 : bdec cX4_cost 4 [.aload_n 0] = true := by decide +kernel
theorem d_c4_cost_5 : decode cX4_cost 5 = .ok (.getfield 11, 3) := by decide +kernel
theorem b_c4_cost_8_1 : bdec cX4_cost 8 [.iadd] = true := by decide +kernel
theorem d_c4_cost_9 : decode cX4_cost 9 = .ok (.ireturn, 1) := by decide +kernel
def f4_cost (s0 : HM) (a0 : Nat) : Option (Int32) := obd (hcls s0 a0) (fun c3 => ogd (Nat.blt c3 12) (obd (f6_cost s0 a0) (fun v2 => obd (hfi s0 sP 0 a0) (fun v4 => some (v2 + v4)))))
set_option maxRecDepth 100000 in
set_option maxHeartbeats 4000000 in
theorem c4_cost (l : Launch) (κ : KP) (A : Nat → Prop) (s0 : HM) (a0 : Nat) {res : Int32} (hF : f4_cost s0 a0 = some res) : Met l yX4_cost (Cond.code yX4_cost cX4_cost 1 (some .int) :: WT) (rmL 1 0 0) (PP κ A [.ref a0] (HS κ A s0)) (QQ (some (.int res)) (HS κ A s0) A) 0 0 A := by
  refine met_of (own := RX4) (by decide) rfl (Nat.le_of_ble_eq_true rfl) ?_
  intro Γ E hQ hL hR hA hent hini
  have hAA : ∀ q, A q → jA Γ q := fun q h => by rw [hA]; exact h
  have hroom : ∀ (d mL : Nat) {mc ms : Nat}, d < 1 → mL ≤ 21 → (rmL d mc ms).frames + 1 ≤ (jR Γ).frames ∧ 8 + (mL + 11) + (rmL d mc ms).locals ≤ (jR Γ).locals := fun d mL mc ms h1 h2 => by rw [hR]; exact rmL_le h1 h2
  show J Γ 1 (HS κ A s0) 0 0 0 [(0, .ref a0)] []
  unfold f4_cost at hF
  refine j_blk (pc' := 1) (lv' := [(0, .ref a0)]) (st' := [.ref a0]) E b_c4_cost_0_1 rfl ?_
  obtain ⟨c3, hc, hF⟩ := obd_at hF
  obtain ⟨hc12, hF⟩ := ogd_at hF
  obtain ⟨v2, he1, hF⟩ := obd_at hF
  refine j_callx [] [] E w_RX4_17 (hroom 0 1 (by decide) (by decide)) hAA (c6_cost _ κ A _ _  he1) hc (blt_of hc12) (fun _ _ _ h _ _ => h) rfl rfl (by decide) d_c4_cost_1 ⟨Nat.zero_le _, Nat.zero_le _⟩ ?_
  refine j_blk (pc' := 5) (lv' := [(0, .ref a0)]) (st' := [.ref a0, .int v2]) E b_c4_cost_4_1 rfl ?_
  obtain ⟨v4, ev4, hF⟩ := obd_at hF
  refine j_getI E fg_RX4_11 d_c4_cost_5 ev4 ?_
  refine j_blk (pc' := 9) (lv' := [(0, .ref a0)]) (st' := [.int (v2 + v4)]) E b_c4_cost_8_1 rfl ?_
  have e : res = v2 + v4 := g_inj hF
  subst e
  exact j_iret E hQ d_c4_cost_9 (fun _ h => h)
theorem b_c5_cost_0_1 : bdec cX5_cost 0 [.aload_n 0] = true := by decide +kernel
theorem d_c5_cost_1 : decode cX5_cost 1 = .ok (.invokespecial 7, 3) := by decide +kernel
theorem b_c5_cost_4_2 : bdec cX5_cost 4 [.iconst 2, .isub] = true := by decide +kernel
theorem d_c5_cost_6 : decode cX5_cost 6 = .ok (.ireturn, 1) := by decide +kernel
def f5_cost (s0 : HM) (a0 : Nat) : Option (Int32) := obd (hcls s0 a0) (fun c3 => ogd (Nat.blt c3 12) (obd (f6_cost s0 a0) (fun v2 => some (v2 - (Int32.ofInt 2)))))
set_option maxRecDepth 100000 in
set_option maxHeartbeats 4000000 in
theorem c5_cost (l : Launch) (κ : KP) (A : Nat → Prop) (s0 : HM) (a0 : Nat) {res : Int32} (hF : f5_cost s0 a0 = some res) : Met l yX5_cost (Cond.code yX5_cost cX5_cost 1 (some .int) :: WT) (rmL 1 0 0) (PP κ A [.ref a0] (HS κ A s0)) (QQ (some (.int res)) (HS κ A s0) A) 0 0 A := by
  refine met_of (own := RX5) (by decide) rfl (Nat.le_of_ble_eq_true rfl) ?_
  intro Γ E hQ hL hR hA hent hini
  have hAA : ∀ q, A q → jA Γ q := fun q h => by rw [hA]; exact h
  have hroom : ∀ (d mL : Nat) {mc ms : Nat}, d < 1 → mL ≤ 21 → (rmL d mc ms).frames + 1 ≤ (jR Γ).frames ∧ 8 + (mL + 11) + (rmL d mc ms).locals ≤ (jR Γ).locals := fun d mL mc ms h1 h2 => by rw [hR]; exact rmL_le h1 h2
  show J Γ 1 (HS κ A s0) 0 0 0 [(0, .ref a0)] []
  unfold f5_cost at hF
  refine j_blk (pc' := 1) (lv' := [(0, .ref a0)]) (st' := [.ref a0]) E b_c5_cost_0_1 rfl ?_
  obtain ⟨c3, hc, hF⟩ := obd_at hF
  obtain ⟨hc12, hF⟩ := ogd_at hF
  obtain ⟨v2, he1, hF⟩ := obd_at hF
  refine j_callx [] [] E w_RX5_7 (hroom 0 1 (by decide) (by decide)) hAA (c6_cost _ κ A _ _  he1) hc (blt_of hc12) (fun _ _ _ h _ _ => h) rfl rfl (by decide) d_c5_cost_1 ⟨Nat.zero_le _, Nat.zero_le _⟩ ?_
  refine j_blk (pc' := 6) (lv' := [(0, .ref a0)]) (st' := [.int (v2 - (Int32.ofInt 2))]) E b_c5_cost_4_2 rfl ?_
  have e : res = v2 - (Int32.ofInt 2) := g_inj hF
  subst e
  exact j_iret E hQ d_c5_cost_6 (fun _ h => h)
theorem b_c6_init_0_1 : bdec cX6_init 0 [.aload_n 0] = true := by decide +kernel
theorem d_c6_init_1 : decode cX6_init 1 = .ok (.invokespecial 1, 3) := by decide +kernel
theorem b_c6_init_4_2 : bdec cX6_init 4 [.aload_n 0, .iload_n 1] = true := by decide +kernel
theorem d_c6_init_6 : decode cX6_init 6 = .ok (.putfield 7, 3) := by decide +kernel
theorem d_c6_init_9 : decode cX6_init 9 = .ok (.return_, 1) := by decide +kernel
def f6_init (s0 : HM) (a0 : Nat) (p1 : Int32) : Option (HM) := obd (hput s0 sP 0 a0 (.int p1)) (fun s1 => some s1)
set_option maxRecDepth 100000 in
set_option maxHeartbeats 4000000 in
theorem c6_init (l : Launch) (κ : KP) (A : Nat → Prop) (s0 : HM) (a0 : Nat) (p1 : Int32) {res : HM} (hF : f6_init s0 a0 p1 = some res) : Met l yX6_init (Cond.code yX6_init cX6_init 2 none :: WT) (rmL 1 0 0) (PP κ A [.ref a0, .int p1] (HS κ A s0)) (QQ none (HS κ A res) A) 0 0 A := by
  refine met_of (own := RX6) (by decide) rfl (Nat.le_of_ble_eq_true rfl) ?_
  intro Γ E hQ hL hR hA hent hini
  have hAA : ∀ q, A q → jA Γ q := fun q h => by rw [hA]; exact h
  have hroom : ∀ (d mL : Nat) {mc ms : Nat}, d < 1 → mL ≤ 21 → (rmL d mc ms).frames + 1 ≤ (jR Γ).frames ∧ 8 + (mL + 11) + (rmL d mc ms).locals ≤ (jR Γ).locals := fun d mL mc ms h1 h2 => by rw [hR]; exact rmL_le h1 h2
  show J Γ 2 (HS κ A s0) 0 0 0 [(0, .ref a0), (1, .int p1)] []
  unfold f6_init at hF
  refine j_blk (pc' := 1) (lv' := [(0, .ref a0), (1, .int p1)]) (st' := [.ref a0]) E b_c6_init_0_1 rfl ?_
  refine j_obj E ⟨m_78, m_71, m_72⟩ d_c6_init_1 (by rw [hR]; decide) (by rw [hR]; decide) ?_
  refine j_blk (pc' := 6) (lv' := [(0, .ref a0), (1, .int p1)]) (st' := [.int p1, .ref a0]) E b_c6_init_4_2 rfl ?_
  obtain ⟨s1, es1, hF⟩ := obd_at hF
  refine j_putF E fp_RX6_7 (hini rfl) d_c6_init_6 rfl rfl es1 hAA ?_
  have e : res = s1 := g_inj hF
  subst e
  exact j_vret E hQ d_c6_init_9 (fun _ h => h)
theorem b_c8_init_0_1 : bdec cX8_init 0 [.aload_n 0] = true := by decide +kernel
theorem d_c8_init_1 : decode cX8_init 1 = .ok (.invokespecial 1, 3) := by decide +kernel
theorem b_c8_init_4_2 : bdec cX8_init 4 [.aload_n 0, .iload_n 1] = true := by decide +kernel
theorem d_c8_init_6 : decode cX8_init 6 = .ok (.putfield 7, 3) := by decide +kernel
theorem b_c8_init_9_2 : bdec cX8_init 9 [.aload_n 0, .aload_n 2] = true := by decide +kernel
theorem d_c8_init_11 : decode cX8_init 11 = .ok (.putfield 13, 3) := by decide +kernel
theorem d_c8_init_14 : decode cX8_init 14 = .ok (.return_, 1) := by decide +kernel
def f8_init (s0 : HM) (a0 : Nat) (p1 : Int32) (p2 : Nat) : Option (HM) := obd (hput s0 [8] 0 a0 (.int p1)) (fun s1 => obd (hput s1 [8] 1 a0 (.ref p2)) (fun s2 => some s2))
set_option maxRecDepth 100000 in
set_option maxHeartbeats 4000000 in
theorem c8_init (l : Launch) (κ : KP) (A : Nat → Prop) (s0 : HM) (a0 : Nat) (p1 : Int32) (p2 : Nat) {res : HM} (hF : f8_init s0 a0 p1 p2 = some res) : Met l yX8_init (Cond.code yX8_init cX8_init 3 none :: WT) (rmL 1 0 0) (PP κ A [.ref a0, .int p1, .ref p2] (HS κ A s0)) (QQ none (HS κ A res) A) 0 0 A := by
  refine met_of (own := RX8) (by decide) rfl (Nat.le_of_ble_eq_true rfl) ?_
  intro Γ E hQ hL hR hA hent hini
  have hAA : ∀ q, A q → jA Γ q := fun q h => by rw [hA]; exact h
  have hroom : ∀ (d mL : Nat) {mc ms : Nat}, d < 1 → mL ≤ 21 → (rmL d mc ms).frames + 1 ≤ (jR Γ).frames ∧ 8 + (mL + 11) + (rmL d mc ms).locals ≤ (jR Γ).locals := fun d mL mc ms h1 h2 => by rw [hR]; exact rmL_le h1 h2
  show J Γ 3 (HS κ A s0) 0 0 0 [(0, .ref a0), (1, .int p1), (2, .ref p2)] []
  unfold f8_init at hF
  refine j_blk (pc' := 1) (lv' := [(0, .ref a0), (1, .int p1), (2, .ref p2)]) (st' := [.ref a0]) E b_c8_init_0_1 rfl ?_
  refine j_obj E ⟨m_632, m_71, m_72⟩ d_c8_init_1 (by rw [hR]; decide) (by rw [hR]; decide) ?_
  refine j_blk (pc' := 6) (lv' := [(0, .ref a0), (1, .int p1), (2, .ref p2)]) (st' := [.int p1, .ref a0]) E b_c8_init_4_2 rfl ?_
  obtain ⟨s1, es1, hF⟩ := obd_at hF
  refine j_putF E fp_RX8_7 (hini rfl) d_c8_init_6 rfl rfl es1 hAA ?_
  refine j_blk (pc' := 11) (lv' := [(0, .ref a0), (1, .int p1), (2, .ref p2)]) (st' := [.ref p2, .ref a0]) E b_c8_init_9_2 rfl ?_
  obtain ⟨s2, es2, hF⟩ := obd_at hF
  refine j_putF E fp_RX8_13 (hini rfl) d_c8_init_11 rfl rfl es2 hAA ?_
  have e : res = s2 := g_inj hF
  subst e
  exact j_vret E hQ d_c8_init_14 (fun _ h => h)
theorem b_c8_at_0_3 : bdec cX8_at 0 [.aload_n 0, .iload_n 1, .iconst 1] = true := by decide +kernel
theorem d_c8_at_3 : decode cX8_at 3 = .ok (.invokevirtual 17, 3) := by decide +kernel
theorem d_c8_at_6 : decode cX8_at 6 = .ok (.ifCond .eq 12, 3) := by decide +kernel
theorem b_c8_at_18_1 : bdec cX8_at 18 [.iconst (-1)] = true := by decide +kernel
theorem d_c8_at_19 : decode cX8_at 19 = .ok (.ireturn, 1) := by decide +kernel
theorem b_c8_at_9_1 : bdec cX8_at 9 [.aload_n 0] = true := by decide +kernel
theorem d_c8_at_10 : decode cX8_at 10 = .ok (.getfield 13, 3) := by decide +kernel
theorem b_c8_at_13_1 : bdec cX8_at 13 [.iload_n 1] = true := by decide +kernel
theorem d_c8_at_14 : decode cX8_at 14 = .ok (.iaload, 1) := by decide +kernel
theorem d_c8_at_15 : decode cX8_at 15 = .ok (.goto 4, 3) := by decide +kernel
def f8_at (s0 : HM) (a0 : Nat) (p1 : Int32) : Option (Int32) := ocl s0 a0 8 (obd (f8_hasPlaces s0 a0 p1 (Int32.ofInt 1)) (fun v2 => if v2 = 0 then (some (Int32.ofInt (-1))) else (obd (hfld s0 [8] 1 a0) (fun v4 => orf v4 (fun b5 => obd (hald s0 b5 p1) (fun v6 => some v6))))))
set_option maxRecDepth 100000 in
set_option maxHeartbeats 4000000 in
theorem c8_at (l : Launch) (κ : KP) (A : Nat → Prop) (s0 : HM) (a0 : Nat) (p1 : Int32) {res : Int32} (hF : f8_at s0 a0 p1 = some res) : Met l yX8_at (Cond.code yX8_at cX8_at 2 (some .int) :: WT) (rmL 1 0 0) (PP κ A [.ref a0, .int p1] (HS κ A s0)) (QQ (some (.int res)) (HS κ A s0) A) 0 0 A := by
  refine met_of (own := RX8) (by decide) rfl (Nat.le_of_ble_eq_true rfl) ?_
  intro Γ E hQ hL hR hA hent hini
  have hAA : ∀ q, A q → jA Γ q := fun q h => by rw [hA]; exact h
  have hroom : ∀ (d mL : Nat) {mc ms : Nat}, d < 1 → mL ≤ 21 → (rmL d mc ms).frames + 1 ≤ (jR Γ).frames ∧ 8 + (mL + 11) + (rmL d mc ms).locals ≤ (jR Γ).locals := fun d mL mc ms h1 h2 => by rw [hR]; exact rmL_le h1 h2
  show J Γ 2 (HS κ A s0) 0 0 0 [(0, .ref a0), (1, .int p1)] []
  unfold f8_at at hF
  refine j_blk (pc' := 3) (lv' := [(0, .ref a0), (1, .int p1)]) (st' := [.int (Int32.ofInt 1), .int p1, .ref a0]) E b_c8_at_0_3 rfl ?_
  obtain ⟨hc, hF⟩ := ocl_at hF
  obtain ⟨v2, he1, hF⟩ := obd_at hF
  refine j_callv [.int p1, .int (Int32.ofInt 1)] [] E w_RX8_17 (hroom 0 3 (by decide) (by decide)) hAA (c8_hasPlaces _ κ A _ _ _ _  he1) (fun _ h => h) (fun _ _ _ h _ _ => h) (fun _ h => j_recv E h hc rfl) rfl rfl (by decide) d_c8_at_3 ⟨Nat.zero_le _, Nat.zero_le _⟩ ?_
  refine j_if_eq (tgt := 18) E d_c8_at_6 (by decide) (fun h3 => ?_) (fun h3 => ?_)
  · have hF := g_t hF h3
    refine j_blk (pc' := 19) (lv' := [(0, .ref a0), (1, .int p1)]) (st' := [.int (Int32.ofInt (-1))]) E b_c8_at_18_1 rfl ?_
    have e : res = Int32.ofInt (-1) := g_inj hF
    subst e
    exact j_iret E hQ d_c8_at_19 (fun _ h => h)
  · have hF := g_f hF h3
    refine j_blk (pc' := 10) (lv' := [(0, .ref a0), (1, .int p1)]) (st' := [.ref a0]) E b_c8_at_9_1 rfl ?_
    obtain ⟨v4, ev4, hF⟩ := obd_at hF
    refine j_getf E fg_RX8_13 d_c8_at_10 ev4 ?_
    refine j_blk (pc' := 14) (lv' := [(0, .ref a0), (1, .int p1)]) (st' := [.int p1, v4]) E b_c8_at_13_1 rfl ?_
    obtain ⟨b5, rfl, hF⟩ := orf_at hF
    obtain ⟨v6, ev6, hF⟩ := obd_at hF
    refine j_iald E d_c8_at_14 ev6 ?_
    refine j_goto (tgt := 19) E d_c8_at_15 (by decide) ?_
    have e : res = v6 := g_inj hF
    subst e
    exact j_iret E hQ d_c8_at_19 (fun _ h => h)
theorem b_c8_change_0_3 : bdec cX8_change 0 [.aload_n 0, .iload_n 1, .iconst 1] = true := by decide +kernel
theorem d_c8_change_3 : decode cX8_change 3 = .ok (.invokevirtual 17, 3) := by decide +kernel
theorem d_c8_change_6 : decode cX8_change 6 = .ok (.ifCond .ne 4, 3) := by decide +kernel
theorem b_c8_change_10_1 : bdec cX8_change 10 [.aload_n 0] = true := by decide +kernel
theorem d_c8_change_11 : decode cX8_change 11 = .ok (.getfield 7, 3) := by decide +kernel
theorem d_c8_change_14 : decode cX8_change 14 = .ok (.lookupswitch 48 #[(0, 26), (1, 37)], 26) := by decide +kernel
theorem b_c8_change_40_1 : bdec cX8_change 40 [.aload_n 0] = true := by decide +kernel
theorem d_c8_change_41 : decode cX8_change 41 = .ok (.getfield 13, 3) := by decide +kernel
theorem b_c8_change_44_3 : bdec cX8_change 44 [.iload_n 1, .iload_n 2, .i2b] = true := by decide +kernel
theorem d_c8_change_47 : decode cX8_change 47 = .ok (.iastore, 1) := by decide +kernel
theorem d_c8_change_48 : decode cX8_change 48 = .ok (.goto 21, 3) := by decide +kernel
theorem d_c8_change_69 : decode cX8_change 69 = .ok (.return_, 1) := by decide +kernel
theorem b_c8_change_51_1 : bdec cX8_change 51 [.aload_n 0] = true := by decide +kernel
theorem d_c8_change_52 : decode cX8_change 52 = .ok (.getfield 13, 3) := by decide +kernel
theorem b_c8_change_55_3 : bdec cX8_change 55 [.iload_n 1, .iload_n 2, .i2s] = true := by decide +kernel
theorem d_c8_change_58 : decode cX8_change 58 = .ok (.iastore, 1) := by decide +kernel
theorem d_c8_change_59 : decode cX8_change 59 = .ok (.goto 10, 3) := by decide +kernel
theorem b_c8_change_62_1 : bdec cX8_change 62 [.aload_n 0] = true := by decide +kernel
theorem d_c8_change_63 : decode cX8_change 63 = .ok (.getfield 13, 3) := by decide +kernel
theorem b_c8_change_66_2 : bdec cX8_change 66 [.iload_n 1, .iload_n 2] = true := by decide +kernel
theorem d_c8_change_68 : decode cX8_change 68 = .ok (.iastore, 1) := by decide +kernel
theorem d_c8_change_9 : decode cX8_change 9 = .ok (.return_, 1) := by decide +kernel
def f8_change (s0 : HM) (a0 : Nat) (p1 : Int32) (p2 : Int32) : Option (HM) := ocl s0 a0 8 (obd (f8_hasPlaces s0 a0 p1 (Int32.ofInt 1)) (fun v2 => if v2 = 0 then (some s0) else (obd (hfi s0 [8] 0 a0) (fun v4 => if v4 = 0 then (obd (hfld s0 [8] 1 a0) (fun v6 => orf v6 (fun b7 => obd (hast s0 b7 p1 p2.toInt8.toInt32) (fun s8 => some s8)))) else (if v4 = 1 then (obd (hfld s0 [8] 1 a0) (fun v10 => orf v10 (fun b11 => obd (hast s0 b11 p1 p2.toInt16.toInt32) (fun s12 => some s12)))) else (obd (hfld s0 [8] 1 a0) (fun v13 => orf v13 (fun b14 => obd (hast s0 b14 p1 p2) (fun s15 => some s15)))))))))
set_option maxRecDepth 100000 in
set_option maxHeartbeats 4000000 in
theorem c8_change (l : Launch) (κ : KP) (A : Nat → Prop) (s0 : HM) (a0 : Nat) (p1 : Int32) (p2 : Int32) {res : HM} (hF : f8_change s0 a0 p1 p2 = some res) : Met l yX8_change (Cond.code yX8_change cX8_change 3 none :: WT) (rmL 1 0 0) (PP κ A [.ref a0, .int p1, .int p2] (HS κ A s0)) (QQ none (HS κ A res) A) 0 0 A := by
  refine met_of (own := RX8) (by decide) rfl (Nat.le_of_ble_eq_true rfl) ?_
  intro Γ E hQ hL hR hA hent hini
  have hAA : ∀ q, A q → jA Γ q := fun q h => by rw [hA]; exact h
  have hroom : ∀ (d mL : Nat) {mc ms : Nat}, d < 1 → mL ≤ 21 → (rmL d mc ms).frames + 1 ≤ (jR Γ).frames ∧ 8 + (mL + 11) + (rmL d mc ms).locals ≤ (jR Γ).locals := fun d mL mc ms h1 h2 => by rw [hR]; exact rmL_le h1 h2
  show J Γ 3 (HS κ A s0) 0 0 0 [(0, .ref a0), (1, .int p1), (2, .int p2)] []
  unfold f8_change at hF
  refine j_blk (pc' := 3) (lv' := [(0, .ref a0), (1, .int p1), (2, .int p2)]) (st' := [.int (Int32.ofInt 1), .int p1, .ref a0]) E b_c8_change_0_3 rfl ?_
  obtain ⟨hc, hF⟩ := ocl_at hF
  obtain ⟨v2, he1, hF⟩ := obd_at hF
  refine j_callv [.int p1, .int (Int32.ofInt 1)] [] E w_RX8_17 (hroom 0 3 (by decide) (by decide)) hAA (c8_hasPlaces _ κ A _ _ _ _  he1) (fun _ h => h) (fun _ _ _ h _ _ => h) (fun _ h => j_recv E h hc rfl) rfl rfl (by decide) d_c8_change_3 ⟨Nat.zero_le _, Nat.zero_le _⟩ ?_
  refine j_if_ne (tgt := 10) E d_c8_change_6 (by decide) (fun h3 => ?_) (fun h3 => ?_)
  · have hF := g_f hF h3
    refine j_blk (pc' := 11) (lv' := [(0, .ref a0), (1, .int p1), (2, .int p2)]) (st' := [.ref a0]) E b_c8_change_10_1 rfl ?_
    obtain ⟨v4, ev4, hF⟩ := obd_at hF
    refine j_getI E fg_RX8_7 d_c8_change_11 ev4 ?_
    rcases Decidable.em (v4 = 0) with h5 | h5
    · have hF := g_t hF h5
      refine j_lkp (tgt := 40) (off := 26) E d_c8_change_14 (by decide) (by rw [h5]; decide) (by decide) ?_
      refine j_blk (pc' := 41) (lv' := [(0, .ref a0), (1, .int p1), (2, .int p2)]) (st' := [.ref a0]) E b_c8_change_40_1 rfl ?_
      obtain ⟨v6, ev6, hF⟩ := obd_at hF
      refine j_getf E fg_RX8_13 d_c8_change_41 ev6 ?_
      refine j_blk (pc' := 47) (lv' := [(0, .ref a0), (1, .int p1), (2, .int p2)]) (st' := [.int p2.toInt8.toInt32, .int p1, v6]) E b_c8_change_44_3 rfl ?_
      obtain ⟨b7, rfl, hF⟩ := orf_at hF
      obtain ⟨s8, es8, hF⟩ := obd_at hF
      refine j_iast E d_c8_change_47 es8 hAA ?_
      refine j_goto (tgt := 69) E d_c8_change_48 (by decide) ?_
      have e : res = s8 := g_inj hF
      subst e
      exact j_vret E hQ d_c8_change_69 (fun _ h => h)
    · have hF := g_f hF h5
      rcases Decidable.em (v4 = 1) with h9 | h9
      · have hF := g_t hF h9
        refine j_lkp (tgt := 51) (off := 37) E d_c8_change_14 (by decide) (by rw [h9]; decide) (by decide) ?_
        refine j_blk (pc' := 52) (lv' := [(0, .ref a0), (1, .int p1), (2, .int p2)]) (st' := [.ref a0]) E b_c8_change_51_1 rfl ?_
        obtain ⟨v10, ev10, hF⟩ := obd_at hF
        refine j_getf E fg_RX8_13 d_c8_change_52 ev10 ?_
        refine j_blk (pc' := 58) (lv' := [(0, .ref a0), (1, .int p1), (2, .int p2)]) (st' := [.int p2.toInt16.toInt32, .int p1, v10]) E b_c8_change_55_3 rfl ?_
        obtain ⟨b11, rfl, hF⟩ := orf_at hF
        obtain ⟨s12, es12, hF⟩ := obd_at hF
        refine j_iast E d_c8_change_58 es12 hAA ?_
        refine j_goto (tgt := 69) E d_c8_change_59 (by decide) ?_
        have e : res = s12 := g_inj hF
        subst e
        exact j_vret E hQ d_c8_change_69 (fun _ h => h)
      · have hF := g_f hF h9
        refine j_lkp (tgt := 62) (off := 48) E d_c8_change_14 (by decide) ((lv_osw h5 (by decide)).trans ((lv_osw h9 (by decide)).trans rfl)) (by decide) ?_
        refine j_blk (pc' := 63) (lv' := [(0, .ref a0), (1, .int p1), (2, .int p2)]) (st' := [.ref a0]) E b_c8_change_62_1 rfl ?_
        obtain ⟨v13, ev13, hF⟩ := obd_at hF
        refine j_getf E fg_RX8_13 d_c8_change_63 ev13 ?_
        refine j_blk (pc' := 68) (lv' := [(0, .ref a0), (1, .int p1), (2, .int p2)]) (st' := [.int p2, .int p1, v13]) E b_c8_change_66_2 rfl ?_
        obtain ⟨b14, rfl, hF⟩ := orf_at hF
        obtain ⟨s15, es15, hF⟩ := obd_at hF
        refine j_iast E d_c8_change_68 es15 hAA ?_
        have e : res = s15 := g_inj hF
        subst e
        exact j_vret E hQ d_c8_change_69 (fun _ h => h)
  · have hF := g_t hF h3
    have e : res = s0 := g_inj hF
    subst e
    exact j_vret E hQ d_c8_change_9 (fun _ h => h)
theorem b_c9_countsWith_0_2 : bdec cX9_countsWith 0 [.aload_n 0, .iload_n 1] = true := by decide +kernel
theorem d_c9_countsWith_2 : decode cX9_countsWith 2 = .ok (.invokespecial 11, 3) := by decide +kernel
theorem d_c9_countsWith_5 : decode cX9_countsWith 5 = .ok (.ifCond .ne 10, 3) := by decide +kernel
theorem b_c9_countsWith_15_1 : bdec cX9_countsWith 15 [.iconst 1] = true := by decide +kernel
theorem d_c9_countsWith_16 : decode cX9_countsWith 16 = .ok (.goto 4, 3) := by decide +kernel
theorem d_c9_countsWith_20 : decode cX9_countsWith 20 = .ok (.ireturn, 1) := by decide +kernel
theorem b_c9_countsWith_8_2 : bdec cX9_countsWith 8 [.iload_n 1, .iconst 2] = true := by decide +kernel
theorem d_c9_countsWith_10 : decode cX9_countsWith 10 = .ok (.irem, 1) := by decide +kernel
theorem b_c9_countsWith_11_1 : bdec cX9_countsWith 11 [.iconst 1] = true := by decide +kernel
theorem d_c9_countsWith_12 : decode cX9_countsWith 12 = .ok (.if_icmp .ne 7, 3) := by decide +kernel
theorem b_c9_countsWith_19_1 : bdec cX9_countsWith 19 [.iconst 0] = true := by decide +kernel
def f9_countsWith (s0 : HM) (a0 : Nat) (p1 : Int32) : Option (Int32) := obd (hcls s0 a0) (fun c3 => ogd (Nat.blt c3 12) (obd (f4_countsWith s0 a0 p1) (fun v2 => if v2 = 0 then (onz (Int32.ofInt 2) (if (p1 - p1 / (Int32.ofInt 2) * (Int32.ofInt 2)) = (Int32.ofInt 1) then (some (Int32.ofInt 1)) else (some (Int32.ofInt 0)))) else (some (Int32.ofInt 1)))))
set_option maxRecDepth 100000 in
set_option maxHeartbeats 4000000 in
theorem c9_countsWith (l : Launch) (κ : KP) (A : Nat → Prop) (s0 : HM) (a0 : Nat) (p1 : Int32) {res : Int32} (hF : f9_countsWith s0 a0 p1 = some res) : Met l yX9_countsWith (Cond.code yX9_countsWith cX9_countsWith 2 (some .boolean) :: WT) (rmL 1 0 0) (PP κ A [.ref a0, .int p1] (HS κ A s0)) (QQ (some (.int res)) (HS κ A s0) A) 0 0 A := by
  refine met_of (own := RX9) (by decide) rfl (Nat.le_of_ble_eq_true rfl) ?_
  intro Γ E hQ hL hR hA hent hini
  have hAA : ∀ q, A q → jA Γ q := fun q h => by rw [hA]; exact h
  have hroom : ∀ (d mL : Nat) {mc ms : Nat}, d < 1 → mL ≤ 21 → (rmL d mc ms).frames + 1 ≤ (jR Γ).frames ∧ 8 + (mL + 11) + (rmL d mc ms).locals ≤ (jR Γ).locals := fun d mL mc ms h1 h2 => by rw [hR]; exact rmL_le h1 h2
  show J Γ 2 (HS κ A s0) 0 0 0 [(0, .ref a0), (1, .int p1)] []
  unfold f9_countsWith at hF
  refine j_blk (pc' := 2) (lv' := [(0, .ref a0), (1, .int p1)]) (st' := [.int p1, .ref a0]) E b_c9_countsWith_0_2 rfl ?_
  obtain ⟨c3, hc, hF⟩ := obd_at hF
  obtain ⟨hc12, hF⟩ := ogd_at hF
  obtain ⟨v2, he1, hF⟩ := obd_at hF
  refine j_callx [.int p1] [] E w_RX9_11 (hroom 0 2 (by decide) (by decide)) hAA (c4_countsWith _ κ A _ _ _  he1) hc (blt_of hc12) (fun _ _ _ h _ _ => h) rfl rfl (by decide) d_c9_countsWith_2 ⟨Nat.zero_le _, Nat.zero_le _⟩ ?_
  refine j_if_ne (tgt := 15) E d_c9_countsWith_5 (by decide) (fun h4 => ?_) (fun h4 => ?_)
  · have hF := g_f hF h4
    refine j_blk (pc' := 16) (lv' := [(0, .ref a0), (1, .int p1)]) (st' := [.int (Int32.ofInt 1)]) E b_c9_countsWith_15_1 rfl ?_
    refine j_goto (tgt := 20) E d_c9_countsWith_16 (by decide) ?_
    have e : res = Int32.ofInt 1 := g_inj hF
    subst e
    exact j_zret E hQ nb_1 d_c9_countsWith_20 (fun _ h => h)
  · have hF := g_t hF h4
    refine j_blk (pc' := 10) (lv' := [(0, .ref a0), (1, .int p1)]) (st' := [.int (Int32.ofInt 2), .int p1]) E b_c9_countsWith_8_2 rfl ?_
    obtain ⟨h0, hF⟩ := onz_at hF
    refine j_irem E d_c9_countsWith_10 h0 ?_
    refine j_blk (pc' := 12) (lv' := [(0, .ref a0), (1, .int p1)]) (st' := [.int (Int32.ofInt 1), .int (p1 - p1 / (Int32.ofInt 2) * (Int32.ofInt 2))]) E b_c9_countsWith_11_1 rfl ?_
    refine j_icmp_ne (tgt := 19) E d_c9_countsWith_12 (by decide) (fun h5 => ?_) (fun h5 => ?_)
    · have hF := g_f hF h5
      refine j_blk (pc' := 20) (lv' := [(0, .ref a0), (1, .int p1)]) (st' := [.int (Int32.ofInt 0)]) E b_c9_countsWith_19_1 rfl ?_
      have e : res = Int32.ofInt 0 := g_inj hF
      subst e
      exact j_zret E hQ nb_0 d_c9_countsWith_20 (fun _ h => h)
    · have hF := g_t hF h5
      refine j_blk (pc' := 16) (lv' := [(0, .ref a0), (1, .int p1)]) (st' := [.int (Int32.ofInt 1)]) E b_c9_countsWith_15_1 rfl ?_
      refine j_goto (tgt := 20) E d_c9_countsWith_16 (by decide) ?_
      have e : res = Int32.ofInt 1 := g_inj hF
      subst e
      exact j_zret E hQ nb_1 d_c9_countsWith_20 (fun _ h => h)
theorem b_c0_init_0_2 : bdec cX0_init 0 [.aload_n 0, .iload_n 1] = true := by decide +kernel
theorem d_c0_init_2 : decode cX0_init 2 = .ok (.invokespecial 1, 3) := by decide +kernel
theorem d_c0_init_5 : decode cX0_init 5 = .ok (.return_, 1) := by decide +kernel
def f0_init (s0 : HM) (a0 : Nat) (p1 : Int32) : Option (HM) := obd (f6_init s0 a0 p1) (fun s2 => some s2)
set_option maxRecDepth 100000 in
set_option maxHeartbeats 4000000 in
theorem c0_init (l : Launch) (κ : KP) (A : Nat → Prop) (s0 : HM) (a0 : Nat) (p1 : Int32) {res : HM} (hF : f0_init s0 a0 p1 = some res) : Met l yX0_init (Cond.code yX0_init cX0_init 2 none :: WT) (rmL 2 0 0) (PP κ A [.ref a0, .int p1] (HS κ A s0)) (QQ none (HS κ A res) A) 0 0 A := by
  refine met_of (own := RX0) (by decide) rfl (Nat.le_of_ble_eq_true rfl) ?_
  intro Γ E hQ hL hR hA hent hini
  have hAA : ∀ q, A q → jA Γ q := fun q h => by rw [hA]; exact h
  have hroom : ∀ (d mL : Nat) {mc ms : Nat}, d < 2 → mL ≤ 21 → (rmL d mc ms).frames + 1 ≤ (jR Γ).frames ∧ 8 + (mL + 11) + (rmL d mc ms).locals ≤ (jR Γ).locals := fun d mL mc ms h1 h2 => by rw [hR]; exact rmL_le h1 h2
  show J Γ 2 (HS κ A s0) 0 0 0 [(0, .ref a0), (1, .int p1)] []
  unfold f0_init at hF
  refine j_blk (pc' := 2) (lv' := [(0, .ref a0), (1, .int p1)]) (st' := [.int p1, .ref a0]) E b_c0_init_0_2 rfl ?_
  obtain ⟨s2, he1, hF⟩ := obd_at hF
  refine j_calli [.int p1] [] E w_RX0_1 (hroom 1 2 (by decide) (by decide)) hAA (c6_init _ κ A _ _ _  he1) (fun _ h => h) (fun _ _ _ h _ _ => h) rfl rfl (by decide) d_c0_init_2 ⟨Nat.zero_le _, Nat.zero_le _⟩ ?_
  have e : res = s2 := g_inj hF
  subst e
  exact j_vret E hQ d_c0_init_5 (fun _ h => h)
theorem b_c1_init_0_2 : bdec cX1_init 0 [.aload_n 0, .iload_n 1] = true := by decide +kernel
theorem d_c1_init_2 : decode cX1_init 2 = .ok (.invokespecial 1, 3) := by decide +kernel
theorem d_c1_init_5 : decode cX1_init 5 = .ok (.return_, 1) := by decide +kernel
def f1_init (s0 : HM) (a0 : Nat) (p1 : Int32) : Option (HM) := obd (f6_init s0 a0 p1) (fun s2 => some s2)
set_option maxRecDepth 100000 in
set_option maxHeartbeats 4000000 in
theorem c1_init (l : Launch) (κ : KP) (A : Nat → Prop) (s0 : HM) (a0 : Nat) (p1 : Int32) {res : HM} (hF : f1_init s0 a0 p1 = some res) : Met l yX1_init (Cond.code yX1_init cX1_init 2 none :: WT) (rmL 2 0 0) (PP κ A [.ref a0, .int p1] (HS κ A s0)) (QQ none (HS κ A res) A) 0 0 A := by
  refine met_of (own := RX1) (by decide) rfl (Nat.le_of_ble_eq_true rfl) ?_
  intro Γ E hQ hL hR hA hent hini
  have hAA : ∀ q, A q → jA Γ q := fun q h => by rw [hA]; exact h
  have hroom : ∀ (d mL : Nat) {mc ms : Nat}, d < 2 → mL ≤ 21 → (rmL d mc ms).frames + 1 ≤ (jR Γ).frames ∧ 8 + (mL + 11) + (rmL d mc ms).locals ≤ (jR Γ).locals := fun d mL mc ms h1 h2 => by rw [hR]; exact rmL_le h1 h2
  show J Γ 2 (HS κ A s0) 0 0 0 [(0, .ref a0), (1, .int p1)] []
  unfold f1_init at hF
  refine j_blk (pc' := 2) (lv' := [(0, .ref a0), (1, .int p1)]) (st' := [.int p1, .ref a0]) E b_c1_init_0_2 rfl ?_
  obtain ⟨s2, he1, hF⟩ := obd_at hF
  refine j_calli [.int p1] [] E w_RX1_1 (hroom 1 2 (by decide) (by decide)) hAA (c6_init _ κ A _ _ _  he1) (fun _ h => h) (fun _ _ _ h _ _ => h) rfl rfl (by decide) d_c1_init_2 ⟨Nat.zero_le _, Nat.zero_le _⟩ ?_
  have e : res = s2 := g_inj hF
  subst e
  exact j_vret E hQ d_c1_init_5 (fun _ h => h)
theorem b_c3_cost_0_1 : bdec cX3_cost 0 [.aload_n 0] = true := by decide +kernel
theorem d_c3_cost_1 : decode cX3_cost 1 = .ok (.invokespecial 13, 3) := by decide +kernel
theorem b_c3_cost_4_1 : bdec cX3_cost 4 [.aload_n 0] = true := by decide +kernel
theorem d_c3_cost_5 : decode cX3_cost 5 = .ok (.getfield 7, 3) := by decide +kernel
theorem b_c3_cost_8_3 : bdec cX3_cost 8 [.iconst 1, .iadd, .imul] = true := by decide +kernel
theorem d_c3_cost_11 : decode cX3_cost 11 = .ok (.ireturn, 1) := by decide +kernel
def f3_cost (s0 : HM) (a0 : Nat) : Option (Int32) := obd (hcls s0 a0) (fun c3 => ogd (Nat.blt c3 12) (obd (f5_cost s0 a0) (fun v2 => obd (hfi s0 sP 0 a0) (fun v4 => some (v2 * (v4 + (Int32.ofInt 1)))))))
set_option maxRecDepth 100000 in
set_option maxHeartbeats 4000000 in
theorem c3_cost (l : Launch) (κ : KP) (A : Nat → Prop) (s0 : HM) (a0 : Nat) {res : Int32} (hF : f3_cost s0 a0 = some res) : Met l yX3_cost (Cond.code yX3_cost cX3_cost 1 (some .int) :: WT) (rmL 2 0 0) (PP κ A [.ref a0] (HS κ A s0)) (QQ (some (.int res)) (HS κ A s0) A) 0 0 A := by
  refine met_of (own := RX3) (by decide) rfl (Nat.le_of_ble_eq_true rfl) ?_
  intro Γ E hQ hL hR hA hent hini
  have hAA : ∀ q, A q → jA Γ q := fun q h => by rw [hA]; exact h
  have hroom : ∀ (d mL : Nat) {mc ms : Nat}, d < 2 → mL ≤ 21 → (rmL d mc ms).frames + 1 ≤ (jR Γ).frames ∧ 8 + (mL + 11) + (rmL d mc ms).locals ≤ (jR Γ).locals := fun d mL mc ms h1 h2 => by rw [hR]; exact rmL_le h1 h2
  show J Γ 1 (HS κ A s0) 0 0 0 [(0, .ref a0)] []
  unfold f3_cost at hF
  refine j_blk (pc' := 1) (lv' := [(0, .ref a0)]) (st' := [.ref a0]) E b_c3_cost_0_1 rfl ?_
  obtain ⟨c3, hc, hF⟩ := obd_at hF
  obtain ⟨hc12, hF⟩ := ogd_at hF
  obtain ⟨v2, he1, hF⟩ := obd_at hF
  refine j_callx [] [] E w_RX3_13 (hroom 1 1 (by decide) (by decide)) hAA (c5_cost _ κ A _ _  he1) hc (blt_of hc12) (fun _ _ _ h _ _ => h) rfl rfl (by decide) d_c3_cost_1 ⟨Nat.zero_le _, Nat.zero_le _⟩ ?_
  refine j_blk (pc' := 5) (lv' := [(0, .ref a0)]) (st' := [.ref a0, .int v2]) E b_c3_cost_4_1 rfl ?_
  obtain ⟨v4, ev4, hF⟩ := obd_at hF
  refine j_getI E fg_RX3_7 d_c3_cost_5 ev4 ?_
  refine j_blk (pc' := 11) (lv' := [(0, .ref a0)]) (st' := [.int (v2 * (v4 + (Int32.ofInt 1)))]) E b_c3_cost_8_3 rfl ?_
  have e : res = v2 * (v4 + (Int32.ofInt 1)) := g_inj hF
  subst e
  exact j_iret E hQ d_c3_cost_11 (fun _ h => h)
theorem b_c4_init_0_2 : bdec cX4_init 0 [.aload_n 0, .iload_n 1] = true := by decide +kernel
theorem d_c4_init_2 : decode cX4_init 2 = .ok (.invokespecial 1, 3) := by decide +kernel
theorem d_c4_init_5 : decode cX4_init 5 = .ok (.return_, 1) := by decide +kernel
def f4_init (s0 : HM) (a0 : Nat) (p1 : Int32) : Option (HM) := obd (f6_init s0 a0 p1) (fun s2 => some s2)
set_option maxRecDepth 100000 in
set_option maxHeartbeats 4000000 in
theorem c4_init (l : Launch) (κ : KP) (A : Nat → Prop) (s0 : HM) (a0 : Nat) (p1 : Int32) {res : HM} (hF : f4_init s0 a0 p1 = some res) : Met l yX4_init (Cond.code yX4_init cX4_init 2 none :: WT) (rmL 2 0 0) (PP κ A [.ref a0, .int p1] (HS κ A s0)) (QQ none (HS κ A res) A) 0 0 A := by
  refine met_of (own := RX4) (by decide) rfl (Nat.le_of_ble_eq_true rfl) ?_
  intro Γ E hQ hL hR hA hent hini
  have hAA : ∀ q, A q → jA Γ q := fun q h => by rw [hA]; exact h
  have hroom : ∀ (d mL : Nat) {mc ms : Nat}, d < 2 → mL ≤ 21 → (rmL d mc ms).frames + 1 ≤ (jR Γ).frames ∧ 8 + (mL + 11) + (rmL d mc ms).locals ≤ (jR Γ).locals := fun d mL mc ms h1 h2 => by rw [hR]; exact rmL_le h1 h2
  show J Γ 2 (HS κ A s0) 0 0 0 [(0, .ref a0), (1, .int p1)] []
  unfold f4_init at hF
  refine j_blk (pc' := 2) (lv' := [(0, .ref a0), (1, .int p1)]) (st' := [.int p1, .ref a0]) E b_c4_init_0_2 rfl ?_
  obtain ⟨s2, he1, hF⟩ := obd_at hF
  refine j_calli [.int p1] [] E w_RX4_1 (hroom 1 2 (by decide) (by decide)) hAA (c6_init _ κ A _ _ _  he1) (fun _ h => h) (fun _ _ _ h _ _ => h) rfl rfl (by decide) d_c4_init_2 ⟨Nat.zero_le _, Nat.zero_le _⟩ ?_
  have e : res = s2 := g_inj hF
  subst e
  exact j_vret E hQ d_c4_init_5 (fun _ h => h)
theorem b_c5_init_0_2 : bdec cX5_init 0 [.aload_n 0, .iload_n 1] = true := by decide +kernel
theorem d_c5_init_2 : decode cX5_init 2 = .ok (.invokespecial 1, 3) := by decide +kernel
theorem d_c5_init_5 : decode cX5_init 5 = .ok (.return_, 1) := by decide +kernel
def f5_init (s0 : HM) (a0 : Nat) (p1 : Int32) : Option (HM) := obd (f6_init s0 a0 p1) (fun s2 => some s2)
set_option maxRecDepth 100000 in
set_option maxHeartbeats 4000000 in
theorem c5_init (l : Launch) (κ : KP) (A : Nat → Prop) (s0 : HM) (a0 : Nat) (p1 : Int32) {res : HM} (hF : f5_init s0 a0 p1 = some res) : Met l yX5_init (Cond.code yX5_init cX5_init 2 none :: WT) (rmL 2 0 0) (PP κ A [.ref a0, .int p1] (HS κ A s0)) (QQ none (HS κ A res) A) 0 0 A := by
  refine met_of (own := RX5) (by decide) rfl (Nat.le_of_ble_eq_true rfl) ?_
  intro Γ E hQ hL hR hA hent hini
  have hAA : ∀ q, A q → jA Γ q := fun q h => by rw [hA]; exact h
  have hroom : ∀ (d mL : Nat) {mc ms : Nat}, d < 2 → mL ≤ 21 → (rmL d mc ms).frames + 1 ≤ (jR Γ).frames ∧ 8 + (mL + 11) + (rmL d mc ms).locals ≤ (jR Γ).locals := fun d mL mc ms h1 h2 => by rw [hR]; exact rmL_le h1 h2
  show J Γ 2 (HS κ A s0) 0 0 0 [(0, .ref a0), (1, .int p1)] []
  unfold f5_init at hF
  refine j_blk (pc' := 2) (lv' := [(0, .ref a0), (1, .int p1)]) (st' := [.int p1, .ref a0]) E b_c5_init_0_2 rfl ?_
  obtain ⟨s2, he1, hF⟩ := obd_at hF
  refine j_calli [.int p1] [] E w_RX5_1 (hroom 1 2 (by decide) (by decide)) hAA (c6_init _ κ A _ _ _  he1) (fun _ h => h) (fun _ _ _ h _ _ => h) rfl rfl (by decide) d_c5_init_2 ⟨Nat.zero_le _, Nat.zero_le _⟩ ?_
  have e : res = s2 := g_inj hF
  subst e
  exact j_vret E hQ d_c5_init_5 (fun _ h => h)
theorem b_c7_cost_0_1 : bdec cX7_cost 0 [.aload_n 0] = true := by decide +kernel
theorem d_c7_cost_1 : decode cX7_cost 1 = .ok (.invokespecial 7, 3) := by decide +kernel
theorem b_c7_cost_4_2 : bdec cX7_cost 4 [.iconst 5, .iadd] = true := by decide +kernel
theorem d_c7_cost_6 : decode cX7_cost 6 = .ok (.ireturn, 1) := by decide +kernel
def f7_cost (s0 : HM) (a0 : Nat) : Option (Int32) := obd (hcls s0 a0) (fun c3 => ogd (Nat.blt c3 12) (obd (f1_cost s0 a0) (fun v2 => some (v2 + (Int32.ofInt 5)))))
set_option maxRecDepth 100000 in
set_option maxHeartbeats 4000000 in
theorem c7_cost (l : Launch) (κ : KP) (A : Nat → Prop) (s0 : HM) (a0 : Nat) {res : Int32} (hF : f7_cost s0 a0 = some res) : Met l yX7_cost (Cond.code yX7_cost cX7_cost 1 (some .int) :: WT) (rmL 2 0 0) (PP κ A [.ref a0] (HS κ A s0)) (QQ (some (.int res)) (HS κ A s0) A) 0 0 A := by
  refine met_of (own := RX7) (by decide) rfl (Nat.le_of_ble_eq_true rfl) ?_
  intro Γ E hQ hL hR hA hent hini
  have hAA : ∀ q, A q → jA Γ q := fun q h => by rw [hA]; exact h
  have hroom : ∀ (d mL : Nat) {mc ms : Nat}, d < 2 → mL ≤ 21 → (rmL d mc ms).frames + 1 ≤ (jR Γ).frames ∧ 8 + (mL + 11) + (rmL d mc ms).locals ≤ (jR Γ).locals := fun d mL mc ms h1 h2 => by rw [hR]; exact rmL_le h1 h2
  show J Γ 1 (HS κ A s0) 0 0 0 [(0, .ref a0)] []
  unfold f7_cost at hF
  refine j_blk (pc' := 1) (lv' := [(0, .ref a0)]) (st' := [.ref a0]) E b_c7_cost_0_1 rfl ?_
  obtain ⟨c3, hc, hF⟩ := obd_at hF
  obtain ⟨hc12, hF⟩ := ogd_at hF
  obtain ⟨v2, he1, hF⟩ := obd_at hF
  refine j_callx [] [] E w_RX7_7 (hroom 1 1 (by decide) (by decide)) hAA (c1_cost _ κ A _ _  he1) hc (blt_of hc12) (fun _ _ _ h _ _ => h) rfl rfl (by decide) d_c7_cost_1 ⟨Nat.zero_le _, Nat.zero_le _⟩ ?_
  refine j_blk (pc' := 6) (lv' := [(0, .ref a0)]) (st' := [.int (v2 + (Int32.ofInt 5))]) E b_c7_cost_4_2 rfl ?_
  have e : res = v2 + (Int32.ofInt 5) := g_inj hF
  subst e
  exact j_iret E hQ d_c7_cost_6 (fun _ h => h)
theorem b_c9_skill_0_1 : bdec cX9_skill 0 [.aload_n 0] = true := by decide +kernel
theorem d_c9_skill_1 : decode cX9_skill 1 = .ok (.invokespecial 7, 3) := by decide +kernel
theorem b_c9_skill_4_2 : bdec cX9_skill 4 [.iconst 1, .isub] = true := by decide +kernel
theorem d_c9_skill_6 : decode cX9_skill 6 = .ok (.ireturn, 1) := by decide +kernel
def f9_skill (s0 : HM) (a0 : Nat) : Option (Int32) := obd (hcls s0 a0) (fun c3 => ogd (Nat.blt c3 12) (obd (f4_skill s0 a0) (fun v2 => some (v2 - (Int32.ofInt 1)))))
set_option maxRecDepth 100000 in
set_option maxHeartbeats 4000000 in
theorem c9_skill (l : Launch) (κ : KP) (A : Nat → Prop) (s0 : HM) (a0 : Nat) {res : Int32} (hF : f9_skill s0 a0 = some res) : Met l yX9_skill (Cond.code yX9_skill cX9_skill 1 (some .int) :: WT) (rmL 2 0 0) (PP κ A [.ref a0] (HS κ A s0)) (QQ (some (.int res)) (HS κ A s0) A) 0 0 A := by
  refine met_of (own := RX9) (by decide) rfl (Nat.le_of_ble_eq_true rfl) ?_
  intro Γ E hQ hL hR hA hent hini
  have hAA : ∀ q, A q → jA Γ q := fun q h => by rw [hA]; exact h
  have hroom : ∀ (d mL : Nat) {mc ms : Nat}, d < 2 → mL ≤ 21 → (rmL d mc ms).frames + 1 ≤ (jR Γ).frames ∧ 8 + (mL + 11) + (rmL d mc ms).locals ≤ (jR Γ).locals := fun d mL mc ms h1 h2 => by rw [hR]; exact rmL_le h1 h2
  show J Γ 1 (HS κ A s0) 0 0 0 [(0, .ref a0)] []
  unfold f9_skill at hF
  refine j_blk (pc' := 1) (lv' := [(0, .ref a0)]) (st' := [.ref a0]) E b_c9_skill_0_1 rfl ?_
  obtain ⟨c3, hc, hF⟩ := obd_at hF
  obtain ⟨hc12, hF⟩ := ogd_at hF
  obtain ⟨v2, he1, hF⟩ := obd_at hF
  refine j_callx [] [] E w_RX9_7 (hroom 1 1 (by decide) (by decide)) hAA (c4_skill _ κ A _ _  he1) hc (blt_of hc12) (fun _ _ _ h _ _ => h) rfl rfl (by decide) d_c9_skill_1 ⟨Nat.zero_le _, Nat.zero_le _⟩ ?_
  refine j_blk (pc' := 6) (lv' := [(0, .ref a0)]) (st' := [.int (v2 - (Int32.ofInt 1))]) E b_c9_skill_4_2 rfl ?_
  have e : res = v2 - (Int32.ofInt 1) := g_inj hF
  subst e
  exact j_iret E hQ d_c9_skill_6 (fun _ h => h)
theorem b_c9_cost_0_1 : bdec cX9_cost 0 [.aload_n 0] = true := by decide +kernel
theorem d_c9_cost_1 : decode cX9_cost 1 = .ok (.invokespecial 15, 3) := by decide +kernel
theorem b_c9_cost_4_2 : bdec cX9_cost 4 [.iconst 1, .isub] = true := by decide +kernel
theorem d_c9_cost_6 : decode cX9_cost 6 = .ok (.ireturn, 1) := by decide +kernel
def f9_cost (s0 : HM) (a0 : Nat) : Option (Int32) := obd (hcls s0 a0) (fun c3 => ogd (Nat.blt c3 12) (obd (f4_cost s0 a0) (fun v2 => some (v2 - (Int32.ofInt 1)))))
set_option maxRecDepth 100000 in
set_option maxHeartbeats 4000000 in
theorem c9_cost (l : Launch) (κ : KP) (A : Nat → Prop) (s0 : HM) (a0 : Nat) {res : Int32} (hF : f9_cost s0 a0 = some res) : Met l yX9_cost (Cond.code yX9_cost cX9_cost 1 (some .int) :: WT) (rmL 2 0 0) (PP κ A [.ref a0] (HS κ A s0)) (QQ (some (.int res)) (HS κ A s0) A) 0 0 A := by
  refine met_of (own := RX9) (by decide) rfl (Nat.le_of_ble_eq_true rfl) ?_
  intro Γ E hQ hL hR hA hent hini
  have hAA : ∀ q, A q → jA Γ q := fun q h => by rw [hA]; exact h
  have hroom : ∀ (d mL : Nat) {mc ms : Nat}, d < 2 → mL ≤ 21 → (rmL d mc ms).frames + 1 ≤ (jR Γ).frames ∧ 8 + (mL + 11) + (rmL d mc ms).locals ≤ (jR Γ).locals := fun d mL mc ms h1 h2 => by rw [hR]; exact rmL_le h1 h2
  show J Γ 1 (HS κ A s0) 0 0 0 [(0, .ref a0)] []
  unfold f9_cost at hF
  refine j_blk (pc' := 1) (lv' := [(0, .ref a0)]) (st' := [.ref a0]) E b_c9_cost_0_1 rfl ?_
  obtain ⟨c3, hc, hF⟩ := obd_at hF
  obtain ⟨hc12, hF⟩ := ogd_at hF
  obtain ⟨v2, he1, hF⟩ := obd_at hF
  refine j_callx [] [] E w_RX9_15 (hroom 1 1 (by decide) (by decide)) hAA (c4_cost _ κ A _ _  he1) hc (blt_of hc12) (fun _ _ _ h _ _ => h) rfl rfl (by decide) d_c9_cost_1 ⟨Nat.zero_le _, Nat.zero_le _⟩ ?_
  refine j_blk (pc' := 6) (lv' := [(0, .ref a0)]) (st' := [.int (v2 - (Int32.ofInt 1))]) E b_c9_cost_4_2 rfl ?_
  have e : res = v2 - (Int32.ofInt 1) := g_inj hF
  subst e
  exact j_iret E hQ d_c9_cost_6 (fun _ h => h)
theorem b_c3_init_0_2 : bdec cX3_init 0 [.aload_n 0, .iload_n 1] = true := by decide +kernel
theorem d_c3_init_2 : decode cX3_init 2 = .ok (.invokespecial 1, 3) := by decide +kernel
theorem d_c3_init_5 : decode cX3_init 5 = .ok (.return_, 1) := by decide +kernel
def f3_init (s0 : HM) (a0 : Nat) (p1 : Int32) : Option (HM) := obd (f5_init s0 a0 p1) (fun s2 => some s2)
set_option maxRecDepth 100000 in
set_option maxHeartbeats 4000000 in
theorem c3_init (l : Launch) (κ : KP) (A : Nat → Prop) (s0 : HM) (a0 : Nat) (p1 : Int32) {res : HM} (hF : f3_init s0 a0 p1 = some res) : Met l yX3_init (Cond.code yX3_init cX3_init 2 none :: WT) (rmL 3 0 0) (PP κ A [.ref a0, .int p1] (HS κ A s0)) (QQ none (HS κ A res) A) 0 0 A := by
  refine met_of (own := RX3) (by decide) rfl (Nat.le_of_ble_eq_true rfl) ?_
  intro Γ E hQ hL hR hA hent hini
  have hAA : ∀ q, A q → jA Γ q := fun q h => by rw [hA]; exact h
  have hroom : ∀ (d mL : Nat) {mc ms : Nat}, d < 3 → mL ≤ 21 → (rmL d mc ms).frames + 1 ≤ (jR Γ).frames ∧ 8 + (mL + 11) + (rmL d mc ms).locals ≤ (jR Γ).locals := fun d mL mc ms h1 h2 => by rw [hR]; exact rmL_le h1 h2
  show J Γ 2 (HS κ A s0) 0 0 0 [(0, .ref a0), (1, .int p1)] []
  unfold f3_init at hF
  refine j_blk (pc' := 2) (lv' := [(0, .ref a0), (1, .int p1)]) (st' := [.int p1, .ref a0]) E b_c3_init_0_2 rfl ?_
  obtain ⟨s2, he1, hF⟩ := obd_at hF
  refine j_calli [.int p1] [] E w_RX3_1 (hroom 2 2 (by decide) (by decide)) hAA (c5_init _ κ A _ _ _  he1) (fun _ h => h) (fun _ _ _ h _ _ => h) rfl rfl (by decide) d_c3_init_2 ⟨Nat.zero_le _, Nat.zero_le _⟩ ?_
  have e : res = s2 := g_inj hF
  subst e
  exact j_vret E hQ d_c3_init_5 (fun _ h => h)
theorem b_c7_init_0_2 : bdec cX7_init 0 [.aload_n 0, .iload_n 1] = true := by decide +kernel
theorem d_c7_init_2 : decode cX7_init 2 = .ok (.invokespecial 1, 3) := by decide +kernel
theorem d_c7_init_5 : decode cX7_init 5 = .ok (.return_, 1) := by decide +kernel
def f7_init (s0 : HM) (a0 : Nat) (p1 : Int32) : Option (HM) := obd (f1_init s0 a0 p1) (fun s2 => some s2)
set_option maxRecDepth 100000 in
set_option maxHeartbeats 4000000 in
theorem c7_init (l : Launch) (κ : KP) (A : Nat → Prop) (s0 : HM) (a0 : Nat) (p1 : Int32) {res : HM} (hF : f7_init s0 a0 p1 = some res) : Met l yX7_init (Cond.code yX7_init cX7_init 2 none :: WT) (rmL 3 0 0) (PP κ A [.ref a0, .int p1] (HS κ A s0)) (QQ none (HS κ A res) A) 0 0 A := by
  refine met_of (own := RX7) (by decide) rfl (Nat.le_of_ble_eq_true rfl) ?_
  intro Γ E hQ hL hR hA hent hini
  have hAA : ∀ q, A q → jA Γ q := fun q h => by rw [hA]; exact h
  have hroom : ∀ (d mL : Nat) {mc ms : Nat}, d < 3 → mL ≤ 21 → (rmL d mc ms).frames + 1 ≤ (jR Γ).frames ∧ 8 + (mL + 11) + (rmL d mc ms).locals ≤ (jR Γ).locals := fun d mL mc ms h1 h2 => by rw [hR]; exact rmL_le h1 h2
  show J Γ 2 (HS κ A s0) 0 0 0 [(0, .ref a0), (1, .int p1)] []
  unfold f7_init at hF
  refine j_blk (pc' := 2) (lv' := [(0, .ref a0), (1, .int p1)]) (st' := [.int p1, .ref a0]) E b_c7_init_0_2 rfl ?_
  obtain ⟨s2, he1, hF⟩ := obd_at hF
  refine j_calli [.int p1] [] E w_RX7_1 (hroom 2 2 (by decide) (by decide)) hAA (c1_init _ κ A _ _ _  he1) (fun _ h => h) (fun _ _ _ h _ _ => h) rfl rfl (by decide) d_c7_init_2 ⟨Nat.zero_le _, Nat.zero_le _⟩ ?_
  have e : res = s2 := g_inj hF
  subst e
  exact j_vret E hQ d_c7_init_5 (fun _ h => h)
theorem b_c9_init_0_2 : bdec cX9_init 0 [.aload_n 0, .iload_n 1] = true := by decide +kernel
theorem d_c9_init_2 : decode cX9_init 2 = .ok (.invokespecial 1, 3) := by decide +kernel
theorem d_c9_init_5 : decode cX9_init 5 = .ok (.return_, 1) := by decide +kernel
def f9_init (s0 : HM) (a0 : Nat) (p1 : Int32) : Option (HM) := obd (f4_init s0 a0 p1) (fun s2 => some s2)
set_option maxRecDepth 100000 in
set_option maxHeartbeats 4000000 in
theorem c9_init (l : Launch) (κ : KP) (A : Nat → Prop) (s0 : HM) (a0 : Nat) (p1 : Int32) {res : HM} (hF : f9_init s0 a0 p1 = some res) : Met l yX9_init (Cond.code yX9_init cX9_init 2 none :: WT) (rmL 3 0 0) (PP κ A [.ref a0, .int p1] (HS κ A s0)) (QQ none (HS κ A res) A) 0 0 A := by
  refine met_of (own := RX9) (by decide) rfl (Nat.le_of_ble_eq_true rfl) ?_
  intro Γ E hQ hL hR hA hent hini
  have hAA : ∀ q, A q → jA Γ q := fun q h => by rw [hA]; exact h
  have hroom : ∀ (d mL : Nat) {mc ms : Nat}, d < 3 → mL ≤ 21 → (rmL d mc ms).frames + 1 ≤ (jR Γ).frames ∧ 8 + (mL + 11) + (rmL d mc ms).locals ≤ (jR Γ).locals := fun d mL mc ms h1 h2 => by rw [hR]; exact rmL_le h1 h2
  show J Γ 2 (HS κ A s0) 0 0 0 [(0, .ref a0), (1, .int p1)] []
  unfold f9_init at hF
  refine j_blk (pc' := 2) (lv' := [(0, .ref a0), (1, .int p1)]) (st' := [.int p1, .ref a0]) E b_c9_init_0_2 rfl ?_
  obtain ⟨s2, he1, hF⟩ := obd_at hF
  refine j_calli [.int p1] [] E w_RX9_1 (hroom 2 2 (by decide) (by decide)) hAA (c4_init _ κ A _ _ _  he1) (fun _ h => h) (fun _ _ _ h _ _ => h) rfl rfl (by decide) d_c9_init_2 ⟨Nat.zero_le _, Nat.zero_le _⟩ ?_
  have e : res = s2 := g_inj hF
  subst e
  exact j_vret E hQ d_c9_init_5 (fun _ h => h)
def v_cost (s : HM) (a : Nat) : Option Int32 := match hcls s a with
  | some 0 => f0_cost s a
  | some 1 => f1_cost s a
  | some 3 => f3_cost s a
  | some 4 => f4_cost s a
  | some 5 => f5_cost s a
  | some 6 => f6_cost s a
  | some 7 => f7_cost s a
  | some 9 => f9_cost s a
  | _ => none
def v_countsWith (s : HM) (a : Nat) (x0 : Int32) : Option Int32 := match hcls s a with
  | some 0 => f6_countsWith s a x0
  | some 1 => f6_countsWith s a x0
  | some 3 => f3_countsWith s a x0
  | some 4 => f4_countsWith s a x0
  | some 5 => f6_countsWith s a x0
  | some 6 => f6_countsWith s a x0
  | some 7 => f7_countsWith s a x0
  | some 9 => f9_countsWith s a x0
  | _ => none
def v_kind (s : HM) (a : Nat) : Option Int32 := match hcls s a with
  | some 0 => f0_kind s a
  | some 1 => f1_kind s a
  | some 3 => f3_kind s a
  | some 4 => f4_kind s a
  | some 5 => f5_kind s a
  | some 6 => f6_kind s a
  | some 7 => f7_kind s a
  | some 9 => f9_kind s a
  | _ => none
def v_skill (s : HM) (a : Nat) : Option Int32 := match hcls s a with
  | some 0 => f0_skill s a
  | some 1 => f1_skill s a
  | some 3 => f3_skill s a
  | some 4 => f4_skill s a
  | some 5 => f6_skill s a
  | some 6 => f6_skill s a
  | some 7 => f1_skill s a
  | some 9 => f9_skill s a
  | _ => none
theorem jv_RX10_88 {Γ : JC} {κ : KP} {cc : ByteArray} {nL : Nat} {ret : Option FieldType} {A : Nat → Prop} {s : HM} {k n pc b : Nat} {lv : List (Nat × Value)} {r : Int32} {rest : List Value} {D C S : Nat} (E : JE Γ κ cc RX10 nL ret) (hR : jR Γ = rmL D C S) (hD : 0 < D) (hAA : ∀ q, A q → jA Γ q) (hF : v_kind s b = some r) (hd : decode cc pc = .ok (.invokevirtual 88, 3)) (hcat : (rest.map fun v => v.category).sum ≤ 8) (hkn : k + 0 ≤ (jR Γ).cells ∧ n + 0 ≤ (jR Γ).slots) (kk : J Γ nL (HS κ A s) k n (pc + 3) lv (.int r :: rest)) : J Γ nL (HS κ A s) k n pc lv (.ref b :: rest) := by
  have hroom : ∀ (d mL : Nat) {mc ms : Nat}, d < D → mL ≤ 21 → (rmL d mc ms).frames + 1 ≤ (jR Γ).frames ∧ 8 + (mL + 11) + (rmL d mc ms).locals ≤ (jR Γ).locals := fun d mL mc ms h1 h2 => by rw [hR]; exact rmL_le h1 h2
  unfold v_kind at hF
  split at hF
  · rename_i hc
    exact j_callu (C := RX0) (owner := "OneBeatsBoth$Player") [] rest E wv_RX10_88_0 (hroom 0 1 (by omega) (by decide)) hAA (c0_kind _ κ A s b hF) (fun _ h => h) (fun _ _ _ h _ _ => h) (fun _ h => j_recv E h hc rfl) rfl rfl hcat hd hkn kk
  · rename_i hc
    exact j_callu (C := RX1) (owner := "OneBeatsBoth$Player") [] rest E wv_RX10_88_1 (hroom 0 1 (by omega) (by decide)) hAA (c1_kind _ κ A s b hF) (fun _ h => h) (fun _ _ _ h _ _ => h) (fun _ h => j_recv E h hc rfl) rfl rfl hcat hd hkn kk
  · rename_i hc
    exact j_callu (C := RX3) (owner := "OneBeatsBoth$Player") [] rest E wv_RX10_88_3 (hroom 0 1 (by omega) (by decide)) hAA (c3_kind _ κ A s b hF) (fun _ h => h) (fun _ _ _ h _ _ => h) (fun _ h => j_recv E h hc rfl) rfl rfl hcat hd hkn kk
  · rename_i hc
    exact j_callu (C := RX4) (owner := "OneBeatsBoth$Player") [] rest E wv_RX10_88_4 (hroom 0 1 (by omega) (by decide)) hAA (c4_kind _ κ A s b hF) (fun _ h => h) (fun _ _ _ h _ _ => h) (fun _ h => j_recv E h hc rfl) rfl rfl hcat hd hkn kk
  · rename_i hc
    exact j_callu (C := RX5) (owner := "OneBeatsBoth$Player") [] rest E wv_RX10_88_5 (hroom 0 1 (by omega) (by decide)) hAA (c5_kind _ κ A s b hF) (fun _ h => h) (fun _ _ _ h _ _ => h) (fun _ h => j_recv E h hc rfl) rfl rfl hcat hd hkn kk
  · rename_i hc
    exact j_callv (C := RX6) [] rest E wv_RX10_88_6 (hroom 0 1 (by omega) (by decide)) hAA (c6_kind _ κ A s b hF) (fun _ h => h) (fun _ _ _ h _ _ => h) (fun _ h => j_recv E h hc rfl) rfl rfl hcat hd hkn kk
  · rename_i hc
    exact j_callu (C := RX7) (owner := "OneBeatsBoth$Player") [] rest E wv_RX10_88_7 (hroom 0 1 (by omega) (by decide)) hAA (c7_kind _ κ A s b hF) (fun _ h => h) (fun _ _ _ h _ _ => h) (fun _ h => j_recv E h hc rfl) rfl rfl hcat hd hkn kk
  · rename_i hc
    exact j_callu (C := RX9) (owner := "OneBeatsBoth$Player") [] rest E wv_RX10_88_9 (hroom 0 1 (by omega) (by decide)) hAA (c9_kind _ κ A s b hF) (fun _ h => h) (fun _ _ _ h _ _ => h) (fun _ h => j_recv E h hc rfl) rfl rfl hcat hd hkn kk
  · cases hF
theorem jv_RX10_95 {Γ : JC} {κ : KP} {cc : ByteArray} {nL : Nat} {ret : Option FieldType} {A : Nat → Prop} {s : HM} {k n pc b : Nat} {lv : List (Nat × Value)} {r : Int32} {rest : List Value} {D C S : Nat} (E : JE Γ κ cc RX10 nL ret) (hR : jR Γ = rmL D C S) (hD : 2 < D) (hAA : ∀ q, A q → jA Γ q) (hF : v_skill s b = some r) (hd : decode cc pc = .ok (.invokevirtual 95, 3)) (hcat : (rest.map fun v => v.category).sum ≤ 8) (hkn : k + 0 ≤ (jR Γ).cells ∧ n + 0 ≤ (jR Γ).slots) (kk : J Γ nL (HS κ A s) k n (pc + 3) lv (.int r :: rest)) : J Γ nL (HS κ A s) k n pc lv (.ref b :: rest) := by
  have hroom : ∀ (d mL : Nat) {mc ms : Nat}, d < D → mL ≤ 21 → (rmL d mc ms).frames + 1 ≤ (jR Γ).frames ∧ 8 + (mL + 11) + (rmL d mc ms).locals ≤ (jR Γ).locals := fun d mL mc ms h1 h2 => by rw [hR]; exact rmL_le h1 h2
  unfold v_skill at hF
  split at hF
  · rename_i hc
    exact j_callu (C := RX0) (owner := "OneBeatsBoth$Player") [] rest E wv_RX10_95_0 (hroom 1 1 (by omega) (by decide)) hAA (c0_skill _ κ A s b hF) (fun _ h => h) (fun _ _ _ h _ _ => h) (fun _ h => j_recv E h hc rfl) rfl rfl hcat hd hkn kk
  · rename_i hc
    exact j_callu (C := RX1) (owner := "OneBeatsBoth$Player") [] rest E wv_RX10_95_1 (hroom 1 1 (by omega) (by decide)) hAA (c1_skill _ κ A s b hF) (fun _ h => h) (fun _ _ _ h _ _ => h) (fun _ h => j_recv E h hc rfl) rfl rfl hcat hd hkn kk
  · rename_i hc
    exact j_callu (C := RX3) (owner := "OneBeatsBoth$Player") [] rest E wv_RX10_95_3 (hroom 0 1 (by omega) (by decide)) hAA (c3_skill _ κ A s b hF) (fun _ h => h) (fun _ _ _ h _ _ => h) (fun _ h => j_recv E h hc rfl) rfl rfl hcat hd hkn kk
  · rename_i hc
    exact j_callu (C := RX4) (owner := "OneBeatsBoth$Player") [] rest E wv_RX10_95_4 (hroom 1 1 (by omega) (by decide)) hAA (c4_skill _ κ A s b hF) (fun _ h => h) (fun _ _ _ h _ _ => h) (fun _ h => j_recv E h hc rfl) rfl rfl hcat hd hkn kk
  · rename_i hc
    exact j_callu (C := RX5) (owner := "OneBeatsBoth$Player") [] rest E wv_RX10_95_5 (hroom 0 1 (by omega) (by decide)) hAA (c6_skill _ κ A s b hF) (fun _ h => h) (fun _ _ _ h _ _ => h) (fun _ h => j_recv E h hc rfl) rfl rfl hcat hd hkn kk
  · rename_i hc
    exact j_callv (C := RX6) [] rest E wv_RX10_95_6 (hroom 0 1 (by omega) (by decide)) hAA (c6_skill _ κ A s b hF) (fun _ h => h) (fun _ _ _ h _ _ => h) (fun _ h => j_recv E h hc rfl) rfl rfl hcat hd hkn kk
  · rename_i hc
    exact j_callu (C := RX7) (owner := "OneBeatsBoth$Player") [] rest E wv_RX10_95_7 (hroom 1 1 (by omega) (by decide)) hAA (c1_skill _ κ A s b hF) (fun _ h => h) (fun _ _ _ h _ _ => h) (fun _ h => j_recv E h hc rfl) rfl rfl hcat hd hkn kk
  · rename_i hc
    exact j_callu (C := RX9) (owner := "OneBeatsBoth$Player") [] rest E wv_RX10_95_9 (hroom 2 1 (by omega) (by decide)) hAA (c9_skill _ κ A s b hF) (fun _ h => h) (fun _ _ _ h _ _ => h) (fun _ h => j_recv E h hc rfl) rfl rfl hcat hd hkn kk
  · cases hF
theorem jv_RX10_104 {Γ : JC} {κ : KP} {cc : ByteArray} {nL : Nat} {ret : Option FieldType} {A : Nat → Prop} {s : HM} {k n pc b : Nat} {lv : List (Nat × Value)} {r : Int32} {rest : List Value} {D C S : Nat} (E : JE Γ κ cc RX10 nL ret) (hR : jR Γ = rmL D C S) (hD : 2 < D) (hAA : ∀ q, A q → jA Γ q) (hF : v_cost s b = some r) (hd : decode cc pc = .ok (.invokevirtual 104, 3)) (hcat : (rest.map fun v => v.category).sum ≤ 8) (hkn : k + 0 ≤ (jR Γ).cells ∧ n + 0 ≤ (jR Γ).slots) (kk : J Γ nL (HS κ A s) k n (pc + 3) lv (.int r :: rest)) : J Γ nL (HS κ A s) k n pc lv (.ref b :: rest) := by
  have hroom : ∀ (d mL : Nat) {mc ms : Nat}, d < D → mL ≤ 21 → (rmL d mc ms).frames + 1 ≤ (jR Γ).frames ∧ 8 + (mL + 11) + (rmL d mc ms).locals ≤ (jR Γ).locals := fun d mL mc ms h1 h2 => by rw [hR]; exact rmL_le h1 h2
  unfold v_cost at hF
  split at hF
  · rename_i hc
    exact j_callu (C := RX0) (owner := "OneBeatsBoth$Player") [] rest E wv_RX10_104_0 (hroom 1 1 (by omega) (by decide)) hAA (c0_cost _ κ A s b hF) (fun _ h => h) (fun _ _ _ h _ _ => h) (fun _ h => j_recv E h hc rfl) rfl rfl hcat hd hkn kk
  · rename_i hc
    exact j_callu (C := RX1) (owner := "OneBeatsBoth$Player") [] rest E wv_RX10_104_1 (hroom 1 1 (by omega) (by decide)) hAA (c1_cost _ κ A s b hF) (fun _ h => h) (fun _ _ _ h _ _ => h) (fun _ h => j_recv E h hc rfl) rfl rfl hcat hd hkn kk
  · rename_i hc
    exact j_callu (C := RX3) (owner := "OneBeatsBoth$Player") [] rest E wv_RX10_104_3 (hroom 2 1 (by omega) (by decide)) hAA (c3_cost _ κ A s b hF) (fun _ h => h) (fun _ _ _ h _ _ => h) (fun _ h => j_recv E h hc rfl) rfl rfl hcat hd hkn kk
  · rename_i hc
    exact j_callu (C := RX4) (owner := "OneBeatsBoth$Player") [] rest E wv_RX10_104_4 (hroom 1 1 (by omega) (by decide)) hAA (c4_cost _ κ A s b hF) (fun _ h => h) (fun _ _ _ h _ _ => h) (fun _ h => j_recv E h hc rfl) rfl rfl hcat hd hkn kk
  · rename_i hc
    exact j_callu (C := RX5) (owner := "OneBeatsBoth$Player") [] rest E wv_RX10_104_5 (hroom 1 1 (by omega) (by decide)) hAA (c5_cost _ κ A s b hF) (fun _ h => h) (fun _ _ _ h _ _ => h) (fun _ h => j_recv E h hc rfl) rfl rfl hcat hd hkn kk
  · rename_i hc
    exact j_callv (C := RX6) [] rest E wv_RX10_104_6 (hroom 0 1 (by omega) (by decide)) hAA (c6_cost _ κ A s b hF) (fun _ h => h) (fun _ _ _ h _ _ => h) (fun _ h => j_recv E h hc rfl) rfl rfl hcat hd hkn kk
  · rename_i hc
    exact j_callu (C := RX7) (owner := "OneBeatsBoth$Player") [] rest E wv_RX10_104_7 (hroom 2 1 (by omega) (by decide)) hAA (c7_cost _ κ A s b hF) (fun _ h => h) (fun _ _ _ h _ _ => h) (fun _ h => j_recv E h hc rfl) rfl rfl hcat hd hkn kk
  · rename_i hc
    exact j_callu (C := RX9) (owner := "OneBeatsBoth$Player") [] rest E wv_RX10_104_9 (hroom 2 1 (by omega) (by decide)) hAA (c9_cost _ κ A s b hF) (fun _ h => h) (fun _ _ _ h _ _ => h) (fun _ h => j_recv E h hc rfl) rfl rfl hcat hd hkn kk
  · cases hF
theorem jv_RX2_48 {Γ : JC} {κ : KP} {cc : ByteArray} {nL : Nat} {ret : Option FieldType} {A : Nat → Prop} {s : HM} {k n pc b : Nat} {lv : List (Nat × Value)} {r : Int32} {rest : List Value} {D C S : Nat} (E : JE Γ κ cc RX2 nL ret) (hR : jR Γ = rmL D C S) (hD : 2 < D) (hAA : ∀ q, A q → jA Γ q) (hF : v_cost s b = some r) (hd : decode cc pc = .ok (.invokevirtual 48, 3)) (hcat : (rest.map fun v => v.category).sum ≤ 8) (hkn : k + 0 ≤ (jR Γ).cells ∧ n + 0 ≤ (jR Γ).slots) (kk : J Γ nL (HS κ A s) k n (pc + 3) lv (.int r :: rest)) : J Γ nL (HS κ A s) k n pc lv (.ref b :: rest) := by
  have hroom : ∀ (d mL : Nat) {mc ms : Nat}, d < D → mL ≤ 21 → (rmL d mc ms).frames + 1 ≤ (jR Γ).frames ∧ 8 + (mL + 11) + (rmL d mc ms).locals ≤ (jR Γ).locals := fun d mL mc ms h1 h2 => by rw [hR]; exact rmL_le h1 h2
  unfold v_cost at hF
  split at hF
  · rename_i hc
    exact j_callu (C := RX0) (owner := "OneBeatsBoth$Player") [] rest E wv_RX2_48_0 (hroom 1 1 (by omega) (by decide)) hAA (c0_cost _ κ A s b hF) (fun _ h => h) (fun _ _ _ h _ _ => h) (fun _ h => j_recv E h hc rfl) rfl rfl hcat hd hkn kk
  · rename_i hc
    exact j_callu (C := RX1) (owner := "OneBeatsBoth$Player") [] rest E wv_RX2_48_1 (hroom 1 1 (by omega) (by decide)) hAA (c1_cost _ κ A s b hF) (fun _ h => h) (fun _ _ _ h _ _ => h) (fun _ h => j_recv E h hc rfl) rfl rfl hcat hd hkn kk
  · rename_i hc
    exact j_callu (C := RX3) (owner := "OneBeatsBoth$Player") [] rest E wv_RX2_48_3 (hroom 2 1 (by omega) (by decide)) hAA (c3_cost _ κ A s b hF) (fun _ h => h) (fun _ _ _ h _ _ => h) (fun _ h => j_recv E h hc rfl) rfl rfl hcat hd hkn kk
  · rename_i hc
    exact j_callu (C := RX4) (owner := "OneBeatsBoth$Player") [] rest E wv_RX2_48_4 (hroom 1 1 (by omega) (by decide)) hAA (c4_cost _ κ A s b hF) (fun _ h => h) (fun _ _ _ h _ _ => h) (fun _ h => j_recv E h hc rfl) rfl rfl hcat hd hkn kk
  · rename_i hc
    exact j_callu (C := RX5) (owner := "OneBeatsBoth$Player") [] rest E wv_RX2_48_5 (hroom 1 1 (by omega) (by decide)) hAA (c5_cost _ κ A s b hF) (fun _ h => h) (fun _ _ _ h _ _ => h) (fun _ h => j_recv E h hc rfl) rfl rfl hcat hd hkn kk
  · rename_i hc
    exact j_callv (C := RX6) [] rest E wv_RX2_48_6 (hroom 0 1 (by omega) (by decide)) hAA (c6_cost _ κ A s b hF) (fun _ h => h) (fun _ _ _ h _ _ => h) (fun _ h => j_recv E h hc rfl) rfl rfl hcat hd hkn kk
  · rename_i hc
    exact j_callu (C := RX7) (owner := "OneBeatsBoth$Player") [] rest E wv_RX2_48_7 (hroom 2 1 (by omega) (by decide)) hAA (c7_cost _ κ A s b hF) (fun _ h => h) (fun _ _ _ h _ _ => h) (fun _ h => j_recv E h hc rfl) rfl rfl hcat hd hkn kk
  · rename_i hc
    exact j_callu (C := RX9) (owner := "OneBeatsBoth$Player") [] rest E wv_RX2_48_9 (hroom 2 1 (by omega) (by decide)) hAA (c9_cost _ κ A s b hF) (fun _ h => h) (fun _ _ _ h _ _ => h) (fun _ h => j_recv E h hc rfl) rfl rfl hcat hd hkn kk
  · cases hF
theorem jv_RX2_56 {Γ : JC} {κ : KP} {cc : ByteArray} {nL : Nat} {ret : Option FieldType} {A : Nat → Prop} {s : HM} {k n pc b : Nat} {lv : List (Nat × Value)} {r : Int32} {rest : List Value} {D C S : Nat} (E : JE Γ κ cc RX2 nL ret) (hR : jR Γ = rmL D C S) (hD : 2 < D) (hAA : ∀ q, A q → jA Γ q) (hF : v_skill s b = some r) (hd : decode cc pc = .ok (.invokevirtual 56, 3)) (hcat : (rest.map fun v => v.category).sum ≤ 8) (hkn : k + 0 ≤ (jR Γ).cells ∧ n + 0 ≤ (jR Γ).slots) (kk : J Γ nL (HS κ A s) k n (pc + 3) lv (.int r :: rest)) : J Γ nL (HS κ A s) k n pc lv (.ref b :: rest) := by
  have hroom : ∀ (d mL : Nat) {mc ms : Nat}, d < D → mL ≤ 21 → (rmL d mc ms).frames + 1 ≤ (jR Γ).frames ∧ 8 + (mL + 11) + (rmL d mc ms).locals ≤ (jR Γ).locals := fun d mL mc ms h1 h2 => by rw [hR]; exact rmL_le h1 h2
  unfold v_skill at hF
  split at hF
  · rename_i hc
    exact j_callu (C := RX0) (owner := "OneBeatsBoth$Player") [] rest E wv_RX2_56_0 (hroom 1 1 (by omega) (by decide)) hAA (c0_skill _ κ A s b hF) (fun _ h => h) (fun _ _ _ h _ _ => h) (fun _ h => j_recv E h hc rfl) rfl rfl hcat hd hkn kk
  · rename_i hc
    exact j_callu (C := RX1) (owner := "OneBeatsBoth$Player") [] rest E wv_RX2_56_1 (hroom 1 1 (by omega) (by decide)) hAA (c1_skill _ κ A s b hF) (fun _ h => h) (fun _ _ _ h _ _ => h) (fun _ h => j_recv E h hc rfl) rfl rfl hcat hd hkn kk
  · rename_i hc
    exact j_callu (C := RX3) (owner := "OneBeatsBoth$Player") [] rest E wv_RX2_56_3 (hroom 0 1 (by omega) (by decide)) hAA (c3_skill _ κ A s b hF) (fun _ h => h) (fun _ _ _ h _ _ => h) (fun _ h => j_recv E h hc rfl) rfl rfl hcat hd hkn kk
  · rename_i hc
    exact j_callu (C := RX4) (owner := "OneBeatsBoth$Player") [] rest E wv_RX2_56_4 (hroom 1 1 (by omega) (by decide)) hAA (c4_skill _ κ A s b hF) (fun _ h => h) (fun _ _ _ h _ _ => h) (fun _ h => j_recv E h hc rfl) rfl rfl hcat hd hkn kk
  · rename_i hc
    exact j_callu (C := RX5) (owner := "OneBeatsBoth$Player") [] rest E wv_RX2_56_5 (hroom 0 1 (by omega) (by decide)) hAA (c6_skill _ κ A s b hF) (fun _ h => h) (fun _ _ _ h _ _ => h) (fun _ h => j_recv E h hc rfl) rfl rfl hcat hd hkn kk
  · rename_i hc
    exact j_callv (C := RX6) [] rest E wv_RX2_56_6 (hroom 0 1 (by omega) (by decide)) hAA (c6_skill _ κ A s b hF) (fun _ h => h) (fun _ _ _ h _ _ => h) (fun _ h => j_recv E h hc rfl) rfl rfl hcat hd hkn kk
  · rename_i hc
    exact j_callu (C := RX7) (owner := "OneBeatsBoth$Player") [] rest E wv_RX2_56_7 (hroom 1 1 (by omega) (by decide)) hAA (c1_skill _ κ A s b hF) (fun _ h => h) (fun _ _ _ h _ _ => h) (fun _ h => j_recv E h hc rfl) rfl rfl hcat hd hkn kk
  · rename_i hc
    exact j_callu (C := RX9) (owner := "OneBeatsBoth$Player") [] rest E wv_RX2_56_9 (hroom 2 1 (by omega) (by decide)) hAA (c9_skill _ κ A s b hF) (fun _ h => h) (fun _ _ _ h _ _ => h) (fun _ h => j_recv E h hc rfl) rfl rfl hcat hd hkn kk
  · cases hF
theorem jv_RX2_74 {Γ : JC} {κ : KP} {cc : ByteArray} {nL : Nat} {ret : Option FieldType} {A : Nat → Prop} {s : HM} {k n pc b : Nat} {lv : List (Nat × Value)} {x0 : Int32} {r : Int32} {rest : List Value} {D C S : Nat} (E : JE Γ κ cc RX2 nL ret) (hR : jR Γ = rmL D C S) (hD : 1 < D) (hAA : ∀ q, A q → jA Γ q) (hF : v_countsWith s b x0 = some r) (hd : decode cc pc = .ok (.invokevirtual 74, 3)) (hcat : (rest.map fun v => v.category).sum ≤ 8) (hkn : k + 0 ≤ (jR Γ).cells ∧ n + 0 ≤ (jR Γ).slots) (kk : J Γ nL (HS κ A s) k n (pc + 3) lv (.int r :: rest)) : J Γ nL (HS κ A s) k n pc lv (.int x0 :: .ref b :: rest) := by
  have hroom : ∀ (d mL : Nat) {mc ms : Nat}, d < D → mL ≤ 21 → (rmL d mc ms).frames + 1 ≤ (jR Γ).frames ∧ 8 + (mL + 11) + (rmL d mc ms).locals ≤ (jR Γ).locals := fun d mL mc ms h1 h2 => by rw [hR]; exact rmL_le h1 h2
  unfold v_countsWith at hF
  split at hF
  · rename_i hc
    exact j_callu (C := RX0) (owner := "OneBeatsBoth$Player") [.int x0] rest E wv_RX2_74_0 (hroom 0 2 (by omega) (by decide)) hAA (c6_countsWith _ κ A s b x0 hF) (fun _ h => h) (fun _ _ _ h _ _ => h) (fun _ h => j_recv E h hc rfl) rfl rfl hcat hd hkn kk
  · rename_i hc
    exact j_callu (C := RX1) (owner := "OneBeatsBoth$Player") [.int x0] rest E wv_RX2_74_1 (hroom 0 2 (by omega) (by decide)) hAA (c6_countsWith _ κ A s b x0 hF) (fun _ h => h) (fun _ _ _ h _ _ => h) (fun _ h => j_recv E h hc rfl) rfl rfl hcat hd hkn kk
  · rename_i hc
    exact j_callu (C := RX3) (owner := "OneBeatsBoth$Player") [.int x0] rest E wv_RX2_74_3 (hroom 0 2 (by omega) (by decide)) hAA (c3_countsWith _ κ A s b x0 hF) (fun _ h => h) (fun _ _ _ h _ _ => h) (fun _ h => j_recv E h hc rfl) rfl rfl hcat hd hkn kk
  · rename_i hc
    exact j_callu (C := RX4) (owner := "OneBeatsBoth$Player") [.int x0] rest E wv_RX2_74_4 (hroom 0 2 (by omega) (by decide)) hAA (c4_countsWith _ κ A s b x0 hF) (fun _ h => h) (fun _ _ _ h _ _ => h) (fun _ h => j_recv E h hc rfl) rfl rfl hcat hd hkn kk
  · rename_i hc
    exact j_callu (C := RX5) (owner := "OneBeatsBoth$Player") [.int x0] rest E wv_RX2_74_5 (hroom 0 2 (by omega) (by decide)) hAA (c6_countsWith _ κ A s b x0 hF) (fun _ h => h) (fun _ _ _ h _ _ => h) (fun _ h => j_recv E h hc rfl) rfl rfl hcat hd hkn kk
  · rename_i hc
    exact j_callv (C := RX6) [.int x0] rest E wv_RX2_74_6 (hroom 0 2 (by omega) (by decide)) hAA (c6_countsWith _ κ A s b x0 hF) (fun _ h => h) (fun _ _ _ h _ _ => h) (fun _ h => j_recv E h hc rfl) rfl rfl hcat hd hkn kk
  · rename_i hc
    exact j_callu (C := RX7) (owner := "OneBeatsBoth$Player") [.int x0] rest E wv_RX2_74_7 (hroom 0 2 (by omega) (by decide)) hAA (c7_countsWith _ κ A s b x0 hF) (fun _ h => h) (fun _ _ _ h _ _ => h) (fun _ h => j_recv E h hc rfl) rfl rfl hcat hd hkn kk
  · rename_i hc
    exact j_callu (C := RX9) (owner := "OneBeatsBoth$Player") [.int x0] rest E wv_RX2_74_9 (hroom 1 2 (by omega) (by decide)) hAA (c9_countsWith _ κ A s b x0 hF) (fun _ h => h) (fun _ _ _ h _ _ => h) (fun _ h => j_recv E h hc rfl) rfl rfl hcat hd hkn kk
  · cases hF
end
