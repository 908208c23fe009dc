section
-- ===== PART A: goes FIRST, ahead of the names: the tables' words, and 'selects' of the private methods out of them =====
/-- a private method of a class that the tables say can be made, by its rows of tables_1 -/
def lw_okq (q : MethodName × Nat) : Prop := (q.1.cls ≠ "java/lang/invoke/MethodHandle" ∧ q.1.cls ≠ "java/lang/invoke/VarHandle") ∧ Cond.instantiable q.1.cls q.2 ∈ tables_1 ∧ Cond.privateMethod q.1 ∈ tables_1 ∧ Cond.instanceMethod q.1 ∈ tables_1
theorem lw_p0 : lw_okq (⟨"OneBeatsBoth", "bytesOn", "(I)LOneBeatsBoth$Row;"⟩, 8) := ⟨⟨by decide +kernel, by decide +kernel⟩, List.mem_of_getElem? (i := 22) (by decide +kernel), List.mem_of_getElem? (i := 104) (by decide +kernel), List.mem_of_getElem? (i := 105) (by decide +kernel)⟩
theorem lw_p1 : lw_okq (⟨"OneBeatsBoth", "rowOn", "(I)LOneBeatsBoth$Row;"⟩, 8) := ⟨⟨by decide +kernel, by decide +kernel⟩, List.mem_of_getElem? (i := 22) (by decide +kernel), List.mem_of_getElem? (i := 108) (by decide +kernel), List.mem_of_getElem? (i := 109) (by decide +kernel)⟩
theorem lw_p2 : lw_okq (⟨"OneBeatsBoth", "whyNotOn", "(I)I"⟩, 8) := ⟨⟨by decide +kernel, by decide +kernel⟩, List.mem_of_getElem? (i := 22) (by decide +kernel), List.mem_of_getElem? (i := 115) (by decide +kernel), List.mem_of_getElem? (i := 116) (by decide +kernel)⟩
theorem lw_p3 : lw_okq (⟨"OneBeatsBoth", "isBare", "(I)Z"⟩, 8) := ⟨⟨by decide +kernel, by decide +kernel⟩, List.mem_of_getElem? (i := 22) (by decide +kernel), List.mem_of_getElem? (i := 119) (by decide +kernel), List.mem_of_getElem? (i := 120) (by decide +kernel)⟩
theorem lw_p4 : lw_okq (⟨"OneBeatsBoth", "personOn", "(I)LOneBeatsBoth$Player;"⟩, 8) := ⟨⟨by decide +kernel, by decide +kernel⟩, List.mem_of_getElem? (i := 22) (by decide +kernel), List.mem_of_getElem? (i := 123) (by decide +kernel), List.mem_of_getElem? (i := 124) (by decide +kernel)⟩
theorem lw_p5 : lw_okq (⟨"OneBeatsBoth", "draftFollows", "(III)Z"⟩, 8) := ⟨⟨by decide +kernel, by decide +kernel⟩, List.mem_of_getElem? (i := 22) (by decide +kernel), List.mem_of_getElem? (i := 152) (by decide +kernel), List.mem_of_getElem? (i := 153) (by decide +kernel)⟩
theorem lw_p6 : lw_okq (⟨"OneBeatsBoth$League", "eachHasMaster", "()Z"⟩, 4) := ⟨⟨by decide +kernel, by decide +kernel⟩, List.mem_of_getElem? (i := 47) (by decide +kernel), List.mem_of_getElem? (i := 386) (by decide +kernel), List.mem_of_getElem? (i := 387) (by decide +kernel)⟩
theorem lw_p7 : lw_okq (⟨"OneBeatsBoth", "lawfulTurns", "()I"⟩, 8) := ⟨⟨by decide +kernel, by decide +kernel⟩, List.mem_of_getElem? (i := 22) (by decide +kernel), List.mem_of_getElem? (i := 421) (by decide +kernel), List.mem_of_getElem? (i := 422) (by decide +kernel)⟩
theorem lw_p8 : lw_okq (⟨"OneBeatsBoth", "clearTold", "()V"⟩, 8) := ⟨⟨by decide +kernel, by decide +kernel⟩, List.mem_of_getElem? (i := 22) (by decide +kernel), List.mem_of_getElem? (i := 503) (by decide +kernel), List.mem_of_getElem? (i := 504) (by decide +kernel)⟩
theorem lw_p9 : lw_okq (⟨"OneBeatsBoth", "lawfulWaysAsTold", "()I"⟩, 8) := ⟨⟨by decide +kernel, by decide +kernel⟩, List.mem_of_getElem? (i := 22) (by decide +kernel), List.mem_of_getElem? (i := 507) (by decide +kernel), List.mem_of_getElem? (i := 508) (by decide +kernel)⟩
theorem lw_p10 : lw_okq (⟨"java/lang/Throwable", "fillInStackTrace", "(I)Ljava/lang/Throwable;"⟩, 6) := ⟨⟨by decide +kernel, by decide +kernel⟩, List.mem_of_getElem? (i := 671) (by decide +kernel), List.mem_of_getElem? (i := 669) (by decide +kernel), List.mem_of_getElem? (i := 670) (by decide +kernel)⟩
theorem lw_p11 : lw_okq (⟨"OneBeatsBothModel", "wrongRow", "(II)I"⟩, 19) := ⟨⟨by decide +kernel, by decide +kernel⟩, List.mem_of_getElem? (i := 755) (by decide +kernel), List.mem_of_getElem? (i := 827) (by decide +kernel), List.mem_of_getElem? (i := 828) (by decide +kernel)⟩
theorem lw_p12 : lw_okq (⟨"OneBeatsBothModel", "readsStatement", "()Z"⟩, 19) := ⟨⟨by decide +kernel, by decide +kernel⟩, List.mem_of_getElem? (i := 755) (by decide +kernel), List.mem_of_getElem? (i := 838) (by decide +kernel), List.mem_of_getElem? (i := 839) (by decide +kernel)⟩
theorem lw_p13 : lw_okq (⟨"OneBeatsBothModel", "here", "()I"⟩, 19) := ⟨⟨by decide +kernel, by decide +kernel⟩, List.mem_of_getElem? (i := 755) (by decide +kernel), List.mem_of_getElem? (i := 842) (by decide +kernel), List.mem_of_getElem? (i := 843) (by decide +kernel)⟩
theorem lw_p14 : lw_okq (⟨"OneBeatsBothModel", "readsDigits", "(I)Z"⟩, 19) := ⟨⟨by decide +kernel, by decide +kernel⟩, List.mem_of_getElem? (i := 755) (by decide +kernel), List.mem_of_getElem? (i := 846) (by decide +kernel), List.mem_of_getElem? (i := 847) (by decide +kernel)⟩
theorem lw_p15 : lw_okq (⟨"OneBeatsBothModel", "comesTold", "(I)Z"⟩, 19) := ⟨⟨by decide +kernel, by decide +kernel⟩, List.mem_of_getElem? (i := 755) (by decide +kernel), List.mem_of_getElem? (i := 855) (by decide +kernel), List.mem_of_getElem? (i := 856) (by decide +kernel)⟩
def lw_privs_1 : List (MethodName × Nat) := [(⟨"OneBeatsBoth", "bytesOn", "(I)LOneBeatsBoth$Row;"⟩, 8), (⟨"OneBeatsBoth", "rowOn", "(I)LOneBeatsBoth$Row;"⟩, 8), (⟨"OneBeatsBoth", "whyNotOn", "(I)I"⟩, 8), (⟨"OneBeatsBoth", "isBare", "(I)Z"⟩, 8), (⟨"OneBeatsBoth", "personOn", "(I)LOneBeatsBoth$Player;"⟩, 8), (⟨"OneBeatsBoth", "draftFollows", "(III)Z"⟩, 8), (⟨"OneBeatsBoth$League", "eachHasMaster", "()Z"⟩, 4), (⟨"OneBeatsBoth", "lawfulTurns", "()I"⟩, 8), (⟨"OneBeatsBoth", "clearTold", "()V"⟩, 8), (⟨"OneBeatsBoth", "lawfulWaysAsTold", "()I"⟩, 8), (⟨"java/lang/Throwable", "fillInStackTrace", "(I)Ljava/lang/Throwable;"⟩, 6), (⟨"OneBeatsBothModel", "wrongRow", "(II)I"⟩, 19), (⟨"OneBeatsBothModel", "readsStatement", "()Z"⟩, 19), (⟨"OneBeatsBothModel", "here", "()I"⟩, 19), (⟨"OneBeatsBothModel", "readsDigits", "(I)Z"⟩, 19), (⟨"OneBeatsBothModel", "comesTold", "(I)Z"⟩, 19)]
theorem lw_r1 : ∀ q ∈ lw_privs_1, lw_okq q := List.forall_mem_cons.mpr ⟨lw_p0, List.forall_mem_cons.mpr ⟨lw_p1, List.forall_mem_cons.mpr ⟨lw_p2, List.forall_mem_cons.mpr ⟨lw_p3, List.forall_mem_cons.mpr ⟨lw_p4, List.forall_mem_cons.mpr ⟨lw_p5, List.forall_mem_cons.mpr ⟨lw_p6, List.forall_mem_cons.mpr ⟨lw_p7, List.forall_mem_cons.mpr ⟨lw_p8, List.forall_mem_cons.mpr ⟨lw_p9, List.forall_mem_cons.mpr ⟨lw_p10, List.forall_mem_cons.mpr ⟨lw_p11, List.forall_mem_cons.mpr ⟨lw_p12, List.forall_mem_cons.mpr ⟨lw_p13, List.forall_mem_cons.mpr ⟨lw_p14, List.forall_mem_cons.mpr ⟨lw_p15, fun _ h => absurd h List.not_mem_nil⟩⟩⟩⟩⟩⟩⟩⟩⟩⟩⟩⟩⟩⟩⟩⟩
theorem lw_p16 : lw_okq (⟨"OneBeatsBothModel", "adds", "(II)Z"⟩, 19) := ⟨⟨by decide +kernel, by decide +kernel⟩, List.mem_of_getElem? (i := 755) (by decide +kernel), List.mem_of_getElem? (i := 859) (by decide +kernel), List.mem_of_getElem? (i := 860) (by decide +kernel)⟩
theorem lw_p17 : lw_okq (⟨"OneBeatsBothModel", "joins", "(II)V"⟩, 19) := ⟨⟨by decide +kernel, by decide +kernel⟩, List.mem_of_getElem? (i := 755) (by decide +kernel), List.mem_of_getElem? (i := 863) (by decide +kernel), List.mem_of_getElem? (i := 864) (by decide +kernel)⟩
theorem lw_p18 : lw_okq (⟨"OneBeatsBothModel", "puts", "(III)V"⟩, 19) := ⟨⟨by decide +kernel, by decide +kernel⟩, List.mem_of_getElem? (i := 755) (by decide +kernel), List.mem_of_getElem? (i := 867) (by decide +kernel), List.mem_of_getElem? (i := 868) (by decide +kernel)⟩
theorem lw_p19 : lw_okq (⟨"OneBeatsBothModel", "beaten", "(I)I"⟩, 19) := ⟨⟨by decide +kernel, by decide +kernel⟩, List.mem_of_getElem? (i := 755) (by decide +kernel), List.mem_of_getElem? (i := 871) (by decide +kernel), List.mem_of_getElem? (i := 872) (by decide +kernel)⟩
theorem lw_p20 : lw_okq (⟨"OneBeatsBothModel", "areTwo", "(II)Z"⟩, 19) := ⟨⟨by decide +kernel, by decide +kernel⟩, List.mem_of_getElem? (i := 755) (by decide +kernel), List.mem_of_getElem? (i := 875) (by decide +kernel), List.mem_of_getElem? (i := 876) (by decide +kernel)⟩
theorem lw_p21 : lw_okq (⟨"OneBeatsBothModel", "isOne", "(I)Z"⟩, 19) := ⟨⟨by decide +kernel, by decide +kernel⟩, List.mem_of_getElem? (i := 755) (by decide +kernel), List.mem_of_getElem? (i := 879) (by decide +kernel), List.mem_of_getElem? (i := 880) (by decide +kernel)⟩
theorem lw_p22 : lw_okq (⟨"OneBeatsBothModel", "beats", "(II)V"⟩, 19) := ⟨⟨by decide +kernel, by decide +kernel⟩, List.mem_of_getElem? (i := 755) (by decide +kernel), List.mem_of_getElem? (i := 883) (by decide +kernel), List.mem_of_getElem? (i := 884) (by decide +kernel)⟩
theorem lw_p23 : lw_okq (⟨"OneBeatsBothModel", "leaves", "(I)V"⟩, 19) := ⟨⟨by decide +kernel, by decide +kernel⟩, List.mem_of_getElem? (i := 755) (by decide +kernel), List.mem_of_getElem? (i := 891) (by decide +kernel), List.mem_of_getElem? (i := 892) (by decide +kernel)⟩
theorem lw_p24 : lw_okq (⟨"OneBeatsBothModel", "kind", "(I)I"⟩, 19) := ⟨⟨by decide +kernel, by decide +kernel⟩, List.mem_of_getElem? (i := 755) (by decide +kernel), List.mem_of_getElem? (i := 899) (by decide +kernel), List.mem_of_getElem? (i := 900) (by decide +kernel)⟩
theorem lw_p25 : lw_okq (⟨"OneBeatsBothModel", "figure", "(I)I"⟩, 19) := ⟨⟨by decide +kernel, by decide +kernel⟩, List.mem_of_getElem? (i := 755) (by decide +kernel), List.mem_of_getElem? (i := 903) (by decide +kernel), List.mem_of_getElem? (i := 904) (by decide +kernel)⟩
theorem lw_p26 : lw_okq (⟨"OneBeatsBothModel", "skill", "(I)I"⟩, 19) := ⟨⟨by decide +kernel, by decide +kernel⟩, List.mem_of_getElem? (i := 755) (by decide +kernel), List.mem_of_getElem? (i := 907) (by decide +kernel), List.mem_of_getElem? (i := 908) (by decide +kernel)⟩
theorem lw_p27 : lw_okq (⟨"OneBeatsBothModel", "counts", "(I)Z"⟩, 19) := ⟨⟨by decide +kernel, by decide +kernel⟩, List.mem_of_getElem? (i := 755) (by decide +kernel), List.mem_of_getElem? (i := 914) (by decide +kernel), List.mem_of_getElem? (i := 915) (by decide +kernel)⟩
theorem lw_p28 : lw_okq (⟨"OneBeatsBothModel", "wrongKept", "(I)I"⟩, 19) := ⟨⟨by decide +kernel, by decide +kernel⟩, List.mem_of_getElem? (i := 755) (by decide +kernel), List.mem_of_getElem? (i := 928) (by decide +kernel), List.mem_of_getElem? (i := 929) (by decide +kernel)⟩
theorem lw_p29 : lw_okq (⟨"OneBeatsBothModel", "isLawful", "()Z"⟩, 19) := ⟨⟨by decide +kernel, by decide +kernel⟩, List.mem_of_getElem? (i := 755) (by decide +kernel), List.mem_of_getElem? (i := 944) (by decide +kernel), List.mem_of_getElem? (i := 945) (by decide +kernel)⟩
theorem lw_p30 : lw_okq (⟨"OneBeatsBothModel", "mastersOf", "(I)I"⟩, 19) := ⟨⟨by decide +kernel, by decide +kernel⟩, List.mem_of_getElem? (i := 755) (by decide +kernel), List.mem_of_getElem? (i := 948) (by decide +kernel), List.mem_of_getElem? (i := 949) (by decide +kernel)⟩
theorem lw_p31 : lw_okq (⟨"OneBeatsBothModel", "turnedTo", "(Z)I"⟩, 19) := ⟨⟨by decide +kernel, by decide +kernel⟩, List.mem_of_getElem? (i := 755) (by decide +kernel), List.mem_of_getElem? (i := 964) (by decide +kernel), List.mem_of_getElem? (i := 965) (by decide +kernel)⟩
def lw_privs_2 : List (MethodName × Nat) := [(⟨"OneBeatsBothModel", "adds", "(II)Z"⟩, 19), (⟨"OneBeatsBothModel", "joins", "(II)V"⟩, 19), (⟨"OneBeatsBothModel", "puts", "(III)V"⟩, 19), (⟨"OneBeatsBothModel", "beaten", "(I)I"⟩, 19), (⟨"OneBeatsBothModel", "areTwo", "(II)Z"⟩, 19), (⟨"OneBeatsBothModel", "isOne", "(I)Z"⟩, 19), (⟨"OneBeatsBothModel", "beats", "(II)V"⟩, 19), (⟨"OneBeatsBothModel", "leaves", "(I)V"⟩, 19), (⟨"OneBeatsBothModel", "kind", "(I)I"⟩, 19), (⟨"OneBeatsBothModel", "figure", "(I)I"⟩, 19), (⟨"OneBeatsBothModel", "skill", "(I)I"⟩, 19), (⟨"OneBeatsBothModel", "counts", "(I)Z"⟩, 19), (⟨"OneBeatsBothModel", "wrongKept", "(I)I"⟩, 19), (⟨"OneBeatsBothModel", "isLawful", "()Z"⟩, 19), (⟨"OneBeatsBothModel", "mastersOf", "(I)I"⟩, 19), (⟨"OneBeatsBothModel", "turnedTo", "(Z)I"⟩, 19)]
theorem lw_r2 : ∀ q ∈ lw_privs_2, lw_okq q := List.forall_mem_cons.mpr ⟨lw_p16, List.forall_mem_cons.mpr ⟨lw_p17, List.forall_mem_cons.mpr ⟨lw_p18, List.forall_mem_cons.mpr ⟨lw_p19, List.forall_mem_cons.mpr ⟨lw_p20, List.forall_mem_cons.mpr ⟨lw_p21, List.forall_mem_cons.mpr ⟨lw_p22, List.forall_mem_cons.mpr ⟨lw_p23, List.forall_mem_cons.mpr ⟨lw_p24, List.forall_mem_cons.mpr ⟨lw_p25, List.forall_mem_cons.mpr ⟨lw_p26, List.forall_mem_cons.mpr ⟨lw_p27, List.forall_mem_cons.mpr ⟨lw_p28, List.forall_mem_cons.mpr ⟨lw_p29, List.forall_mem_cons.mpr ⟨lw_p30, List.forall_mem_cons.mpr ⟨lw_p31, fun _ h => absurd h List.not_mem_nil⟩⟩⟩⟩⟩⟩⟩⟩⟩⟩⟩⟩⟩⟩⟩⟩
theorem lw_p32 : lw_okq (⟨"OneBeatsBothModel", "turns", "(II)V"⟩, 19) := ⟨⟨by decide +kernel, by decide +kernel⟩, List.mem_of_getElem? (i := 755) (by decide +kernel), List.mem_of_getElem? (i := 968) (by decide +kernel), List.mem_of_getElem? (i := 969) (by decide +kernel)⟩
theorem lw_p33 : lw_okq (⟨"OneBeatsBothModel", "putsRight", "()V"⟩, 19) := ⟨⟨by decide +kernel, by decide +kernel⟩, List.mem_of_getElem? (i := 755) (by decide +kernel), List.mem_of_getElem? (i := 988) (by decide +kernel), List.mem_of_getElem? (i := 989) (by decide +kernel)⟩
theorem lw_p34 : lw_okq (⟨"OneBeatsBothModel", "tries", "(III)V"⟩, 19) := ⟨⟨by decide +kernel, by decide +kernel⟩, List.mem_of_getElem? (i := 755) (by decide +kernel), List.mem_of_getElem? (i := 992) (by decide +kernel), List.mem_of_getElem? (i := 993) (by decide +kernel)⟩
theorem lw_p35 : lw_okq (⟨"OneBeatsBothModel", "begins", "()V"⟩, 19) := ⟨⟨by decide +kernel, by decide +kernel⟩, List.mem_of_getElem? (i := 755) (by decide +kernel), List.mem_of_getElem? (i := 1005) (by decide +kernel), List.mem_of_getElem? (i := 1006) (by decide +kernel)⟩
theorem lw_p36 : lw_okq (⟨"OneBeatsBothModel", "ends", "()V"⟩, 19) := ⟨⟨by decide +kernel, by decide +kernel⟩, List.mem_of_getElem? (i := 755) (by decide +kernel), List.mem_of_getElem? (i := 1009) (by decide +kernel), List.mem_of_getElem? (i := 1010) (by decide +kernel)⟩
theorem lw_p37 : lw_okq (⟨"OneBeatsBothModel", "matches", "()I"⟩, 19) := ⟨⟨by decide +kernel, by decide +kernel⟩, List.mem_of_getElem? (i := 755) (by decide +kernel), List.mem_of_getElem? (i := 1023) (by decide +kernel), List.mem_of_getElem? (i := 1024) (by decide +kernel)⟩
theorem lw_p38 : lw_okq (⟨"OneBeatsBothModel", "plays", "(I)V"⟩, 19) := ⟨⟨by decide +kernel, by decide +kernel⟩, List.mem_of_getElem? (i := 755) (by decide +kernel), List.mem_of_getElem? (i := 1027) (by decide +kernel), List.mem_of_getElem? (i := 1028) (by decide +kernel)⟩
theorem lw_p39 : lw_okq (⟨"OneBeatsBothModel", "weightNow", "()J"⟩, 19) := ⟨⟨by decide +kernel, by decide +kernel⟩, List.mem_of_getElem? (i := 755) (by decide +kernel), List.mem_of_getElem? (i := 1031) (by decide +kernel), List.mem_of_getElem? (i := 1032) (by decide +kernel)⟩
theorem lw_p40 : lw_okq (⟨"OneBeatsBothModel", "told", "(II)I"⟩, 19) := ⟨⟨by decide +kernel, by decide +kernel⟩, List.mem_of_getElem? (i := 755) (by decide +kernel), List.mem_of_getElem? (i := 1069) (by decide +kernel), List.mem_of_getElem? (i := 1070) (by decide +kernel)⟩
theorem lw_p41 : lw_okq (⟨"OneBeatsBothModel", "isAsPlayed", "(I)Z"⟩, 19) := ⟨⟨by decide +kernel, by decide +kernel⟩, List.mem_of_getElem? (i := 755) (by decide +kernel), List.mem_of_getElem? (i := 1073) (by decide +kernel), List.mem_of_getElem? (i := 1074) (by decide +kernel)⟩
theorem lw_p42 : lw_okq (⟨"OneBeatsBothModel", "drawn", "(I)I"⟩, 19) := ⟨⟨by decide +kernel, by decide +kernel⟩, List.mem_of_getElem? (i := 755) (by decide +kernel), List.mem_of_getElem? (i := 1082) (by decide +kernel), List.mem_of_getElem? (i := 1083) (by decide +kernel)⟩
theorem lw_p43 : lw_okq (⟨"OneBeatsBothModel", "wrongThree", "(II)I"⟩, 19) := ⟨⟨by decide +kernel, by decide +kernel⟩, List.mem_of_getElem? (i := 755) (by decide +kernel), List.mem_of_getElem? (i := 1093) (by decide +kernel), List.mem_of_getElem? (i := 1094) (by decide +kernel)⟩
def lw_privs_3 : List (MethodName × Nat) := [(⟨"OneBeatsBothModel", "turns", "(II)V"⟩, 19), (⟨"OneBeatsBothModel", "putsRight", "()V"⟩, 19), (⟨"OneBeatsBothModel", "tries", "(III)V"⟩, 19), (⟨"OneBeatsBothModel", "begins", "()V"⟩, 19), (⟨"OneBeatsBothModel", "ends", "()V"⟩, 19), (⟨"OneBeatsBothModel", "matches", "()I"⟩, 19), (⟨"OneBeatsBothModel", "plays", "(I)V"⟩, 19), (⟨"OneBeatsBothModel", "weightNow", "()J"⟩, 19), (⟨"OneBeatsBothModel", "told", "(II)I"⟩, 19), (⟨"OneBeatsBothModel", "isAsPlayed", "(I)Z"⟩, 19), (⟨"OneBeatsBothModel", "drawn", "(I)I"⟩, 19), (⟨"OneBeatsBothModel", "wrongThree", "(II)I"⟩, 19)]
theorem lw_r3 : ∀ q ∈ lw_privs_3, lw_okq q := List.forall_mem_cons.mpr ⟨lw_p32, List.forall_mem_cons.mpr ⟨lw_p33, List.forall_mem_cons.mpr ⟨lw_p34, List.forall_mem_cons.mpr ⟨lw_p35, List.forall_mem_cons.mpr ⟨lw_p36, List.forall_mem_cons.mpr ⟨lw_p37, List.forall_mem_cons.mpr ⟨lw_p38, List.forall_mem_cons.mpr ⟨lw_p39, List.forall_mem_cons.mpr ⟨lw_p40, List.forall_mem_cons.mpr ⟨lw_p41, List.forall_mem_cons.mpr ⟨lw_p42, List.forall_mem_cons.mpr ⟨lw_p43, fun _ h => absurd h List.not_mem_nil⟩⟩⟩⟩⟩⟩⟩⟩⟩⟩⟩⟩
def lw_privs : List (MethodName × Nat) := lw_privs_1 ++ (lw_privs_2 ++ (lw_privs_3))
def lw_tbl : List Cond := k2_sels lw_privs ++ tables_1
theorem lw_privs_ok : ∀ q ∈ lw_privs, lw_okq q := by
  show ∀ q ∈ lw_privs_1 ++ (lw_privs_2 ++ (lw_privs_3)), lw_okq q
  exact List.forall_mem_append.mpr ⟨lw_r1, List.forall_mem_append.mpr ⟨lw_r2, lw_r3⟩⟩
-- ===== end of PART A; then your names; then what follows =====
/-! ===== BEGIN printed: names, fields, word lists, decode rows ===== -/
def RX0 : String := "OneBeatsBoth$Champion"
def TX0 : u_T := fun k => match k with
  | _ => ("OneBeatsBoth$Player", "figure", "I", true)
def tyX0 : Nat → FieldType := fun k => match k with
  | _ => .int
abbrev wsX00 : List Cond := u_ws RX0 TX0 1
theorem nmX0 : ∀ a, a < 1 → ∀ b, b < 1 → a ≠ b → (TX0 a).2.1 ≠ (TX0 b).2.1 := by decide +kernel
theorem tyX0_ok : ∀ k, k < 1 → parseFieldDescriptor (TX0 k).2.2.1 = some (tyX0 k) := by decide +kernel
abbrev cX0_init : ByteArray := prog_2_method_1_code
def yX0_init : MethodName := ⟨RX0, "<init>", "(I)V"⟩
abbrev cX0_kind : ByteArray := prog_2_method_2_code
def yX0_kind : MethodName := ⟨RX0, "kind", "()I"⟩
abbrev cX0_skill : ByteArray := prog_2_method_3_code
def yX0_skill : MethodName := ⟨RX0, "skill", "()I"⟩
abbrev cX0_cost : ByteArray := prog_2_method_4_code
def yX0_cost : MethodName := ⟨RX0, "cost", "()I"⟩
def RX1 : String := "OneBeatsBoth$Guest"
def TX1 : u_T := fun k => match k with
  | _ => ("OneBeatsBoth$Player", "figure", "I", true)
def tyX1 : Nat → FieldType := fun k => match k with
  | _ => .int
abbrev wsX10 : List Cond := u_ws RX1 TX1 1
theorem nmX1 : ∀ a, a < 1 → ∀ b, b < 1 → a ≠ b → (TX1 a).2.1 ≠ (TX1 b).2.1 := by decide +kernel
theorem tyX1_ok : ∀ k, k < 1 → parseFieldDescriptor (TX1 k).2.2.1 = some (tyX1 k) := by decide +kernel
abbrev cX1_init : ByteArray := prog_3_method_1_code
def yX1_init : MethodName := ⟨RX1, "<init>", "(I)V"⟩
abbrev cX1_kind : ByteArray := prog_3_method_2_code
def yX1_kind : MethodName := ⟨RX1, "kind", "()I"⟩
abbrev cX1_skill : ByteArray := prog_3_method_3_code
def yX1_skill : MethodName := ⟨RX1, "skill", "()I"⟩
abbrev cX1_cost : ByteArray := prog_3_method_4_code
def yX1_cost : MethodName := ⟨RX1, "cost", "()I"⟩
def RX2 : String := "OneBeatsBoth$League"
def TX2 : u_T := fun k => match k with
  | 0 => ("OneBeatsBoth$League", "people", "[LOneBeatsBoth$Player;", true)
  | 1 => ("OneBeatsBoth$League", "beaten", "[I", true)
  | 2 => ("OneBeatsBoth$League", "size", "I", false)
  | _ => ("OneBeatsBoth$League", "law", "I", false)
def tyX2 : Nat → FieldType := fun k => match k with
  | 0 => .array (.object "OneBeatsBoth$Player")
  | 1 => .array .int
  | 2 => .int
  | _ => .int
abbrev wsX20 : List Cond := u_ws RX2 TX2 4
theorem nmX2 : ∀ a, a < 4 → ∀ b, b < 4 → a ≠ b → (TX2 a).2.1 ≠ (TX2 b).2.1 := by decide +kernel
theorem tyX2_ok : ∀ k, k < 4 → parseFieldDescriptor (TX2 k).2.2.1 = some (tyX2 k) := by decide +kernel
abbrev cX2_init : ByteArray := prog_4_method_1_code
def yX2_init : MethodName := ⟨RX2, "<init>", "(LOneBeatsBoth$Player;)V"⟩
abbrev cX2_become : ByteArray := prog_4_method_2_code
def yX2_become : MethodName := ⟨RX2, "become", "(LOneBeatsBoth$League;)V"⟩
abbrev cX2_has : ByteArray := prog_4_method_3_code
def yX2_has : MethodName := ⟨RX2, "has", "(I)Z"⟩
abbrev cX2_hasBoth : ByteArray := prog_4_method_4_code
def yX2_hasBoth : MethodName := ⟨RX2, "hasBoth", "(II)Z"⟩
abbrev cX2_hasBeaten : ByteArray := prog_4_method_5_code
def yX2_hasBeaten : MethodName := ⟨RX2, "hasBeaten", "(II)Z"⟩
abbrev cX2_seat : ByteArray := prog_4_method_6_code
def yX2_seat : MethodName := ⟨RX2, "seat", "(LOneBeatsBoth$Player;)V"⟩
abbrev cX2_unseat : ByteArray := prog_4_method_7_code
def yX2_unseat : MethodName := ⟨RX2, "unseat", "(I)V"⟩
abbrev cX2_win : ByteArray := prog_4_method_8_code
def yX2_win : MethodName := ⟨RX2, "win", "(II)V"⟩
abbrev cX2_matches : ByteArray := prog_4_method_9_code
def yX2_matches : MethodName := ⟨RX2, "matches", "()I"⟩
abbrev cX2_turn : ByteArray := prog_4_method_10_code
def yX2_turn : MethodName := ⟨RX2, "turn", "(I)V"⟩
abbrev cX2_costOfTurn : ByteArray := prog_4_method_11_code
def yX2_costOfTurn : MethodName := ⟨RX2, "costOfTurn", "(I)I"⟩
abbrev cX2_play : ByteArray := prog_4_method_12_code
def yX2_play : MethodName := ⟨RX2, "play", "(I)V"⟩
abbrev cX2_playSeason : ByteArray := prog_4_method_13_code
def yX2_playSeason : MethodName := ⟨RX2, "playSeason", "(I)I"⟩
abbrev cX2_drawBelow : ByteArray := prog_4_method_14_code
def yX2_drawBelow : MethodName := ⟨RX2, "drawBelow", "(II)I"⟩
abbrev cX2_newcomerBeats : ByteArray := prog_4_method_15_code
def yX2_newcomerBeats : MethodName := ⟨RX2, "newcomerBeats", "(II)V"⟩
abbrev cX2_weight : ByteArray := prog_4_method_16_code
def yX2_weight : MethodName := ⟨RX2, "weight", "()J"⟩
abbrev cX2_isAsTold : ByteArray := prog_4_method_17_code
def yX2_isAsTold : MethodName := ⟨RX2, "isAsTold", "([I)Z"⟩
abbrev cX2_counting : ByteArray := prog_4_method_18_code
def yX2_counting : MethodName := ⟨RX2, "counting", "()I"⟩
abbrev cX2_mastersAmong : ByteArray := prog_4_method_19_code
def yX2_mastersAmong : MethodName := ⟨RX2, "mastersAmong", "(III)I"⟩
abbrev cX2_isLawful : ByteArray := prog_4_method_20_code
def yX2_isLawful : MethodName := ⟨RX2, "isLawful", "()Z"⟩
abbrev cX2_eachHasMaster : ByteArray := prog_4_method_21_code
def yX2_eachHasMaster : MethodName := ⟨RX2, "eachHasMaster", "()Z"⟩
abbrev cX2_firstOrphanPair : ByteArray := prog_4_method_22_code
def yX2_firstOrphanPair : MethodName := ⟨RX2, "firstOrphanPair", "()I"⟩
abbrev cX2_orphanPairs : ByteArray := prog_4_method_23_code
def yX2_orphanPairs : MethodName := ⟨RX2, "orphanPairs", "()I"⟩
abbrev cX2_isRing : ByteArray := prog_4_method_24_code
def yX2_isRing : MethodName := ⟨RX2, "isRing", "(III)Z"⟩
abbrev cX2_allCosts : ByteArray := prog_4_method_25_code
def yX2_allCosts : MethodName := ⟨RX2, "allCosts", "()I"⟩
abbrev cX2_wrongOfThree : ByteArray := prog_4_method_26_code
def yX2_wrongOfThree : MethodName := ⟨RX2, "wrongOfThree", "(III)I"⟩
def RX3 : String := "OneBeatsBoth$Novice"
def TX3 : u_T := fun k => match k with
  | _ => ("OneBeatsBoth$Player", "figure", "I", true)
def tyX3 : Nat → FieldType := fun k => match k with
  | _ => .int
abbrev wsX30 : List Cond := u_ws RX3 TX3 1
theorem nmX3 : ∀ a, a < 1 → ∀ b, b < 1 → a ≠ b → (TX3 a).2.1 ≠ (TX3 b).2.1 := by decide +kernel
theorem tyX3_ok : ∀ k, k < 1 → parseFieldDescriptor (TX3 k).2.2.1 = some (tyX3 k) := by decide +kernel
abbrev cX3_init : ByteArray := prog_5_method_1_code
def yX3_init : MethodName := ⟨RX3, "<init>", "(I)V"⟩
abbrev cX3_kind : ByteArray := prog_5_method_2_code
def yX3_kind : MethodName := ⟨RX3, "kind", "()I"⟩
abbrev cX3_skill : ByteArray := prog_5_method_3_code
def yX3_skill : MethodName := ⟨RX3, "skill", "()I"⟩
abbrev cX3_countsWith : ByteArray := prog_5_method_4_code
def yX3_countsWith : MethodName := ⟨RX3, "countsWith", "(I)Z"⟩
abbrev cX3_cost : ByteArray := prog_5_method_5_code
def yX3_cost : MethodName := ⟨RX3, "cost", "()I"⟩
abbrev cX3_fail : ByteArray := prog_5_method_6_code
def yX3_fail : MethodName := ⟨RX3, "fail", "()V"⟩
def RX4 : String := "OneBeatsBoth$Nuisance"
def TX4 : u_T := fun k => match k with
  | _ => ("OneBeatsBoth$Player", "figure", "I", true)
def tyX4 : Nat → FieldType := fun k => match k with
  | _ => .int
abbrev wsX40 : List Cond := u_ws RX4 TX4 1
theorem nmX4 : ∀ a, a < 1 → ∀ b, b < 1 → a ≠ b → (TX4 a).2.1 ≠ (TX4 b).2.1 := by decide +kernel
theorem tyX4_ok : ∀ k, k < 1 → parseFieldDescriptor (TX4 k).2.2.1 = some (tyX4 k) := by decide +kernel
abbrev cX4_init : ByteArray := prog_6_method_1_code
def yX4_init : MethodName := ⟨RX4, "<init>", "(I)V"⟩
abbrev cX4_kind : ByteArray := prog_6_method_2_code
def yX4_kind : MethodName := ⟨RX4, "kind", "()I"⟩
abbrev cX4_skill : ByteArray := prog_6_method_3_code
def yX4_skill : MethodName := ⟨RX4, "skill", "()I"⟩
abbrev cX4_countsWith : ByteArray := prog_6_method_4_code
def yX4_countsWith : MethodName := ⟨RX4, "countsWith", "(I)Z"⟩
abbrev cX4_cost : ByteArray := prog_6_method_5_code
def yX4_cost : MethodName := ⟨RX4, "cost", "()I"⟩
def RX5 : String := "OneBeatsBoth$Paid"
def TX5 : u_T := fun k => match k with
  | _ => ("OneBeatsBoth$Player", "figure", "I", true)
def tyX5 : Nat → FieldType := fun k => match k with
  | _ => .int
abbrev wsX50 : List Cond := u_ws RX5 TX5 1
theorem nmX5 : ∀ a, a < 1 → ∀ b, b < 1 → a ≠ b → (TX5 a).2.1 ≠ (TX5 b).2.1 := by decide +kernel
theorem tyX5_ok : ∀ k, k < 1 → parseFieldDescriptor (TX5 k).2.2.1 = some (tyX5 k) := by decide +kernel
abbrev cX5_init : ByteArray := prog_7_method_1_code
def yX5_init : MethodName := ⟨RX5, "<init>", "(I)V"⟩
abbrev cX5_kind : ByteArray := prog_7_method_2_code
def yX5_kind : MethodName := ⟨RX5, "kind", "()I"⟩
abbrev cX5_cost : ByteArray := prog_7_method_3_code
def yX5_cost : MethodName := ⟨RX5, "cost", "()I"⟩
abbrev cX5_fail : ByteArray := prog_7_method_4_code
def yX5_fail : MethodName := ⟨RX5, "fail", "()V"⟩
def RX6 : String := "OneBeatsBoth$Player"
def TX6 : u_T := fun k => match k with
  | _ => ("OneBeatsBoth$Player", "figure", "I", true)
def tyX6 : Nat → FieldType := fun k => match k with
  | _ => .int
abbrev wsX60 : List Cond := u_ws RX6 TX6 1
theorem nmX6 : ∀ a, a < 1 → ∀ b, b < 1 → a ≠ b → (TX6 a).2.1 ≠ (TX6 b).2.1 := by decide +kernel
theorem tyX6_ok : ∀ k, k < 1 → parseFieldDescriptor (TX6 k).2.2.1 = some (tyX6 k) := by decide +kernel
abbrev cX6_init : ByteArray := prog_8_method_1_code
def yX6_init : MethodName := ⟨RX6, "<init>", "(I)V"⟩
abbrev cX6_kind : ByteArray := prog_8_method_2_code
def yX6_kind : MethodName := ⟨RX6, "kind", "()I"⟩
abbrev cX6_skill : ByteArray := prog_8_method_3_code
def yX6_skill : MethodName := ⟨RX6, "skill", "()I"⟩
abbrev cX6_countsWith : ByteArray := prog_8_method_4_code
def yX6_countsWith : MethodName := ⟨RX6, "countsWith", "(I)Z"⟩
abbrev cX6_cost : ByteArray := prog_8_method_5_code
def yX6_cost : MethodName := ⟨RX6, "cost", "()I"⟩
abbrev cX6_fail : ByteArray := prog_8_method_6_code
def yX6_fail : MethodName := ⟨RX6, "fail", "()V"⟩
def RX7 : String := "OneBeatsBoth$Priest"
def TX7 : u_T := fun k => match k with
  | _ => ("OneBeatsBoth$Player", "figure", "I", true)
def tyX7 : Nat → FieldType := fun k => match k with
  | _ => .int
abbrev wsX70 : List Cond := u_ws RX7 TX7 1
theorem nmX7 : ∀ a, a < 1 → ∀ b, b < 1 → a ≠ b → (TX7 a).2.1 ≠ (TX7 b).2.1 := by decide +kernel
theorem tyX7_ok : ∀ k, k < 1 → parseFieldDescriptor (TX7 k).2.2.1 = some (tyX7 k) := by decide +kernel
abbrev cX7_init : ByteArray := prog_9_method_1_code
def yX7_init : MethodName := ⟨RX7, "<init>", "(I)V"⟩
abbrev cX7_kind : ByteArray := prog_9_method_2_code
def yX7_kind : MethodName := ⟨RX7, "kind", "()I"⟩
abbrev cX7_countsWith : ByteArray := prog_9_method_3_code
def yX7_countsWith : MethodName := ⟨RX7, "countsWith", "(I)Z"⟩
abbrev cX7_cost : ByteArray := prog_9_method_4_code
def yX7_cost : MethodName := ⟨RX7, "cost", "()I"⟩
abbrev cX7_fail : ByteArray := prog_9_method_5_code
def yX7_fail : MethodName := ⟨RX7, "fail", "()V"⟩
def RX8 : String := "OneBeatsBoth$Row"
def TX8 : u_T := fun k => match k with
  | 0 => ("OneBeatsBoth$Row", "sort", "I", true)
  | _ => ("OneBeatsBoth$Row", "cells", "[I", true)
def tyX8 : Nat → FieldType := fun k => match k with
  | 0 => .int
  | _ => .array .int
abbrev wsX80 : List Cond := u_ws RX8 TX8 2
theorem nmX8 : ∀ a, a < 2 → ∀ b, b < 2 → a ≠ b → (TX8 a).2.1 ≠ (TX8 b).2.1 := by decide +kernel
theorem tyX8_ok : ∀ k, k < 2 → parseFieldDescriptor (TX8 k).2.2.1 = some (tyX8 k) := by decide +kernel
abbrev cX8_init : ByteArray := prog_10_method_1_code
def yX8_init : MethodName := ⟨RX8, "<init>", "(I[I)V"⟩
abbrev cX8_size : ByteArray := prog_10_method_2_code
def yX8_size : MethodName := ⟨RX8, "size", "()I"⟩
abbrev cX8_hasPlaces : ByteArray := prog_10_method_3_code
def yX8_hasPlaces : MethodName := ⟨RX8, "hasPlaces", "(II)Z"⟩
abbrev cX8_at : ByteArray := prog_10_method_4_code
def yX8_at : MethodName := ⟨RX8, "at", "(I)I"⟩
abbrev cX8_change : ByteArray := prog_10_method_5_code
def yX8_change : MethodName := ⟨RX8, "change", "(II)V"⟩
def RX9 : String := "OneBeatsBoth$Twin"
def TX9 : u_T := fun k => match k with
  | _ => ("OneBeatsBoth$Player", "figure", "I", true)
def tyX9 : Nat → FieldType := fun k => match k with
  | _ => .int
abbrev wsX90 : List Cond := u_ws RX9 TX9 1
theorem nmX9 : ∀ a, a < 1 → ∀ b, b < 1 → a ≠ b → (TX9 a).2.1 ≠ (TX9 b).2.1 := by decide +kernel
theorem tyX9_ok : ∀ k, k < 1 → parseFieldDescriptor (TX9 k).2.2.1 = some (tyX9 k) := by decide +kernel
abbrev cX9_init : ByteArray := prog_11_method_1_code
def yX9_init : MethodName := ⟨RX9, "<init>", "(I)V"⟩
abbrev cX9_kind : ByteArray := prog_11_method_2_code
def yX9_kind : MethodName := ⟨RX9, "kind", "()I"⟩
abbrev cX9_skill : ByteArray := prog_11_method_3_code
def yX9_skill : MethodName := ⟨RX9, "skill", "()I"⟩
abbrev cX9_countsWith : ByteArray := prog_11_method_4_code
def yX9_countsWith : MethodName := ⟨RX9, "countsWith", "(I)Z"⟩
abbrev cX9_cost : ByteArray := prog_11_method_5_code
def yX9_cost : MethodName := ⟨RX9, "cost", "()I"⟩
def RX10 : String := "OneBeatsBoth"
def TX10 : u_T := fun k => match k with
  | 0 => ("OneBeatsBoth", "plain", "LOneBeatsBoth$Player;", true)
  | 1 => ("OneBeatsBoth", "now", "LOneBeatsBoth$League;", true)
  | 2 => ("OneBeatsBoth", "draft", "LOneBeatsBoth$League;", true)
  | 3 => ("OneBeatsBoth", "pictured", "LOneBeatsBoth$League;", true)
  | 4 => ("OneBeatsBoth", "hasImage", "Z", false)
  | 5 => ("OneBeatsBoth", "peopleOnShelves", "[LOneBeatsBoth$Player;", true)
  | 6 => ("OneBeatsBoth", "rowsOnShelves", "[LOneBeatsBoth$Row;", true)
  | _ => ("OneBeatsBoth", "told", "[I", true)
def tyX10 : Nat → FieldType := fun k => match k with
  | 0 => .object "OneBeatsBoth$Player"
  | 1 => .object "OneBeatsBoth$League"
  | 2 => .object "OneBeatsBoth$League"
  | 3 => .object "OneBeatsBoth$League"
  | 4 => .boolean
  | 5 => .array (.object "OneBeatsBoth$Player")
  | 6 => .array (.object "OneBeatsBoth$Row")
  | _ => .array .int
abbrev wsX100 : List Cond := u_ws RX10 TX10 8
theorem nmX10 : ∀ a, a < 8 → ∀ b, b < 8 → a ≠ b → (TX10 a).2.1 ≠ (TX10 b).2.1 := by decide +kernel
theorem tyX10_ok : ∀ k, k < 8 → parseFieldDescriptor (TX10 k).2.2.1 = some (tyX10 k) := by decide +kernel
abbrev cX10_init : ByteArray := prog_1_method_1_code
def yX10_init : MethodName := ⟨RX10, "<init>", "()V"⟩
abbrev cX10_league : ByteArray := prog_1_method_2_code
def yX10_league : MethodName := ⟨RX10, "league", "(I)I"⟩
abbrev cX10_one : ByteArray := prog_1_method_3_code
def yX10_one : MethodName := ⟨RX10, "one", "(II)I"⟩
abbrev cX10_comes : ByteArray := prog_1_method_4_code
def yX10_comes : MethodName := ⟨RX10, "comes", "(I)I"⟩
abbrev cX10_beat : ByteArray := prog_1_method_5_code
def yX10_beat : MethodName := ⟨RX10, "beat", "(II)I"⟩
abbrev cX10_law : ByteArray := prog_1_method_6_code
def yX10_law : MethodName := ⟨RX10, "law", "(I)I"⟩
abbrev cX10_lawful : ByteArray := prog_1_method_7_code
def yX10_lawful : MethodName := ⟨RX10, "lawful", "()I"⟩
abbrev cX10_masters : ByteArray := prog_1_method_8_code
def yX10_masters : MethodName := ⟨RX10, "masters", "(II)I"⟩
abbrev cX10_orphans : ByteArray := prog_1_method_9_code
def yX10_orphans : MethodName := ⟨RX10, "orphans", "(I)I"⟩
abbrev cX10_holding : ByteArray := prog_1_method_10_code
def yX10_holding : MethodName := ⟨RX10, "holding", "()I"⟩
abbrev cX10_free : ByteArray := prog_1_method_11_code
def yX10_free : MethodName := ⟨RX10, "free", "()I"⟩
abbrev cX10_rings : ByteArray := prog_1_method_12_code
def yX10_rings : MethodName := ⟨RX10, "rings", "()I"⟩
abbrev cX10_cup : ByteArray := prog_1_method_13_code
def yX10_cup : MethodName := ⟨RX10, "cup", "()I"⟩
abbrev cX10_right : ByteArray := prog_1_method_14_code
def yX10_right : MethodName := ⟨RX10, "right", "()I"⟩
abbrev cX10_cheapest : ByteArray := prog_1_method_15_code
def yX10_cheapest : MethodName := ⟨RX10, "cheapest", "()I"⟩
abbrev cX10_fresh : ByteArray := prog_1_method_16_code
def yX10_fresh : MethodName := ⟨RX10, "fresh", "(III)I"⟩
abbrev cX10_leavers : ByteArray := prog_1_method_17_code
def yX10_leavers : MethodName := ⟨RX10, "leavers", "()I"⟩
abbrev cX10_odds : ByteArray := prog_1_method_18_code
def yX10_odds : MethodName := ⟨RX10, "odds", "(I)J"⟩
abbrev cX10_ways : ByteArray := prog_1_method_19_code
def yX10_ways : MethodName := ⟨RX10, "ways", "(II)I"⟩
abbrev cX10_round : ByteArray := prog_1_method_20_code
def yX10_round : MethodName := ⟨RX10, "round", "(III)I"⟩
abbrev cX10_byRounds : ByteArray := prog_1_method_21_code
def yX10_byRounds : MethodName := ⟨RX10, "byRounds", "(II)I"⟩
abbrev cX10_played : ByteArray := prog_1_method_22_code
def yX10_played : MethodName := ⟨RX10, "played", "(I)I"⟩
abbrev cX10_seeded : ByteArray := prog_1_method_23_code
def yX10_seeded : MethodName := ⟨RX10, "seeded", "(II)I"⟩
abbrev cX10_judge : ByteArray := prog_1_method_24_code
def yX10_judge : MethodName := ⟨RX10, "judge", "(I)I"⟩
abbrev cX10_image : ByteArray := prog_1_method_25_code
def yX10_image : MethodName := ⟨RX10, "image", "()I"⟩
abbrev cX10_restore : ByteArray := prog_1_method_26_code
def yX10_restore : MethodName := ⟨RX10, "restore", "()I"⟩
abbrev cX10_count : ByteArray := prog_1_method_27_code
def yX10_count : MethodName := ⟨RX10, "count", "(I)I"⟩
abbrev cX10_keep : ByteArray := prog_1_method_28_code
def yX10_keep : MethodName := ⟨RX10, "keep", "(IIII)I"⟩
abbrev cX10_row : ByteArray := prog_1_method_29_code
def yX10_row : MethodName := ⟨RX10, "row", "(III)I"⟩
abbrev cX10_put : ByteArray := prog_1_method_30_code
def yX10_put : MethodName := ⟨RX10, "put", "(III)I"⟩
abbrev cX10_element : ByteArray := prog_1_method_31_code
def yX10_element : MethodName := ⟨RX10, "element", "(II)J"⟩
abbrev cX10_copy : ByteArray := prog_1_method_32_code
def yX10_copy : MethodName := ⟨RX10, "copy", "(IIIII)I"⟩
abbrev cX10_price : ByteArray := prog_1_method_33_code
def yX10_price : MethodName := ⟨RX10, "price", "(I)I"⟩
abbrev cX10_toss : ByteArray := prog_1_method_34_code
def yX10_toss : MethodName := ⟨RX10, "toss", "(I)I"⟩
abbrev cX10_isLaw : ByteArray := prog_1_method_35_code
def yX10_isLaw : MethodName := ⟨RX10, "isLaw", "(I)Z"⟩
abbrev cX10_isPerson : ByteArray := prog_1_method_36_code
def yX10_isPerson : MethodName := ⟨RX10, "isPerson", "(II)Z"⟩
abbrev cX10_isShelf : ByteArray := prog_1_method_37_code
def yX10_isShelf : MethodName := ⟨RX10, "isShelf", "(I)Z"⟩
abbrev cX10_isRing : ByteArray := prog_1_method_38_code
def yX10_isRing : MethodName := ⟨RX10, "isRing", "(I)Z"⟩
abbrev cX10_newPerson : ByteArray := prog_1_method_39_code
def yX10_newPerson : MethodName := ⟨RX10, "newPerson", "(II)LOneBeatsBoth$Player;"⟩
abbrev cX10_isBare : ByteArray := prog_1_method_40_code
def yX10_isBare : MethodName := ⟨RX10, "isBare", "(I)Z"⟩
abbrev cX10_personOn : ByteArray := prog_1_method_41_code
def yX10_personOn : MethodName := ⟨RX10, "personOn", "(I)LOneBeatsBoth$Player;"⟩
abbrev cX10_rowOn : ByteArray := prog_1_method_42_code
def yX10_rowOn : MethodName := ⟨RX10, "rowOn", "(I)LOneBeatsBoth$Row;"⟩
abbrev cX10_bytesOn : ByteArray := prog_1_method_43_code
def yX10_bytesOn : MethodName := ⟨RX10, "bytesOn", "(I)LOneBeatsBoth$Row;"⟩
abbrev cX10_whyNotOn : ByteArray := prog_1_method_44_code
def yX10_whyNotOn : MethodName := ⟨RX10, "whyNotOn", "(I)I"⟩
abbrev cX10_digitsBehind : ByteArray := prog_1_method_45_code
def yX10_digitsBehind : MethodName := ⟨RX10, "digitsBehind", "(I)I"⟩
abbrev cX10_brokenPlace : ByteArray := prog_1_method_46_code
def yX10_brokenPlace : MethodName := ⟨RX10, "brokenPlace", "(LOneBeatsBoth$Row;)I"⟩
abbrev cX10_draftFollows : ByteArray := prog_1_method_47_code
def yX10_draftFollows : MethodName := ⟨RX10, "draftFollows", "(III)Z"⟩
abbrev cX10_lawfulTurns : ByteArray := prog_1_method_48_code
def yX10_lawfulTurns : MethodName := ⟨RX10, "lawfulTurns", "()I"⟩
abbrev cX10_leastToTurn : ByteArray := prog_1_method_49_code
def yX10_leastToTurn : MethodName := ⟨RX10, "leastToTurn", "(LOneBeatsBoth$League;IIZ)I"⟩
abbrev cX10_clearTold : ByteArray := prog_1_method_50_code
def yX10_clearTold : MethodName := ⟨RX10, "clearTold", "()V"⟩
abbrev cX10_lawfulWaysAsTold : ByteArray := prog_1_method_51_code
def yX10_lawfulWaysAsTold : MethodName := ⟨RX10, "lawfulWaysAsTold", "()I"⟩
abbrev cX10_commonDivisor : ByteArray := prog_1_method_52_code
def yX10_commonDivisor : MethodName := ⟨RX10, "commonDivisor", "(JJ)J"⟩
abbrev cX10_isHalfOfDifferences : ByteArray := prog_1_method_53_code
def yX10_isHalfOfDifferences : MethodName := ⟨RX10, "isHalfOfDifferences", "(II)Z"⟩
abbrev cX10_setWithUpperHalf : ByteArray := prog_1_method_54_code
def yX10_setWithUpperHalf : MethodName := ⟨RX10, "setWithUpperHalf", "(II)I"⟩
abbrev cX10_isLawfulRing : ByteArray := prog_1_method_55_code
def yX10_isLawfulRing : MethodName := ⟨RX10, "isLawfulRing", "(III)Z"⟩
def RX11 : String := "OneBeatsBothModel"
def TX11 : u_T := fun k => match k with
  | 0 => ("OneBeatsBothModel", "s", "[I", true)
  | 1 => ("OneBeatsBothModel", "image", "[I", true)
  | 2 => ("OneBeatsBothModel", "read", "[I", true)
  | 3 => ("OneBeatsBothModel", "mind", "[I", true)
  | 4 => ("OneBeatsBothModel", "kept", "[I", true)
  | 5 => ("OneBeatsBothModel", "sort", "[I", true)
  | 6 => ("OneBeatsBothModel", "size", "[I", true)
  | 7 => ("OneBeatsBothModel", "element", "[I", true)
  | 8 => ("OneBeatsBothModel", "keptKind", "[I", true)
  | 9 => ("OneBeatsBothModel", "keptFigure", "[I", true)
  | 10 => ("OneBeatsBothModel", "hasImage", "Z", false)
  | 11 => ("OneBeatsBothModel", "thrown", "I", false)
  | 12 => ("OneBeatsBothModel", "pos", "I", false)
  | 13 => ("OneBeatsBothModel", "base", "I", false)
  | 14 => ("OneBeatsBothModel", "end", "I", false)
  | 15 => ("OneBeatsBothModel", "numbers", "[I", true)
  | 16 => ("OneBeatsBothModel", "leastTurned", "I", false)
  | 17 => ("OneBeatsBothModel", "leastPrice", "I", false)
  | _ => ("OneBeatsBothModel", "seed", "I", false)
def tyX11 : Nat → FieldType := fun k => match k with
  | 0 => .array .int
  | 1 => .array .int
  | 2 => .array .int
  | 3 => .array .int
  | 4 => .array .int
  | 5 => .array .int
  | 6 => .array .int
  | 7 => .array .int
  | 8 => .array .int
  | 9 => .array .int
  | 10 => .boolean
  | 11 => .int
  | 12 => .int
  | 13 => .int
  | 14 => .int
  | 15 => .array .int
  | 16 => .int
  | 17 => .int
  | _ => .int
abbrev wsX110 : List Cond := u_ws RX11 TX11 19
theorem nmX11 : ∀ a, a < 19 → ∀ b, b < 19 → a ≠ b → (TX11 a).2.1 ≠ (TX11 b).2.1 := by decide +kernel
theorem tyX11_ok : ∀ k, k < 19 → parseFieldDescriptor (TX11 k).2.2.1 = some (tyX11 k) := by decide +kernel
abbrev cX11_init : ByteArray := prog_13_method_1_code
def yX11_init : MethodName := ⟨RX11, "<init>", "()V"⟩
abbrev cX11_thrown : ByteArray := prog_13_method_2_code
def yX11_thrown : MethodName := ⟨RX11, "thrown", "()I"⟩
abbrev cX11_isIn : ByteArray := prog_13_method_3_code
def yX11_isIn : MethodName := ⟨RX11, "isIn", "(JJJ)Z"⟩
abbrev cX11_isShelf : ByteArray := prog_13_method_4_code
def yX11_isShelf : MethodName := ⟨RX11, "isShelf", "(I)Z"⟩
abbrev cX11_isLaw : ByteArray := prog_13_method_5_code
def yX11_isLaw : MethodName := ⟨RX11, "isLaw", "(I)Z"⟩
abbrev cX11_isOne : ByteArray := prog_13_method_6_code
def yX11_isOne : MethodName := ⟨RX11, "isOne", "(I)Z"⟩
abbrev cX11_areTwo : ByteArray := prog_13_method_7_code
def yX11_areTwo : MethodName := ⟨RX11, "areTwo", "(II)Z"⟩
abbrev cX11_lays : ByteArray := prog_13_method_8_code
def yX11_lays : MethodName := ⟨RX11, "lays", "([I[I)V"⟩
abbrev cX11_begins : ByteArray := prog_13_method_9_code
def yX11_begins : MethodName := ⟨RX11, "begins", "()V"⟩
abbrev cX11_ends : ByteArray := prog_13_method_10_code
def yX11_ends : MethodName := ⟨RX11, "ends", "()V"⟩
abbrev cX11_kind : ByteArray := prog_13_method_11_code
def yX11_kind : MethodName := ⟨RX11, "kind", "(I)I"⟩
abbrev cX11_figure : ByteArray := prog_13_method_12_code
def yX11_figure : MethodName := ⟨RX11, "figure", "(I)I"⟩
abbrev cX11_beaten : ByteArray := prog_13_method_13_code
def yX11_beaten : MethodName := ⟨RX11, "beaten", "(I)I"⟩
abbrev cX11_puts : ByteArray := prog_13_method_14_code
def yX11_puts : MethodName := ⟨RX11, "puts", "(III)V"⟩
abbrev cX11_bits : ByteArray := prog_13_method_15_code
def yX11_bits : MethodName := ⟨RX11, "bits", "(I)I"⟩
abbrev cX11_skillBy : ByteArray := prog_13_method_17_code
def yX11_skillBy : MethodName := ⟨RX11, "skillBy", "(II)I"⟩
abbrev cX11_priceBy : ByteArray := prog_13_method_18_code
def yX11_priceBy : MethodName := ⟨RX11, "priceBy", "(II)I"⟩
abbrev cX11_counts : ByteArray := prog_13_method_19_code
def yX11_counts : MethodName := ⟨RX11, "counts", "(I)Z"⟩
abbrev cX11_skill : ByteArray := prog_13_method_20_code
def yX11_skill : MethodName := ⟨RX11, "skill", "(I)I"⟩
abbrev cX11_beats : ByteArray := prog_13_method_21_code
def yX11_beats : MethodName := ⟨RX11, "beats", "(II)V"⟩
abbrev cX11_turns : ByteArray := prog_13_method_22_code
def yX11_turns : MethodName := ⟨RX11, "turns", "(II)V"⟩
abbrev cX11_mastersOf : ByteArray := prog_13_method_23_code
def yX11_mastersOf : MethodName := ⟨RX11, "mastersOf", "(I)I"⟩
abbrev cX11_isLawful : ByteArray := prog_13_method_24_code
def yX11_isLawful : MethodName := ⟨RX11, "isLawful", "()Z"⟩
abbrev cX11_here : ByteArray := prog_13_method_25_code
def yX11_here : MethodName := ⟨RX11, "here", "()I"⟩
abbrev cX11_readsDigits : ByteArray := prog_13_method_26_code
def yX11_readsDigits : MethodName := ⟨RX11, "readsDigits", "(I)Z"⟩
abbrev cX11_readsStatement : ByteArray := prog_13_method_27_code
def yX11_readsStatement : MethodName := ⟨RX11, "readsStatement", "()Z"⟩
abbrev cX11_joins : ByteArray := prog_13_method_28_code
def yX11_joins : MethodName := ⟨RX11, "joins", "(II)V"⟩
abbrev cX11_adds : ByteArray := prog_13_method_29_code
def yX11_adds : MethodName := ⟨RX11, "adds", "(II)Z"⟩
abbrev cX11_leaves : ByteArray := prog_13_method_30_code
def yX11_leaves : MethodName := ⟨RX11, "leaves", "(I)V"⟩
abbrev cX11_comesTold : ByteArray := prog_13_method_31_code
def yX11_comesTold : MethodName := ⟨RX11, "comesTold", "(I)Z"⟩
abbrev cX11_wrongRow : ByteArray := prog_13_method_32_code
def yX11_wrongRow : MethodName := ⟨RX11, "wrongRow", "(II)I"⟩
abbrev cX11_league : ByteArray := prog_13_method_33_code
def yX11_league : MethodName := ⟨RX11, "league", "(I)I"⟩
abbrev cX11_one : ByteArray := prog_13_method_34_code
def yX11_one : MethodName := ⟨RX11, "one", "(II)I"⟩
abbrev cX11_wrongKept : ByteArray := prog_13_method_35_code
def yX11_wrongKept : MethodName := ⟨RX11, "wrongKept", "(I)I"⟩
abbrev cX11_comes : ByteArray := prog_13_method_36_code
def yX11_comes : MethodName := ⟨RX11, "comes", "(I)I"⟩
abbrev cX11_beat : ByteArray := prog_13_method_37_code
def yX11_beat : MethodName := ⟨RX11, "beat", "(II)I"⟩
abbrev cX11_law : ByteArray := prog_13_method_38_code
def yX11_law : MethodName := ⟨RX11, "law", "(I)I"⟩
abbrev cX11_lawful : ByteArray := prog_13_method_39_code
def yX11_lawful : MethodName := ⟨RX11, "lawful", "()I"⟩
abbrev cX11_masters : ByteArray := prog_13_method_40_code
def yX11_masters : MethodName := ⟨RX11, "masters", "(II)I"⟩
abbrev cX11_orphans : ByteArray := prog_13_method_41_code
def yX11_orphans : MethodName := ⟨RX11, "orphans", "(I)I"⟩
abbrev cX11_turnedTo : ByteArray := prog_13_method_42_code
def yX11_turnedTo : MethodName := ⟨RX11, "turnedTo", "(Z)I"⟩
abbrev cX11_holding : ByteArray := prog_13_method_43_code
def yX11_holding : MethodName := ⟨RX11, "holding", "()I"⟩
abbrev cX11_free : ByteArray := prog_13_method_44_code
def yX11_free : MethodName := ⟨RX11, "free", "()I"⟩
abbrev cX11_rings : ByteArray := prog_13_method_45_code
def yX11_rings : MethodName := ⟨RX11, "rings", "()I"⟩
abbrev cX11_cup : ByteArray := prog_13_method_46_code
def yX11_cup : MethodName := ⟨RX11, "cup", "()I"⟩
abbrev cX11_tries : ByteArray := prog_13_method_47_code
def yX11_tries : MethodName := ⟨RX11, "tries", "(III)V"⟩
abbrev cX11_putsRight : ByteArray := prog_13_method_48_code
def yX11_putsRight : MethodName := ⟨RX11, "putsRight", "()V"⟩
abbrev cX11_right : ByteArray := prog_13_method_49_code
def yX11_right : MethodName := ⟨RX11, "right", "()I"⟩
abbrev cX11_cheapest : ByteArray := prog_13_method_50_code
def yX11_cheapest : MethodName := ⟨RX11, "cheapest", "()I"⟩
abbrev cX11_fresh : ByteArray := prog_13_method_51_code
def yX11_fresh : MethodName := ⟨RX11, "fresh", "(III)I"⟩
abbrev cX11_leavers : ByteArray := prog_13_method_52_code
def yX11_leavers : MethodName := ⟨RX11, "leavers", "()I"⟩
abbrev cX11_plays : ByteArray := prog_13_method_53_code
def yX11_plays : MethodName := ⟨RX11, "plays", "(I)V"⟩
abbrev cX11_matches : ByteArray := prog_13_method_54_code
def yX11_matches : MethodName := ⟨RX11, "matches", "()I"⟩
abbrev cX11_weightNow : ByteArray := prog_13_method_55_code
def yX11_weightNow : MethodName := ⟨RX11, "weightNow", "()J"⟩
abbrev cX11_common : ByteArray := prog_13_method_56_code
def yX11_common : MethodName := ⟨RX11, "common", "(JJ)J"⟩
abbrev cX11_odds : ByteArray := prog_13_method_57_code
def yX11_odds : MethodName := ⟨RX11, "odds", "(I)J"⟩
abbrev cX11_ways : ByteArray := prog_13_method_58_code
def yX11_ways : MethodName := ⟨RX11, "ways", "(II)I"⟩
abbrev cX11_isRound : ByteArray := prog_13_method_59_code
def yX11_isRound : MethodName := ⟨RX11, "isRound", "(I)Z"⟩
abbrev cX11_isSet : ByteArray := prog_13_method_60_code
def yX11_isSet : MethodName := ⟨RX11, "isSet", "(II)Z"⟩
abbrev cX11_areBeaten : ByteArray := prog_13_method_61_code
def yX11_areBeaten : MethodName := ⟨RX11, "areBeaten", "(III)Z"⟩
abbrev cX11_isRoundWell : ByteArray := prog_13_method_62_code
def yX11_isRoundWell : MethodName := ⟨RX11, "isRoundWell", "(III)Z"⟩
abbrev cX11_round : ByteArray := prog_13_method_63_code
def yX11_round : MethodName := ⟨RX11, "round", "(III)I"⟩
abbrev cX11_byRounds : ByteArray := prog_13_method_64_code
def yX11_byRounds : MethodName := ⟨RX11, "byRounds", "(II)I"⟩
abbrev cX11_told : ByteArray := prog_13_method_65_code
def yX11_told : MethodName := ⟨RX11, "told", "(II)I"⟩
abbrev cX11_isAsPlayed : ByteArray := prog_13_method_66_code
def yX11_isAsPlayed : MethodName := ⟨RX11, "isAsPlayed", "(I)Z"⟩
abbrev cX11_played : ByteArray := prog_13_method_67_code
def yX11_played : MethodName := ⟨RX11, "played", "(I)I"⟩
abbrev cX11_drawn : ByteArray := prog_13_method_68_code
def yX11_drawn : MethodName := ⟨RX11, "drawn", "(I)I"⟩
abbrev cX11_seeded : ByteArray := prog_13_method_69_code
def yX11_seeded : MethodName := ⟨RX11, "seeded", "(II)I"⟩
abbrev cX11_wrongThree : ByteArray := prog_13_method_70_code
def yX11_wrongThree : MethodName := ⟨RX11, "wrongThree", "(II)I"⟩
abbrev cX11_judge : ByteArray := prog_13_method_71_code
def yX11_judge : MethodName := ⟨RX11, "judge", "(I)I"⟩
abbrev cX11_image : ByteArray := prog_13_method_72_code
def yX11_image : MethodName := ⟨RX11, "image", "()I"⟩
abbrev cX11_restore : ByteArray := prog_13_method_73_code
def yX11_restore : MethodName := ⟨RX11, "restore", "()I"⟩
abbrev cX11_count : ByteArray := prog_13_method_74_code
def yX11_count : MethodName := ⟨RX11, "count", "(I)I"⟩
abbrev cX11_keep : ByteArray := prog_13_method_75_code
def yX11_keep : MethodName := ⟨RX11, "keep", "(IIII)I"⟩
abbrev cX11_row : ByteArray := prog_13_method_76_code
def yX11_row : MethodName := ⟨RX11, "row", "(III)I"⟩
abbrev cX11_put : ByteArray := prog_13_method_77_code
def yX11_put : MethodName := ⟨RX11, "put", "(III)I"⟩
abbrev cX11_element : ByteArray := prog_13_method_78_code
def yX11_element : MethodName := ⟨RX11, "element", "(II)J"⟩
abbrev cX11_copy : ByteArray := prog_13_method_79_code
def yX11_copy : MethodName := ⟨RX11, "copy", "(IIIII)I"⟩
abbrev cX11_price : ByteArray := prog_13_method_80_code
def yX11_price : MethodName := ⟨RX11, "price", "(I)I"⟩
abbrev cX11_toss : ByteArray := prog_13_method_81_code
def yX11_toss : MethodName := ⟨RX11, "toss", "(I)I"⟩
def RJ6 : String := "java/lang/Integer"
def TJ6 : u_T := fun k => match k with
  | _ => ("", "", "", false)
def tyJ6 : Nat → FieldType := fun k => match k with
  | _ => .int
abbrev wsJ60 : List Cond := u_ws RJ6 TJ6 0
theorem nmJ6 : ∀ a, a < 0 → ∀ b, b < 0 → a ≠ b → (TJ6 a).2.1 ≠ (TJ6 b).2.1 := by decide +kernel
theorem tyJ6_ok : ∀ k, k < 0 → parseFieldDescriptor (TJ6 k).2.2.1 = some (tyJ6 k) := by decide +kernel
abbrev cJ6_bitCount_0f7a4 : ByteArray := prog_17_method_49_code
def yJ6_bitCount_0f7a4 : MethodName := ⟨RJ6, "bitCount", "(I)I"⟩
def RJ0 : String := "java/lang/String"
def TJ0 : u_T := fun k => match k with
  | _ => ("", "", "", false)
def tyJ0 : Nat → FieldType := fun k => match k with
  | _ => .int
abbrev wsJ00 : List Cond := u_ws RJ0 TJ0 0
theorem nmJ0 : ∀ a, a < 0 → ∀ b, b < 0 → a ≠ b → (TJ0 a).2.1 ≠ (TJ0 b).2.1 := by decide +kernel
theorem tyJ0_ok : ∀ k, k < 0 → parseFieldDescriptor (TJ0 k).2.2.1 = some (tyJ0 k) := by decide +kernel
def RJ10 : String := "java/lang/System"
def TJ10 : u_T := fun k => match k with
  | _ => ("", "", "", false)
def tyJ10 : Nat → FieldType := fun k => match k with
  | _ => .int
abbrev wsJ100 : List Cond := u_ws RJ10 TJ10 0
theorem nmJ10 : ∀ a, a < 0 → ∀ b, b < 0 → a ≠ b → (TJ10 a).2.1 ≠ (TJ10 b).2.1 := by decide +kernel
theorem tyJ10_ok : ∀ k, k < 0 → parseFieldDescriptor (TJ10 k).2.2.1 = some (tyJ10 k) := by decide +kernel
def RL : String := "OneBeatsBothLaw"
abbrev cL_element : ByteArray := method_3_code
def yL_element : MethodName := ⟨RL, "element", "(LOneBeatsBoth;II[J)I"⟩
abbrev cL_law : ByteArray := code
def yL_law : MethodName := ⟨RL, "law", "([I)Z"⟩
abbrev vwCl : List vw_C := [(RX0, TX0, 1), (RX1, TX1, 1), (RX2, TX2, 4), (RX3, TX3, 1), (RX4, TX4, 1), (RX5, TX5, 1), (RX6, TX6, 1), (RX7, TX7, 1), (RX8, TX8, 2), (RX9, TX9, 1), (RX10, TX10, 8), (RX11, TX11, 19)]
end
section
/-! THE CORE: a judgement J over W in which the heap is held by one map HS (address to object or array), blocks of plain instructions run by a function -/
def WT : List Cond := lw_tbl.filter goodWord
theorem wt_in {w : Cond} (h : w ∈ lw_tbl) (g : goodWord w = true) : w ∈ WT := List.mem_filter.mpr ⟨h, g⟩
theorem wt_good : ∀ w ∈ WT, (w.onTables && w.keeps) = true ∨ ∃ ty, w = .arrayClass ty := fun _ h => good_of_word (List.mem_filter.mp h).2
theorem wt_goodIn {y : MethodName} {b : ByteArray} {n : Nat} {r : Option FieldType} (h : Cond.code y b n r ∈ WT) : GoodIn WT (Cond.code y b n r :: WT) := by
  intro w hw
  rcases List.mem_cons.mp hw with rfl | hw
  · exact ⟨h, wt_good _ h⟩
  · exact ⟨hw, wt_good _ hw⟩
-- the classes and arrays of the tables: class ids, slots, the int array's class, the classes of the two arrays of references, the two tables' addresses
abbrev KP : Type := (Nat → ClassId) × (Nat → Nat → Nat) × ClassId × (Nat → ClassId) × Nat × Nat × Bool
abbrev kD (κ : KP) : va_G := (κ.1, κ.2.1)
abbrev kI (κ : KP) : ClassId := κ.2.2.1
abbrev kR (κ : KP) : Nat → ClassId := κ.2.2.2.1
abbrev kL (κ : KP) : Nat := κ.2.2.2.2.1
abbrev kG (κ : KP) : Nat := κ.2.2.2.2.2.1
/-- may cells be made -/
abbrev kF (κ : KP) : Bool := κ.2.2.2.2.2.2
abbrev rK0 : String := "OneBeatsBoth$Player"
abbrev rK1 : String := "OneBeatsBoth$Row"
abbrev rKt (t : Nat) : String := match t with
  | 0 => rK0
  | _ => rK1
abbrev kT (κ : KP) : List (ClassId × FieldType) := [(kI κ, .int), (kR κ 0, .object rK0), (kR κ 1, .object rK1)]
def tbL (j : Nat) : Int32 := ([0, 0, 1, 0, 1, 2, 0, 1, 2, 3, 0, 1, 2, 3, 4, 0, 1, 2, 3, 4, 5, 0, 1, 2, 3, 4, 5, 6] : List Int32).getD j 0
def tbG (j : Nat) : Int32 := ([1, 2, 2, 3, 3, 3, 4, 4, 4, 4, 5, 5, 5, 5, 5, 6, 6, 6, 6, 6, 6, 7, 7, 7, 7, 7, 7, 7] : List Int32).getD j 0
def KX (κ : KP) (A : Nat → Prop) (U : State) : Prop :=
  va_K (kD κ) vwCl (kT κ) U ∧ va_Z "OneBeatsBoth" "LESSER" "[I" (.ref (kL κ)) A U U.heap ∧ va_Z "OneBeatsBoth" "GREATER" "[I" (.ref (kG κ)) A U U.heap ∧
  va_T .int (kL κ) 28 (fun j => .int (tbL j)) A U U.heap ∧ va_T .int (kG κ) 28 (fun j => .int (tbG j)) A U U.heap
theorem KX_go {κ : KP} {A : Nat → Prop} {s U : State} {H : Heap} {locs : List Loc} (h : KX κ A s) (hS : va_S A s.heap H locs) (hU : U.heap = H) (hW : s.WarmedH U.vm) : KX κ A U := by
  obtain ⟨h1, h2, h3, h4, h5⟩ := h
  have hq : ∀ a : Nat, a < s.heap.size → ¬ A a → U.heap[a]? = s.heap[a]? := by rw [hU]; exact hS.2.1
  exact ⟨va_K.moved hW.alike h1, (va_Z.moved hW.alike h2).kept hq, (va_Z.moved hW.alike h3).kept hq, (va_T.moved hW.alike h4).kept hq, (va_T.moved hW.alike h5).kept hq⟩
theorem KX_up {κ : KP} {A B : Nat → Prop} {U : State} (h : KX κ A U) (hAB : ∀ q, B q → A q) : KX κ B U := by
  obtain ⟨h1, h2, h3, h4, h5⟩ := h
  exact ⟨h1, h2.narrow hAB, h3.narrow hAB, h4.narrow hAB, h5.narrow hAB⟩
/-- a method's start: arguments, heap, tables; what may be written is all that comes -/
def PP (κ : KP) (A : Nat → Prop) (av : List Value) (HP : Heap → Prop) : Array Value → State → Prop := fun v U => v = av.toArray ∧ HP U.heap ∧ KX κ A U
theorem PP_blind {κ : KP} {A : Nat → Prop} {av : List Value} {HP : Heap → Prop} : FrameBlind (PP κ A av HP) := by
  intro a U g mk h
  obtain ⟨h1, h2, ⟨k1, k2, k3, k4, k5⟩⟩ := h
  have hal : U.vm.Alike (U.calling g mk a).vm := Vm.Alike.refl U.vm
  exact ⟨h1, h2, ⟨va_K.moved hal k1, va_Z.moved hal k2, va_Z.moved hal k3, va_T.moved hal k4, va_T.moved hal k5⟩⟩
def QQ (o : Option Value) (HP : Heap → Prop) (A : Nat → Prop) : Array Value → State → Outcome → State → Prop := fun _ st oc t => oc = .returned o ∧ HP t.heap ∧ va_F A st t
-- a method's fixed part
abbrev JC : Type := (Program × Launch × Jvm.Env × Room) × (State × MethodId × Array Value × List Frame) × (Method × Code) × ((Nat → Prop) × (State → Prop))
abbrev jP (Γ : JC) := Γ.1.1
abbrev jL (Γ : JC) := Γ.1.2.1
abbrev jE (Γ : JC) := Γ.1.2.2.1
abbrev jR (Γ : JC) := Γ.1.2.2.2
abbrev jS (Γ : JC) := Γ.2.1.1
abbrev jM (Γ : JC) := Γ.2.1.2.1
abbrev jV (Γ : JC) := Γ.2.1.2.2.1
abbrev jB (Γ : JC) := Γ.2.1.2.2.2
abbrev jT (Γ : JC) := Γ.2.2.1.1
abbrev jC (Γ : JC) := Γ.2.2.1.2
abbrev jA (Γ : JC) := Γ.2.2.2.1
abbrev jQ (Γ : JC) := Γ.2.2.2.2
def J (Γ : JC) (nL : Nat) (HP : Heap → Prop) (k n pc : Nat) (lv : List (Nat × Value)) (st : List Value) : Prop :=
  ∀ (H : Heap) (locs : List Loc) (ls : Array Slot), HP H → va_S (jA Γ) (jS Γ).heap H locs → lv_has ls nL lv → W (jP Γ) (jL Γ) (jE Γ) (jR Γ) (jS Γ) (jM Γ) (jV Γ) (jB Γ) (jT Γ) (jC Γ) H locs k n (jQ Γ) (F0 (jM Γ) pc ls st)
def JE (Γ : JC) (κ : KP) (cc : ByteArray) (own : String) (nL : Nat) (ret : Option FieldType) : Prop :=
  (jP Γ).tables.exec = Jvm.exec ∧ (jC Γ).code = cc ∧ (jC Γ).maxLocals = nL ∧ (jS Γ).vm.findClass own = some (jM Γ).cls ∧ (∀ w ∈ WT, w.before (jV Γ) (jS Γ) = true) ∧ (jT Γ).locks = false ∧ True ∧ KX κ (jA Γ) (jS Γ) ∧ (jT Γ).sig.returnType = ret
def JQ (Γ : JC) (o : Option Value) (HP : Heap → Prop) (k n : Nat) : Prop := jQ Γ = MQ (jB Γ) (QQ o HP (jA Γ)) (jV Γ) (jS Γ) k n (jA Γ)
theorem met_of {κ : KP} {A : Nat → Prop} {l : Launch} {y : MethodName} {own : String} {cc : ByteArray} {maxL : Nat} {ret : Option FieldType} {rm : Room} {av : List Value} {HP HP' : Heap → Prop} {o : Option Value} {mc ms : Nat} (hy : plainName y.cls = true) (ho : y.cls = own) (hav : (lg_sl av).length ≤ maxL)
    (body : ∀ Γ : JC, JE Γ κ cc own maxL ret → JQ Γ o HP' mc ms → jL Γ = l → jR Γ = rm → jA Γ = A → HP (jS Γ).heap → (y.name = "<init>" → (jT Γ).name = "<init>") → J Γ maxL HP 0 0 0 (lv_args 0 av) []) :
    Met l y (Cond.code y cc maxL ret :: WT) rm (PP κ A av HP) (QQ o HP' A) mc ms A := by
  subst ho
  refine Met.ofW (cc := cc) (maxL := maxL) (ret := ret) hy rfl ?_
  intro p e s m args below meth c s₁ B hml hv
  obtain ⟨rfl, hH, hK⟩ := hv
  have hts := atoms_spec (ws := Cond.code y cc maxL ret :: WT) B.pre
  have hown : s.vm.findClass y.cls = some m.cls := findClass_of_methodNamed B.named
  have E : JE ((p, l, e, (headSpec (Cond.code y cc maxL ret :: WT) rm).room), (s, m, av.toArray, below), (meth, c), (A, MQ below (QQ o HP' A) av.toArray s mc ms A)) κ cc y.cls maxL ret :=
    ⟨B.exec, B.bytes, hml, hown, fun w h => hts w (List.mem_cons_of_mem _ h), B.notSynchronized, trivial, hK, B.returns⟩
  have hin : y.name = "<init>" → meth.name = "<init>" := fun h => by rw [(name_of_methodNamed B.named B.method).1, h]
  have K := body _ E rfl rfl rfl rfl hH hin s.heap [] _ hH va_S.rf (lv_entry av hav)
  rw [lg_entry_eq]
  exact K
section JROWS
variable {Γ : JC} {κ : KP} {cc : ByteArray} {own : String} {nL : Nat} {ret : Option FieldType} {HP HP' : Heap → Prop} {k n pc tgt : Nat} {lv lv' : List (Nat × Value)} {st : List Value} {off : Int} {x y : Int32}
theorem j_imp (h : ∀ H, HP H → HP' H) (kk : J Γ nL HP' k n pc lv st) : J Γ nL HP k n pc lv st := fun H locs ls hH hS hl => kk H locs ls (h H hH) hS hl
theorem j_lv (ks : List Nat) (hs : lv_pick lv ks = lv') (kk : J Γ nL HP k n pc lv' st) : J Γ nL HP k n pc lv st := fun H locs ls hH hS hl => kk H locs ls hH hS (lv_sub hl ks hs)
theorem j_wid {k' n' : Nat} (h1 : k ≤ k') (h2 : n ≤ n') (kk : J Γ nL HP k' n' pc lv st) : J Γ nL HP k n pc lv st := fun H locs ls hH hS hl => W.widen h1 h2 (kk H locs ls hH hS hl)
theorem j_ex {α : Type} {P : α → Heap → Prop} (kk : ∀ a, J Γ nL (P a) k n pc lv st) : J Γ nL (fun H => ∃ a, P a H) k n pc lv st := fun H locs ls ⟨a, hH⟩ hS hl => kk a H locs ls hH hS hl
theorem j_pre {P : Prop} (h : ∀ H, HP H → P) (kk : P → J Γ nL HP k n pc lv st) : J Γ nL HP k n pc lv st := fun H locs ls hH hS hl => kk (h H hH) H locs ls hH hS hl
theorem j_goto (E : JE Γ κ cc own nL ret) (hd : decode cc pc = .ok (.goto off, 3)) (ht : (pc : Int) + off = (tgt : Int)) (kk : J Γ nL HP k n tgt lv st) : J Γ nL HP k n pc lv st :=
  fun H locs ls hH hS hl => lv_goto E.1 E.2.1 hd ht (kk H locs ls hH hS hl)
theorem j_if_eq (E : JE Γ κ cc own nL ret) (hd : decode cc pc = .ok (.ifCond .eq off, 3)) (ht : (pc : Int) + off = (tgt : Int)) (kt : x = 0 → J Γ nL HP k n tgt lv st) (kf : ¬ x = 0 → J Γ nL HP k n (pc + 3) lv st) : J Γ nL HP k n pc lv (.int x :: st) :=
  fun H locs ls hH hS hl => lv_if_eq E.1 E.2.1 hd ht (fun c => kt c H locs ls hH hS hl) (fun c => kf c H locs ls hH hS hl)
theorem j_if_ne (E : JE Γ κ cc own nL ret) (hd : decode cc pc = .ok (.ifCond .ne off, 3)) (ht : (pc : Int) + off = (tgt : Int)) (kt : ¬ x = 0 → J Γ nL HP k n tgt lv st) (kf : x = 0 → J Γ nL HP k n (pc + 3) lv st) : J Γ nL HP k n pc lv (.int x :: st) :=
  fun H locs ls hH hS hl => lv_if_ne E.1 E.2.1 hd ht (fun c => kt c H locs ls hH hS hl) (fun c => kf c H locs ls hH hS hl)
theorem j_if_lt (E : JE Γ κ cc own nL ret) (hd : decode cc pc = .ok (.ifCond .lt off, 3)) (ht : (pc : Int) + off = (tgt : Int)) (kt : x < 0 → J Γ nL HP k n tgt lv st) (kf : ¬ x < 0 → J Γ nL HP k n (pc + 3) lv st) : J Γ nL HP k n pc lv (.int x :: st) :=
  fun H locs ls hH hS hl => lv_if_lt E.1 E.2.1 hd ht (fun c => kt c H locs ls hH hS hl) (fun c => kf c H locs ls hH hS hl)
theorem j_if_ge (E : JE Γ κ cc own nL ret) (hd : decode cc pc = .ok (.ifCond .ge off, 3)) (ht : (pc : Int) + off = (tgt : Int)) (kt : 0 ≤ x → J Γ nL HP k n tgt lv st) (kf : ¬ 0 ≤ x → J Γ nL HP k n (pc + 3) lv st) : J Γ nL HP k n pc lv (.int x :: st) :=
  fun H locs ls hH hS hl => lv_if_ge E.1 E.2.1 hd ht (fun c => kt c H locs ls hH hS hl) (fun c => kf c H locs ls hH hS hl)
theorem j_if_gt (E : JE Γ κ cc own nL ret) (hd : decode cc pc = .ok (.ifCond .gt off, 3)) (ht : (pc : Int) + off = (tgt : Int)) (kt : 0 < x → J Γ nL HP k n tgt lv st) (kf : ¬ 0 < x → J Γ nL HP k n (pc + 3) lv st) : J Γ nL HP k n pc lv (.int x :: st) :=
  fun H locs ls hH hS hl => lv_if_gt E.1 E.2.1 hd ht (fun c => kt c H locs ls hH hS hl) (fun c => kf c H locs ls hH hS hl)
theorem j_if_le (E : JE Γ κ cc own nL ret) (hd : decode cc pc = .ok (.ifCond .le off, 3)) (ht : (pc : Int) + off = (tgt : Int)) (kt : x ≤ 0 → J Γ nL HP k n tgt lv st) (kf : ¬ x ≤ 0 → J Γ nL HP k n (pc + 3) lv st) : J Γ nL HP k n pc lv (.int x :: st) :=
  fun H locs ls hH hS hl => lv_if_le E.1 E.2.1 hd ht (fun c => kt c H locs ls hH hS hl) (fun c => kf c H locs ls hH hS hl)
theorem j_icmp_eq (E : JE Γ κ cc own nL ret) (hd : decode cc pc = .ok (.if_icmp .eq off, 3)) (ht : (pc : Int) + off = (tgt : Int)) (kt : x = y → J Γ nL HP k n tgt lv st) (kf : ¬ x = y → J Γ nL HP k n (pc + 3) lv st) : J Γ nL HP k n pc lv (.int y :: .int x :: st) :=
  fun H locs ls hH hS hl => lv_icmp_eq E.1 E.2.1 hd ht (fun c => kt c H locs ls hH hS hl) (fun c => kf c H locs ls hH hS hl)
theorem j_icmp_ne (E : JE Γ κ cc own nL ret) (hd : decode cc pc = .ok (.if_icmp .ne off, 3)) (ht : (pc : Int) + off = (tgt : Int)) (kt : ¬ x = y → J Γ nL HP k n tgt lv st) (kf : x = y → J Γ nL HP k n (pc + 3) lv st) : J Γ nL HP k n pc lv (.int y :: .int x :: st) :=
  fun H locs ls hH hS hl => lv_icmp_ne E.1 E.2.1 hd ht (fun c => kt c H locs ls hH hS hl) (fun c => kf c H locs ls hH hS hl)
theorem j_icmp_lt (E : JE Γ κ cc own nL ret) (hd : decode cc pc = .ok (.if_icmp .lt off, 3)) (ht : (pc : Int) + off = (tgt : Int)) (kt : x < y → J Γ nL HP k n tgt lv st) (kf : ¬ x < y → J Γ nL HP k n (pc + 3) lv st) : J Γ nL HP k n pc lv (.int y :: .int x :: st) :=
  fun H locs ls hH hS hl => lv_icmp_lt E.1 E.2.1 hd ht (fun c => kt c H locs ls hH hS hl) (fun c => kf c H locs ls hH hS hl)
theorem j_icmp_ge (E : JE Γ κ cc own nL ret) (hd : decode cc pc = .ok (.if_icmp .ge off, 3)) (ht : (pc : Int) + off = (tgt : Int)) (kt : y ≤ x → J Γ nL HP k n tgt lv st) (kf : ¬ y ≤ x → J Γ nL HP k n (pc + 3) lv st) : J Γ nL HP k n pc lv (.int y :: .int x :: st) :=
  fun H locs ls hH hS hl => lv_icmp_ge E.1 E.2.1 hd ht (fun c => kt c H locs ls hH hS hl) (fun c => kf c H locs ls hH hS hl)
theorem j_icmp_gt (E : JE Γ κ cc own nL ret) (hd : decode cc pc = .ok (.if_icmp .gt off, 3)) (ht : (pc : Int) + off = (tgt : Int)) (kt : y < x → J Γ nL HP k n tgt lv st) (kf : ¬ y < x → J Γ nL HP k n (pc + 3) lv st) : J Γ nL HP k n pc lv (.int y :: .int x :: st) :=
  fun H locs ls hH hS hl => lv_icmp_gt E.1 E.2.1 hd ht (fun c => kt c H locs ls hH hS hl) (fun c => kf c H locs ls hH hS hl)
theorem j_icmp_le (E : JE Γ κ cc own nL ret) (hd : decode cc pc = .ok (.if_icmp .le off, 3)) (ht : (pc : Int) + off = (tgt : Int)) (kt : x ≤ y → J Γ nL HP k n tgt lv st) (kf : ¬ x ≤ y → J Γ nL HP k n (pc + 3) lv st) : J Γ nL HP k n pc lv (.int y :: .int x :: st) :=
  fun H locs ls hH hS hl => lv_icmp_le E.1 E.2.1 hd ht (fun c => kt c H locs ls hH hS hl) (fun c => kf c H locs ls hH hS hl)
theorem j_null_y (E : JE Γ κ cc own nL ret) (hd : decode cc pc = .ok (.ifnull off, 3)) (ht : (pc : Int) + off = (tgt : Int)) (kk : J Γ nL HP k n tgt lv st) : J Γ nL HP k n pc lv (.null :: st) :=
  fun H locs ls hH hS hl => lv_ifnullN E.1 E.2.1 hd ht (kk H locs ls hH hS hl)
theorem j_null_n {a : Nat} (E : JE Γ κ cc own nL ret) (hd : decode cc pc = .ok (.ifnull off, 3)) (kk : J Γ nL HP k n (pc + 3) lv st) : J Γ nL HP k n pc lv (.ref a :: st) :=
  fun H locs ls hH hS hl => lv_ifnull E.1 E.2.1 hd (kk H locs ls hH hS hl)
theorem j_nonnull_y {a : Nat} (E : JE Γ κ cc own nL ret) (hd : decode cc pc = .ok (.ifnonnull off, 3)) (ht : (pc : Int) + off = (tgt : Int)) (kk : J Γ nL HP k n tgt lv st) : J Γ nL HP k n pc lv (.ref a :: st) :=
  fun H locs ls hH hS hl => lv_ifnonnull E.1 E.2.1 hd ht (kk H locs ls hH hS hl)
theorem j_nonnull_n (E : JE Γ κ cc own nL ret) (hd : decode cc pc = .ok (.ifnonnull off, 3)) (kk : J Γ nL HP k n (pc + 3) lv st) : J Γ nL HP k n pc lv (.null :: st) :=
  fun H locs ls hH hS hl => lv_ifnonnullN E.1 E.2.1 hd (kk H locs ls hH hS hl)
theorem j_irem (E : JE Γ κ cc own nL ret) (hd : decode cc pc = .ok (.irem, 1)) (h0 : ¬ y = 0) (kk : J Γ nL HP k n (pc + 1) lv (.int (x - x / y * y) :: st)) : J Γ nL HP k n pc lv (.int y :: .int x :: st) :=
  fun H locs ls hH hS hl => lv_irem E.1 E.2.1 hd h0 (kk H locs ls hH hS hl)
theorem j_idiv (E : JE Γ κ cc own nL ret) (hd : decode cc pc = .ok (.idiv, 1)) (h0 : ¬ y = 0) (kk : J Γ nL HP k n (pc + 1) lv (.int (x / y) :: st)) : J Γ nL HP k n pc lv (.int y :: .int x :: st) :=
  fun H locs ls hH hS hl => lv_idiv E.1 E.2.1 hd h0 (kk H locs ls hH hS hl)
theorem j_lrem {u v : Int64} (E : JE Γ κ cc own nL ret) (hd : decode cc pc = .ok (.lrem, 1)) (h0 : ¬ v = 0) (kk : J Γ nL HP k n (pc + 1) lv (.long (u - u / v * v) :: st)) : J Γ nL HP k n pc lv (.long v :: .long u :: st) :=
  fun H locs ls hH hS hl => lv_lrem E.1 E.2.1 hd h0 (kk H locs ls hH hS hl)
theorem j_ldiv {u v : Int64} (E : JE Γ κ cc own nL ret) (hd : decode cc pc = .ok (.ldiv, 1)) (h0 : ¬ v = 0) (kk : J Γ nL HP k n (pc + 1) lv (.long (u / v) :: st)) : J Γ nL HP k n pc lv (.long v :: .long u :: st) :=
  fun H locs ls hH hS hl => lv_ldiv E.1 E.2.1 hd h0 (kk H locs ls hH hS hl)
theorem j_ldc {i : Nat} (E : JE Γ κ cc own nL ret) (hd : decode cc pc = .ok (.ldc i, 2)) (hw : Cond.constant own i x ∈ WT) (kk : J Γ nL HP k n (pc + 2) lv (.int x :: st)) : J Γ nL HP k n pc lv st :=
  fun H locs ls hH hS hl => lv_ldc E.1 E.2.1 E.2.2.2.1 (E.2.2.2.2.1 _ hw) hd (kk H locs ls hH hS hl)
theorem j_ldc2 {i : Nat} {u : Int64} (E : JE Γ κ cc own nL ret) (hd : decode cc pc = .ok (.ldc2_w i, 3)) (hw : Cond.constantLong own i u ∈ WT) (kk : J Γ nL HP k n (pc + 3) lv (.long u :: st)) : J Γ nL HP k n pc lv st :=
  fun H locs ls hH hS hl => lv_ldc2 E.1 E.2.1 E.2.2.2.1 (E.2.2.2.2.1 _ hw) hd (kk H locs ls hH hS hl)
-- ends
theorem j_iret (E : JE Γ κ cc own nL (some .int)) (hQ : JQ Γ (some (.int x)) HP' k n) (hd : decode cc pc = .ok (.ireturn, 1)) (h : ∀ H, HP H → HP' H) : J Γ nL HP k n pc lv [.int x] := by
  intro H locs ls hH hS hl
  rw [hQ]
  exact W.iret E.1 E.2.1 E.2.2.2.2.2.2.2.2 (fun t ht _ => ⟨rfl, by rw [ht]; exact h H hH, hS.F ht⟩) hS.2.2 hd E.2.2.2.2.2.1
theorem j_zret (E : JE Γ κ cc own nL (some .boolean)) (hQ : JQ Γ (some (.int x)) HP' k n) (hb : narrow .boolean (.int x) = .int x) (hd : decode cc pc = .ok (.ireturn, 1)) (h : ∀ H, HP H → HP' H) : J Γ nL HP k n pc lv [.int x] := by
  intro H locs ls hH hS hl
  rw [hQ]
  exact W.zret E.1 E.2.1 E.2.2.2.2.2.2.2.2 hb (fun t ht _ => ⟨rfl, by rw [ht]; exact h H hH, hS.F ht⟩) hS.2.2 hd E.2.2.2.2.2.1
theorem j_lret {u : Int64} (E : JE Γ κ cc own nL (some .long)) (hQ : JQ Γ (some (.long u)) HP' k n) (hd : decode cc pc = .ok (.lreturn, 1)) (h : ∀ H, HP H → HP' H) : J Γ nL HP k n pc lv [.long u] := by
  intro H locs ls hH hS hl
  rw [hQ]
  exact W.lret E.1 E.2.1 E.2.2.2.2.2.2.2.2 (fun t ht _ => ⟨rfl, by rw [ht]; exact h H hH, hS.F ht⟩) hS.2.2 hd E.2.2.2.2.2.1
theorem j_vret (E : JE Γ κ cc own nL none) (hQ : JQ Γ none HP' k n) (hd : decode cc pc = .ok (.return_, 1)) (h : ∀ H, HP H → HP' H) : J Γ nL HP k n pc lv [] := by
  intro H locs ls hH hS hl
  rw [hQ]
  exact W.vret E.1 E.2.1 E.2.2.2.2.2.2.2.2 (fun t ht _ => ⟨rfl, by rw [ht]; exact h H hH, hS.F ht⟩) hS.2.2 hd E.2.2.2.2.2.1
theorem j_aret {v : Value} {rt : FieldType} (E : JE Γ κ cc own nL (some rt)) (hQ : JQ Γ (some v) HP' k n) (hrt : (∃ n, rt = .object n) ∨ ∃ t, rt = .array t) (hv : v = .null ∨ ∃ a, v = .ref a) (hd : decode cc pc = .ok (.areturn, 1)) (h : ∀ H, HP H → HP' H) : J Γ nL HP k n pc lv [v] := by
  intro H locs ls hH hS hl
  rw [hQ]
  exact W.aret E.1 E.2.1 E.2.2.2.2.2.2.2.2 hrt hv (fun t ht _ => ⟨rfl, by rw [ht]; exact h H hH, hS.F ht⟩) hS.2.2 hd E.2.2.2.2.2.1
theorem j_tin {dflt lo hi : Int} {offs : Array Int} {len : Nat} {c : Int32} (E : JE Γ κ cc own nL ret) (hd : decode cc pc = .ok (.tableswitch dflt lo hi offs, len)) (hx : x = c) (h1 : ¬ c.toInt < lo) (h2 : ¬ hi < c.toInt) (ho : offs[(c.toInt - lo).toNat]? = some off) (ht : (pc : Int) + off = (tgt : Int)) (kk : J Γ nL HP k n tgt lv st) : J Γ nL HP k n pc lv (.int x :: st) := by
  subst hx
  exact fun H locs ls hH hS hl => lv_tableIn E.1 E.2.1 hd h1 h2 ho ht (kk H locs ls hH hS hl)
theorem j_tout {dflt lo hi : Int} {offs : Array Int} {len : Nat} (E : JE Γ κ cc own nL ret) (hd : decode cc pc = .ok (.tableswitch dflt lo hi offs, len)) (h : x.toInt < lo ∨ hi < x.toInt) (ht : (pc : Int) + dflt = (tgt : Int)) (kk : J Γ nL HP k n tgt lv st) : J Γ nL HP k n pc lv (.int x :: st) :=
  fun H locs ls hH hS hl => lv_tableOut E.1 E.2.1 hd h ht (kk H locs ls hH hS hl)
theorem j_lkp {dflt : Int} {ps : Array (Int × Int)} {len : Nat} (E : JE Γ κ cc own nL ret) (hd : decode cc pc = .ok (.lookupswitch dflt ps, len)) (hp : (ps.toList.zip (ps.toList.drop 1)).all (fun (a, next) => a.1 < next.1) = true) (ho : Op.lookupswitch.offset ps.toList dflt x.toInt = off) (ht : (pc : Int) + off = (tgt : Int)) (kk : J Γ nL HP k n tgt lv st) : J Γ nL HP k n pc lv (.int x :: st) :=
  fun H locs ls hH hS hl => lv_lookup E.1 E.2.1 hd hp ho ht (kk H locs ls hH hS hl)
theorem kx_L (E : JE Γ κ cc own nL ret) : va_Z "OneBeatsBoth" "LESSER" "[I" (.ref (kL κ)) (jA Γ) (jS Γ) (jS Γ).heap := E.2.2.2.2.2.2.2.1.2.1
theorem kx_G (E : JE Γ κ cc own nL ret) : va_Z "OneBeatsBoth" "GREATER" "[I" (.ref (kG κ)) (jA Γ) (jS Γ) (jS Γ).heap := E.2.2.2.2.2.2.2.1.2.2.1
theorem kx_TL (E : JE Γ κ cc own nL ret) : va_T .int (kL κ) 28 (fun j => .int (tbL j)) (jA Γ) (jS Γ) (jS Γ).heap := E.2.2.2.2.2.2.2.1.2.2.2.1
theorem kx_TG (E : JE Γ κ cc own nL ret) : va_T .int (kG κ) 28 (fun j => .int (tbG j)) (jA Γ) (jS Γ) (jS Γ).heap := E.2.2.2.2.2.2.2.1.2.2.2.2
end JROWS
-- the shapes of the functions, and how a value says which way was gone
def obd {α β : Type} (x : Option α) (f : α → Option β) : Option β := match x with
  | none => none
  | some v => f v
def ogd {α : Type} (c : Bool) (a : Option α) : Option α := match c with
  | true => a
  | false => none
def osm {α β γ : Type} (x : α ⊕ β) (f : α → Option γ) (g : β → Option γ) : Option γ := match x with
  | .inl a => f a
  | .inr b => g b
def onl {α : Type} (v : Value) (a : Option α) (f : Nat → Option α) : Option α := match v with
  | .null => a
  | .ref b => f b
  | _ => none
def orf {α : Type} (v : Value) (f : Nat → Option α) : Option α := match v with
  | .ref b => f b
  | _ => none
def onz {α : Type} (y : Int32) (a : Option α) : Option α := if y = 0 then none else a
def onzl {α : Type} (y : Int64) (a : Option α) : Option α := if y = 0 then none else a
def isB (v : Int32) : Bool := decide (v = 0) || decide (v = 1)
def isR (v : Value) : Bool := match v with
  | .null => true
  | .ref _ => true
  | _ => false
theorem g_inj {α : Type} {a b : α} (h : some a = some b) : b = a := (Option.some.inj h).symm
theorem g_t {α : Type} {c : Prop} [Decidable c] {a b : α} {r : α} (h : (if c then a else b) = r) (hc : c) : a = r := by rw [if_pos hc] at h; exact h
theorem g_f {α : Type} {c : Prop} [Decidable c] {a b : α} {r : α} (h : (if c then a else b) = r) (hc : ¬ c) : b = r := by rw [if_neg hc] at h; exact h
theorem obd_at {α β : Type} {x : Option α} {f : α → Option β} {r : β} (h : obd x f = some r) : ∃ v, x = some v ∧ f v = some r := by
  cases x with
  | none => cases h
  | some v => exact ⟨v, rfl, h⟩
theorem ogd_at {α : Type} {c : Bool} {a : Option α} {r : α} (h : ogd c a = some r) : c = true ∧ a = some r := by
  cases c with
  | true => exact ⟨rfl, h⟩
  | false => cases h
theorem onl_at {α : Type} {v : Value} {a : Option α} {f : Nat → Option α} {r : α} (h : onl v a f = some r) : (v = .null ∧ a = some r) ∨ ∃ b, v = .ref b ∧ f b = some r := by
  unfold onl at h
  split at h
  · exact Or.inl ⟨rfl, h⟩
  · exact Or.inr ⟨_, rfl, h⟩
  · cases h
theorem orf_at {α : Type} {v : Value} {f : Nat → Option α} {r : α} (h : orf v f = some r) : ∃ b, v = .ref b ∧ f b = some r := by
  unfold orf at h
  split at h
  · exact ⟨_, rfl, h⟩
  · cases h
theorem onz_at {α : Type} {y : Int32} {a : Option α} {r : α} (h : onz y a = some r) : ¬ y = 0 ∧ a = some r := by
  unfold onz at h
  split at h
  · cases h
  · rename_i hc; exact ⟨hc, h⟩
theorem onzl_at {α : Type} {y : Int64} {a : Option α} {r : α} (h : onzl y a = some r) : ¬ y = 0 ∧ a = some r := by
  unfold onzl at h
  split at h
  · cases h
  · rename_i hc; exact ⟨hc, h⟩
theorem nb_1 : narrow .boolean (.int (Int32.ofInt 1)) = .int (Int32.ofInt 1) := rfl
theorem nb_0 : narrow .boolean (.int (Int32.ofInt 0)) = .int (Int32.ofInt 0) := rfl
theorem fb_1 : fits .boolean (.int (Int32.ofInt 1)) = true := by decide +kernel
theorem fb_0 : fits .boolean (.int (Int32.ofInt 0)) = true := by decide +kernel
theorem isB_n {v : Int32} (h : isB v = true) : narrow .boolean (.int v) = .int v := by
  unfold isB at h
  rw [Bool.or_eq_true, decide_eq_true_eq, decide_eq_true_eq] at h
  rcases h with rfl | rfl <;> rfl
theorem isR_n {v : Value} (h : isR v = true) : v = .null ∨ ∃ a, v = .ref a := by
  unfold isR at h
  split at h
  · exact Or.inl rfl
  · exact Or.inr ⟨_, rfl⟩
  · cases h
/-- a loop: its step goes on, or comes to its end -/
def iter {V R : Type} (step : V → Option (V ⊕ R)) : Nat → V → Option R
  | 0, _ => none
  | n + 1, v => match step v with
    | none => none
    | some (.inl w) => iter step n w
    | some (.inr r) => some r
theorem j_iter {V R : Type} {step : V → Option (V ⊕ R)} {P : V → Prop} {G : R → Prop} (hs : ∀ w q, step w = some q → (∀ w', q = .inl w' → P w') → (∀ o, q = .inr o → G o) → P w) : ∀ (fu : Nat) (w : V) (o : R), iter step fu w = some o → G o → P w
  | 0, _, _, h, _ => by cases h
  | fu + 1, w, o, h, hG => by
    unfold iter at h
    cases hq : step w with
    | none => rw [hq] at h; cases h
    | some q =>
      rw [hq] at h
      cases q with
      | inl w1 => exact hs w _ hq (fun w' e => by cases e; exact j_iter hs fu w1 o h hG) (fun o' e => by cases e)
      | inr r => exact hs w _ hq (fun w' e => by cases e) (fun o' e => by cases e; cases h; exact hG)
def FU : Nat := 1000000
end
section
/-! BLOCKS of plain instructions: run by a function -/
def bl : Instr → Nat
  | .aload _ => 2 | .astore _ => 2 | .bipush _ => 2 | .iload _ => 2 | .istore _ => 2 | .lload _ => 2 | .lstore _ => 2
  | .sipush _ => 3 | .iinc _ _ => 3
  | _ => 1
def bget (lv : List (Nat × Value)) (i : Nat) : Option Value := match lv with
  | [] => none
  | (j, v) :: r => match Nat.beq j i with
    | true => some v
    | false => bget r i
def bk1 (i : Nat) (q : Nat × Value) : Bool := !(q.1 == i) && !(q.1 + 1 == i && q.2.category == 2)
def bk2 (i : Nat) (q : Nat × Value) : Bool := !(q.1 == i) && (!(q.1 == i + 1) && !(q.1 + 1 == i && q.2.category == 2))
def bset1 (nL : Nat) (lv : List (Nat × Value)) (i : Nat) (v : Value) (st : List Value) : Option (List (Nat × Value) × List Value) := match Nat.blt i nL with
  | true => some ((i, v) :: lv.filter (bk1 i), st)
  | false => none
def bset2 (nL : Nat) (lv : List (Nat × Value)) (i : Nat) (v : Value) (st : List Value) : Option (List (Nat × Value) × List Value) := match Nat.blt (i + 1) nL with
  | true => some ((i, v) :: lv.filter (bk2 i), st)
  | false => none
def bldi (lv : List (Nat × Value)) (i : Nat) (st : List Value) : Option (List (Nat × Value) × List Value) := match bget lv i with
  | some (.int x) => some (lv, .int x :: st)
  | _ => none
def bldl (lv : List (Nat × Value)) (i : Nat) (st : List Value) : Option (List (Nat × Value) × List Value) := match bget lv i with
  | some (.long x) => some (lv, .long x :: st)
  | _ => none
def blda (lv : List (Nat × Value)) (i : Nat) (st : List Value) : Option (List (Nat × Value) × List Value) := match bget lv i with
  | some (.ref x) => some (lv, .ref x :: st)
  | some .null => some (lv, .null :: st)
  | _ => none
def bsta (nL : Nat) (lv : List (Nat × Value)) (i : Nat) (st : List Value) : Option (List (Nat × Value) × List Value) := match st with
  | .ref x :: r => bset1 nL lv i (.ref x) r
  | .null :: r => bset1 nL lv i .null r
  | _ => none
def bsti (nL : Nat) (lv : List (Nat × Value)) (i : Nat) (st : List Value) : Option (List (Nat × Value) × List Value) := match st with
  | .int x :: r => bset1 nL lv i (.int x) r
  | _ => none
def bstl (nL : Nat) (lv : List (Nat × Value)) (i : Nat) (st : List Value) : Option (List (Nat × Value) × List Value) := match st with
  | .long x :: r => bset2 nL lv i (.long x) r
  | _ => none
def bii (f : Int32 → Int32 → Int32) (lv : List (Nat × Value)) (st : List Value) : Option (List (Nat × Value) × List Value) := match st with
  | .int y :: .int x :: r => some (lv, .int (f x y) :: r)
  | _ => none
def bll (f : Int64 → Int64 → Int64) (lv : List (Nat × Value)) (st : List Value) : Option (List (Nat × Value) × List Value) := match st with
  | .long y :: .long x :: r => some (lv, .long (f x y) :: r)
  | _ => none
def bi (f : Int32 → Value) (lv : List (Nat × Value)) (st : List Value) : Option (List (Nat × Value) × List Value) := match st with
  | .int x :: r => some (lv, f x :: r)
  | _ => none
def bcat1 (v : Value) : Bool := match v with
  | .long _ => false
  | .double _ => false
  | _ => true
def bs (nL : Nat) (i : Instr) (lv : List (Nat × Value)) (st : List Value) : Option (List (Nat × Value) × List Value) := match i with
  | .aconst_null => some (lv, .null :: st)
  | .aload i => blda lv i st
  | .aload_n i => blda lv i.val st
  | .astore i => bsta nL lv i st
  | .astore_n i => bsta nL lv i.val st
  | .bipush b => some (lv, .int (Int8.ofInt b).toInt32 :: st)
  | .sipush b => some (lv, .int (Int16.ofInt b).toInt32 :: st)
  | .iconst c => some (lv, .int (Int32.ofInt c) :: st)
  | .lconst c => some (lv, .long (Int64.ofNat c.val) :: st)
  | .iload i => bldi lv i st
  | .iload_n i => bldi lv i.val st
  | .lload i => bldl lv i st
  | .lload_n i => bldl lv i.val st
  | .istore i => bsti nL lv i st
  | .istore_n i => bsti nL lv i.val st
  | .lstore i => bstl nL lv i st
  | .lstore_n i => bstl nL lv i.val st
  | .iinc i c => match bget lv i with
    | some (.int x) => bset1 nL lv i (.int (x + Int32.ofInt c)) st
    | _ => none
  | .iadd => bii (fun x y => x + y) lv st
  | .isub => bii (fun x y => x - y) lv st
  | .imul => bii (fun x y => x * y) lv st
  | .iand => bii (fun x y => x &&& y) lv st
  | .ior => bii (fun x y => x ||| y) lv st
  | .ixor => bii (fun x y => x ^^^ y) lv st
  | .ishl => bii (fun x y => x <<< (y &&& 31)) lv st
  | .ishr => bii (fun x y => x >>> (y &&& 31)) lv st
  | .iushr => bii (fun x y => (x.toUInt32 >>> (y.toUInt32 &&& Int32.toUInt32 31)).toInt32) lv st
  | .ineg => bi (fun x => .int (-x)) lv st
  | .ladd => bll (fun x y => x + y) lv st
  | .lsub => bll (fun x y => x - y) lv st
  | .lmul => bll (fun x y => x * y) lv st
  | .i2l => bi (fun x => .long x.toInt64) lv st
  | .i2b => bi (fun x => .int x.toInt8.toInt32) lv st
  | .i2s => bi (fun x => .int x.toInt16.toInt32) lv st
  | .l2i => match st with
    | .long x :: r => some (lv, .int x.toInt32 :: r)
    | _ => none
  | .lcmp => match st with
    | .long y :: .long x :: r => some (lv, .int (lg_cmp x y) :: r)
    | _ => none
  | .dup => match st with
    | v :: r => match bcat1 v with
      | true => some (lv, v :: v :: r)
      | false => none
    | _ => none
  | .pop => match st with
    | v :: r => match bcat1 v with
      | true => some (lv, r)
      | false => none
    | _ => none
  | .dup_x1 => match st with
    | v :: w :: r => match bcat1 v && bcat1 w with
      | true => some (lv, v :: w :: v :: r)
      | false => none
    | _ => none
  | .dup2 => match st with
    | v :: w :: r => match bcat1 v && bcat1 w with
      | true => some (lv, v :: w :: v :: w :: r)
      | false => none
    | _ => none
  | _ => none
def bdec (cc : ByteArray) (pc : Nat) (is : List Instr) : Bool := match is with
  | [] => true
  | i :: r => (match decode cc pc with
    | .ok (j, m) => decide (j = i) && Nat.beq m (bl i)
    | _ => false) && bdec cc (pc + bl i) r
def brun (nL : Nat) (is : List Instr) (pc : Nat) (lv : List (Nat × Value)) (st : List Value) : Option (Nat × List (Nat × Value) × List Value) := match is with
  | [] => some (pc, lv, st)
  | i :: r => match bs nL i lv st with
    | none => none
    | some q => brun nL r (pc + bl i) q.1 q.2
theorem bget_at {ls : Array Slot} {nL : Nat} : ∀ {lv : List (Nat × Value)} {i : Nat} {v : Value}, lv_has ls nL lv → bget lv i = some v → ls[i]? = some (.val v)
  | [], _, _, _, h => by simp [bget] at h
  | (j, w) :: r, i, v, hl, h => by
    unfold bget at h
    cases hb : Nat.beq j i with
    | true =>
      rw [hb] at h
      cases h
      rw [← Nat.eq_of_beq_eq_true hb]
      exact hl.2.2 (j, w) List.mem_cons_self
    | false =>
      rw [hb] at h
      exact bget_at ⟨hl.1, hl.2.1, fun q hq => hl.2.2 q (List.mem_cons_of_mem _ hq)⟩ h
theorem bget_k : ∀ {lv : List (Nat × Value)} {i : Nat} {v : Value}, bget lv i = some v → ∃ k : Nat, lv[k]? = some (i, v)
  | [], _, _, h => by simp [bget] at h
  | (j, w) :: r, i, v, h => by
    unfold bget at h
    cases hb : Nat.beq j i with
    | true =>
      rw [hb] at h
      cases h
      exact ⟨0, by rw [← Nat.eq_of_beq_eq_true hb]; rfl⟩
    | false =>
      rw [hb] at h
      obtain ⟨k, hk⟩ := bget_k h
      exact ⟨k + 1, by simpa using hk⟩
theorem bcat1_eq {v : Value} (h : bcat1 v = true) : v.category = 1 := by cases v <;> first | rfl | cases h
theorem blt_of {a b : Nat} (h : Nat.blt a b = true) : a < b := Nat.le_of_ble_eq_true h
section JBLOCK
variable {Γ : JC} {κ : KP} {cc : ByteArray} {own : String} {nL : Nat} {ret : Option FieldType} {HP : Heap → Prop} {k n pc : Nat} {lv lv' : List (Nat × Value)} {st st' : List Value}
theorem j_set1 {i : Nat} {v : Value} {r : List Value} {P : Prop} (hb : bset1 nL lv i v r = some (lv', st')) (kk : i < nL → (i, v) :: lv.filter (bk1 i) = lv' → r = st' → P) : P := by
  unfold bset1 at hb
  cases hc : Nat.blt i nL with
  | true =>
    rw [hc] at hb
    simp only [Option.some.injEq, Prod.mk.injEq] at hb
    exact kk (blt_of hc) hb.1 hb.2
  | false => rw [hc] at hb; cases hb
theorem j_set2 {i : Nat} {v : Value} {r : List Value} {P : Prop} (hb : bset2 nL lv i v r = some (lv', st')) (kk : i + 1 < nL → (i, v) :: lv.filter (bk2 i) = lv' → r = st' → P) : P := by
  unfold bset2 at hb
  cases hc : Nat.blt (i + 1) nL with
  | true =>
    rw [hc] at hb
    simp only [Option.some.injEq, Prod.mk.injEq] at hb
    exact kk (blt_of hc) hb.1 hb.2
  | false => rw [hc] at hb; cases hb
theorem j_ldi {i : Nat} {P : Prop} (hb : bldi lv i st = some (lv', st')) (kk : ∀ x : Int32, bget lv i = some (.int x) → lv = lv' → .int x :: st = st' → P) : P := by
  unfold bldi at hb
  split at hb
  · rename_i x hx
    simp only [Option.some.injEq, Prod.mk.injEq] at hb
    exact kk x hx hb.1 hb.2
  · cases hb
theorem j_ldl {i : Nat} {P : Prop} (hb : bldl lv i st = some (lv', st')) (kk : ∀ x : Int64, bget lv i = some (.long x) → lv = lv' → .long x :: st = st' → P) : P := by
  unfold bldl at hb
  split at hb
  · rename_i x hx
    simp only [Option.some.injEq, Prod.mk.injEq] at hb
    exact kk x hx hb.1 hb.2
  · cases hb
theorem j_lda {i : Nat} {P : Prop} (hb : blda lv i st = some (lv', st')) (kk : ∀ x : Nat, bget lv i = some (.ref x) → lv = lv' → .ref x :: st = st' → P) (k0 : bget lv i = some .null → lv = lv' → .null :: st = st' → P) : P := by
  unfold blda at hb
  split at hb
  · rename_i x hx
    simp only [Option.some.injEq, Prod.mk.injEq] at hb
    exact kk x hx hb.1 hb.2
  · rename_i hx
    simp only [Option.some.injEq, Prod.mk.injEq] at hb
    exact k0 hx hb.1 hb.2
  · cases hb
theorem j_ii {f : Int32 → Int32 → Int32} {P : Prop} (hb : bii f lv st = some (lv', st')) (kk : ∀ (x y : Int32) (r : List Value), st = .int y :: .int x :: r → lv = lv' → .int (f x y) :: r = st' → P) : P := by
  unfold bii at hb
  split at hb
  · rename_i y x r
    simp only [Option.some.injEq, Prod.mk.injEq] at hb
    exact kk x y r rfl hb.1 hb.2
  · cases hb
theorem j_ll {f : Int64 → Int64 → Int64} {P : Prop} (hb : bll f lv st = some (lv', st')) (kk : ∀ (x y : Int64) (r : List Value), st = .long y :: .long x :: r → lv = lv' → .long (f x y) :: r = st' → P) : P := by
  unfold bll at hb
  split at hb
  · rename_i y x r
    simp only [Option.some.injEq, Prod.mk.injEq] at hb
    exact kk x y r rfl hb.1 hb.2
  · cases hb
theorem j_bi {f : Int32 → Value} {P : Prop} (hb : bi f lv st = some (lv', st')) (kk : ∀ (x : Int32) (r : List Value), st = .int x :: r → lv = lv' → f x :: r = st' → P) : P := by
  unfold bi at hb
  split at hb
  · rename_i x r
    simp only [Option.some.injEq, Prod.mk.injEq] at hb
    exact kk x r rfl hb.1 hb.2
  · cases hb
theorem j_sti {i : Nat} {P : Prop} (hb : bsti nL lv i st = some (lv', st')) (kk : ∀ (x : Int32), st = .int x :: st' → i < nL → (i, Value.int x) :: lv.filter (bk1 i) = lv' → P) : P := by
  unfold bsti at hb
  split at hb
  · rename_i x r
    exact j_set1 hb (fun h1 h2 h3 => kk x (by rw [h3]) h1 h2)
  · cases hb
theorem j_stl {i : Nat} {P : Prop} (hb : bstl nL lv i st = some (lv', st')) (kk : ∀ (x : Int64), st = .long x :: st' → i + 1 < nL → (i, Value.long x) :: lv.filter (bk2 i) = lv' → P) : P := by
  unfold bstl at hb
  split at hb
  · rename_i x r
    exact j_set2 hb (fun h1 h2 h3 => kk x (by rw [h3]) h1 h2)
  · cases hb
theorem j_sta {i : Nat} {P : Prop} (hb : bsta nL lv i st = some (lv', st')) (kk : ∀ (x : Nat), st = .ref x :: st' → i < nL → (i, Value.ref x) :: lv.filter (bk1 i) = lv' → P) (k0 : st = .null :: st' → i < nL → (i, Value.null) :: lv.filter (bk1 i) = lv' → P) : P := by
  unfold bsta at hb
  split at hb
  · rename_i x r
    exact j_set1 hb (fun h1 h2 h3 => kk x (by rw [h3]) h1 h2)
  · rename_i r
    exact j_set1 hb (fun h1 h2 h3 => k0 (by rw [h3]) h1 h2)
  · cases hb
set_option maxHeartbeats 4000000 in
theorem j_bs (E : JE Γ κ cc own nL ret) {i : Instr} (hd : decode cc pc = .ok (i, bl i)) (hb : bs nL i lv st = some (lv', st')) (kk : J Γ nL HP k n (pc + bl i) lv' st') : J Γ nL HP k n pc lv st := by
  intro H locs ls hH hS hl
  have hx := E.1
  have hc := E.2.1
  have K := kk H locs
  cases i <;> (try (cases hb; done)) <;> simp only [bs] at hb
  case aconst_null => cases hb; exact lv_null hx hc hd (K ls hH hS hl)
  case aload i => exact j_lda hb (fun x h1 h2 h3 => by subst h2; subst h3; exact lv_aload hx hc hd (bget_at hl h1) (K ls hH hS hl)) (fun h1 h2 h3 => by subst h2; subst h3; exact lv_aloadN hx hc hd (bget_at hl h1) (K ls hH hS hl))
  case aload_n i => exact j_lda hb (fun x h1 h2 h3 => by subst h2; subst h3; exact lv_aload_n hx hc hd rfl (bget_at hl h1) (K ls hH hS hl)) (fun h1 h2 h3 => by subst h2; subst h3; exact lv_aload_nN hx hc hd rfl (bget_at hl h1) (K ls hH hS hl))
  case astore i => exact j_sta hb (fun x h1 h2 h3 => by subst h1; exact lv_astore hx hc hd hl h2 h3 (fun ls' hl' => K ls' hH hS hl')) (fun h1 h2 h3 => by subst h1; exact lv_astoreN hx hc hd hl h2 h3 (fun ls' hl' => K ls' hH hS hl'))
  case astore_n i => exact j_sta hb (fun x h1 h2 h3 => by subst h1; exact lv_astore_n hx hc hd rfl hl h2 h3 (fun ls' hl' => K ls' hH hS hl')) (fun h1 h2 h3 => by subst h1; exact lv_astore_nN hx hc hd rfl hl h2 h3 (fun ls' hl' => K ls' hH hS hl'))
  case bipush b => cases hb; exact lv_bipush hx hc hd rfl (K ls hH hS hl)
  case sipush b => cases hb; exact lv_sipush hx hc hd rfl (K ls hH hS hl)
  case iconst c => cases hb; exact lv_iconst hx hc hd rfl (K ls hH hS hl)
  case lconst c => cases hb; exact lv_lconst hx hc hd rfl (K ls hH hS hl)
  case iload i => exact j_ldi hb (fun x h1 h2 h3 => by subst h2; subst h3; exact lv_iload hx hc hd (bget_at hl h1) (K ls hH hS hl))
  case iload_n i => exact j_ldi hb (fun x h1 h2 h3 => by subst h2; subst h3; exact lv_iload_n hx hc hd rfl (bget_at hl h1) (K ls hH hS hl))
  case lload i => exact j_ldl hb (fun x h1 h2 h3 => by subst h2; subst h3; exact lv_lload hx hc hd (bget_at hl h1) (K ls hH hS hl))
  case lload_n i => exact j_ldl hb (fun x h1 h2 h3 => by subst h2; subst h3; exact lv_lload_n hx hc hd rfl (bget_at hl h1) (K ls hH hS hl))
  case istore i => exact j_sti hb (fun x h1 h2 h3 => by subst h1; exact lv_istore hx hc hd hl h2 h3 (fun ls' hl' => K ls' hH hS hl'))
  case istore_n i => exact j_sti hb (fun x h1 h2 h3 => by subst h1; exact lv_istore_n hx hc hd rfl hl h2 h3 (fun ls' hl' => K ls' hH hS hl'))
  case lstore i => exact j_stl hb (fun x h1 h2 h3 => by subst h1; exact lv_lstore hx hc hd hl h2 h3 (fun ls' hl' => K ls' hH hS hl'))
  case lstore_n i => exact j_stl hb (fun x h1 h2 h3 => by subst h1; exact lv_lstore_n hx hc hd rfl hl h2 h3 (fun ls' hl' => K ls' hH hS hl'))
  case iinc i c =>
    split at hb
    · rename_i x hg
      obtain ⟨q, hq⟩ := bget_k hg
      exact j_set1 hb (fun h1 h2 h3 => by subst h3; exact lv_iinc hx hc hd hl hq rfl h1 h2 (fun ls' hl' => K ls' hH hS hl'))
    · cases hb
  case iadd => exact j_ii hb (fun x y r h1 h2 h3 => by subst h1; subst h2; subst h3; exact lv_iadd hx hc hd (K ls hH hS hl))
  case isub => exact j_ii hb (fun x y r h1 h2 h3 => by subst h1; subst h2; subst h3; exact lv_isub hx hc hd (K ls hH hS hl))
  case imul => exact j_ii hb (fun x y r h1 h2 h3 => by subst h1; subst h2; subst h3; exact lv_imul hx hc hd (K ls hH hS hl))
  case iand => exact j_ii hb (fun x y r h1 h2 h3 => by subst h1; subst h2; subst h3; exact lv_iand hx hc hd (K ls hH hS hl))
  case ior => exact j_ii hb (fun x y r h1 h2 h3 => by subst h1; subst h2; subst h3; exact lv_ior hx hc hd (K ls hH hS hl))
  case ixor => exact j_ii hb (fun x y r h1 h2 h3 => by subst h1; subst h2; subst h3; exact lv_ixor hx hc hd (K ls hH hS hl))
  case ishl => exact j_ii hb (fun x y r h1 h2 h3 => by subst h1; subst h2; subst h3; exact lv_ishl hx hc hd (K ls hH hS hl))
  case ishr => exact j_ii hb (fun x y r h1 h2 h3 => by subst h1; subst h2; subst h3; exact lv_ishr hx hc hd (K ls hH hS hl))
  case iushr => exact j_ii hb (fun x y r h1 h2 h3 => by subst h1; subst h2; subst h3; exact lv_iushr hx hc hd rfl (K ls hH hS hl))
  case ineg => exact j_bi hb (fun x r h1 h2 h3 => by subst h1; subst h2; subst h3; exact lv_ineg hx hc hd (K ls hH hS hl))
  case ladd => exact j_ll hb (fun x y r h1 h2 h3 => by subst h1; subst h2; subst h3; exact lv_ladd hx hc hd (K ls hH hS hl))
  case lsub => exact j_ll hb (fun x y r h1 h2 h3 => by subst h1; subst h2; subst h3; exact lv_lsub hx hc hd (K ls hH hS hl))
  case lmul => exact j_ll hb (fun x y r h1 h2 h3 => by subst h1; subst h2; subst h3; exact lv_lmul hx hc hd (K ls hH hS hl))
  case i2l => exact j_bi hb (fun x r h1 h2 h3 => by subst h1; subst h2; subst h3; exact lv_i2l hx hc hd rfl (K ls hH hS hl))
  case i2b => exact j_bi hb (fun x r h1 h2 h3 => by subst h1; subst h2; subst h3; exact lv_i2b hx hc hd rfl (K ls hH hS hl))
  case i2s => exact j_bi hb (fun x r h1 h2 h3 => by subst h1; subst h2; subst h3; exact lv_i2s hx hc hd rfl (K ls hH hS hl))
  case l2i =>
    split at hb
    · cases hb; exact lv_l2i hx hc hd rfl (K ls hH hS hl)
    · cases hb
  case lcmp =>
    split at hb
    · cases hb; exact W.lcmp hx hc hd (K ls hH hS hl)
    · cases hb
  case dup =>
    split at hb
    · split at hb
      · rename_i h1; cases hb; exact lv_dup hx hc hd (bcat1_eq h1) (K ls hH hS hl)
      · cases hb
    · cases hb
  case pop =>
    split at hb
    · split at hb
      · rename_i h1; cases hb; exact lv_pop hx hc hd (bcat1_eq h1) (K ls hH hS hl)
      · cases hb
    · cases hb
  case dup_x1 =>
    split at hb
    · split at hb
      · rename_i h1; cases hb; rw [Bool.and_eq_true] at h1; exact lv_dup_x1 hx hc hd (bcat1_eq h1.1) (bcat1_eq h1.2) (K ls hH hS hl)
      · cases hb
    · cases hb
  case dup2 =>
    split at hb
    · split at hb
      · rename_i h1; cases hb; rw [Bool.and_eq_true] at h1; exact lv_dup2_11 hx hc hd (bcat1_eq h1.1) (bcat1_eq h1.2) (K ls hH hS hl)
      · cases hb
    · cases hb
theorem j_blk : ∀ {is : List Instr} {pc pc' : Nat} {lv lv' : List (Nat × Value)} {st st' : List Value}, JE Γ κ cc own nL ret → bdec cc pc is = true → brun nL is pc lv st = some (pc', lv', st') → J Γ nL HP k n pc' lv' st' → J Γ nL HP k n pc lv st
  | [], pc, pc', lv, lv', st, st', E, hd, hr, kk => by
    simp only [brun, Option.some.injEq, Prod.mk.injEq] at hr
    obtain ⟨rfl, rfl, rfl⟩ := hr
    exact kk
  | i :: r, pc, pc', lv, lv', st, st', E, hd, hr, kk => by
    unfold bdec at hd
    rw [Bool.and_eq_true] at hd
    obtain ⟨h1, h2⟩ := hd
    have hdec : decode cc pc = .ok (i, bl i) := by
      revert h1
      split
      · rename_i j m hj
        intro h1
        rw [Bool.and_eq_true, decide_eq_true_eq] at h1
        rw [hj, h1.1, Nat.eq_of_beq_eq_true h1.2]
      · intro h1; cases h1
    unfold brun at hr
    cases hq : bs nL i lv st with
    | none => rw [hq] at hr; cases hr
    | some q =>
      rw [hq] at hr
      exact j_bs E hdec (lv' := q.1) (st' := q.2) hq (j_blk E h2 hr kk)
end JBLOCK
end
section
/-! THE HEAP as one map: rows that read, write, make -/
-- an object (its class's number, its fields), an array of ints, an array of references (of rows: true, of people: false)
abbrev HO : Type := (Nat × List Value) ⊕ ((Nat × (Nat → Int32)) ⊕ (Bool × Nat × (Nat → Option Nat)))
abbrev HM : Type := (Nat → Option HO) × Nat
abbrev kB (κ : KP) (b : Bool) : ClassId := match b with
  | false => kR κ 0
  | true => kR κ 1
abbrev rkB (b : Bool) : String := match b with
  | false => rK0
  | true => rK1
abbrev tkB (b : Bool) : Nat := match b with
  | false => 1
  | true => 2
theorem kT_at (κ : KP) (b : Bool) : (kT κ)[tkB b]? = some (kB κ b, .object (rkB b)) := by cases b <;> rfl
def toE (κ : KP) (o : HO) : va_E := match o with
  | .inl o => .inr o
  | .inr (.inl a) => .inl (kI κ, a.1, .inl a.2)
  | .inr (.inr a) => .inl (kB κ a.1, a.2.1, .inr (.inr (.inr (.inr a.2.2))))
def HS (κ : KP) (A : Nat → Prop) (σ : HM) (H : Heap) : Prop := (H.size = σ.2 ∧ (kF κ = true → ∀ q, σ.2 ≤ q → A q)) ∧ ∀ a o, σ.1 a = some o → A a ∧ va_at (kD κ) vwCl (a, toE κ o) H
def hset (σ : HM) (a : Nat) (o : HO) : HM := (va_up σ.1 a (some o), σ.2)
def hnew (σ : HM) (o : HO) : HM := (va_up σ.1 σ.2 (some o), σ.2 + 1)
def hobj (σ : HM) (a : Nat) : Option (Nat × List Value) := match σ.1 a with
  | some (.inl o) => some o
  | _ => none
def hia (σ : HM) (a : Nat) : Option (Nat × (Nat → Int32)) := match σ.1 a with
  | some (.inr (.inl o)) => some o
  | _ => none
def hra (σ : HM) (a : Nat) : Option (Bool × Nat × (Nat → Option Nat)) := match σ.1 a with
  | some (.inr (.inr o)) => some o
  | _ => none
def hcls (σ : HM) (a : Nat) : Option Nat := (hobj σ a).map (fun o => o.1)
def inb (i : Int32) (n : Nat) : Bool := decide (0 ≤ i.toInt) && decide (i.toInt < n)
def hfld (σ : HM) (S : List Nat) (k a : Nat) : Option Value := match hobj σ a with
  | some o => if S.contains o.1 then o.2[k]? else none
  | none => none
def hfi (σ : HM) (S : List Nat) (k a : Nat) : Option Int32 := match hfld σ S k a with
  | some (.int x) => some x
  | _ => none
def hput (σ : HM) (S : List Nat) (k a : Nat) (v : Value) : Option HM := match hobj σ a with
  | some o => if S.contains o.1 && decide (k < o.2.length) then some (hset σ a (.inl (o.1, o.2.set k v))) else none
  | none => none
def hald (σ : HM) (a : Nat) (i : Int32) : Option Int32 := match hia σ a with
  | some x => if inb i x.1 then some (x.2 i.toNatClampNeg) else none
  | none => none
def hast (σ : HM) (a : Nat) (i v : Int32) : Option HM := match hia σ a with
  | some x => if inb i x.1 then some (hset σ a (.inr (.inl (x.1, upd x.2 i.toNatClampNeg v)))) else none
  | none => none
def hlen (σ : HM) (a : Nat) : Option Int32 := match σ.1 a with
  | some (.inr (.inl x)) => some (Int32.ofNat x.1)
  | some (.inr (.inr x)) => some (Int32.ofNat x.2.1)
  | _ => none
def hrld (σ : HM) (a : Nat) (i : Int32) : Option Value := match hra σ a with
  | some x => if inb i x.2.1 then some (va_rf (x.2.2 i.toNatClampNeg)) else none
  | none => none
def rS (b : Bool) : List Nat := match b with
  | false => [0, 1, 3, 4, 5, 6, 7, 9]
  | true => [8]
def hrst (σ : HM) (a : Nat) (i : Int32) (v : Value) : Option HM := match hra σ a with
  | some x => if inb i x.2.1 then (match v with
    | .null => some (hset σ a (.inr (.inr (x.1, x.2.1, va_up x.2.2 i.toNatClampNeg none))))
    | .ref b => (match hcls σ b with
      | some c => if (rS x.1).contains c then some (hset σ a (.inr (.inr (x.1, x.2.1, va_up x.2.2 i.toNatClampNeg (some b))))) else none
      | none => none)
    | _ => none) else none
  | none => none
def hcpi (σ : HM) (a0 : Nat) (sp : Int32) (a : Nat) (dp n : Int32) : Option HM := match hia σ a0, hia σ a with
  | some x, some y => if decide (0 ≤ sp.toInt) && decide (0 ≤ dp.toInt) && decide (0 ≤ n.toInt) && decide (sp.toNatClampNeg + n.toNatClampNeg ≤ x.1) && decide (dp.toNatClampNeg + n.toNatClampNeg ≤ y.1) then some (hset σ a (.inr (.inl (y.1, va_cpy x.2 y.2 sp.toNatClampNeg dp.toNatClampNeg n.toNatClampNeg)))) else none
  | _, _ => none
def hok (σ : HM) (b : Bool) (r : Option Nat) : Bool := match r with
  | none => true
  | some y => match hcls σ y with
    | some c => (rS b).contains c
    | none => false
def hcpr (σ : HM) (a0 : Nat) (sp : Int32) (a : Nat) (dp n : Int32) : Option HM := match hra σ a0, hra σ a with
  | some x, some y => if decide (0 ≤ sp.toInt) && decide (0 ≤ dp.toInt) && decide (0 ≤ n.toInt) && decide (sp.toNatClampNeg + n.toNatClampNeg ≤ x.2.1) && decide (dp.toNatClampNeg + n.toNatClampNeg ≤ y.2.1) && (List.range n.toNatClampNeg).all (fun i => hok σ y.1 (x.2.2 (sp.toNatClampNeg + i))) then some (hset σ a (.inr (.inr (y.1, y.2.1, va_cpy x.2.2 y.2.2 sp.toNatClampNeg dp.toNatClampNeg n.toNatClampNeg)))) else none
  | _, _ => none
theorem inb_in {i : Int32} {n : Nat} (h : inb i n = true) : vp_in i n := by
  unfold inb at h
  rw [Bool.and_eq_true, decide_eq_true_eq, decide_eq_true_eq] at h
  exact vp_in_iff.mpr h
theorem hobj_at {σ : HM} {a : Nat} {o : Nat × List Value} (h : hobj σ a = some o) : σ.1 a = some (.inl o) := by
  unfold hobj at h
  split at h
  · rename_i q hq; cases h; exact hq
  · cases h
theorem hia_at {σ : HM} {a : Nat} {o : Nat × (Nat → Int32)} (h : hia σ a = some o) : σ.1 a = some (.inr (.inl o)) := by
  unfold hia at h
  split at h
  · rename_i q hq; cases h; exact hq
  · cases h
theorem hra_at {σ : HM} {a : Nat} {o : Bool × Nat × (Nat → Option Nat)} (h : hra σ a = some o) : σ.1 a = some (.inr (.inr o)) := by
  unfold hra at h
  split at h
  · rename_i q hq; cases h; exact hq
  · cases h
theorem hcls_at {σ : HM} {a c : Nat} (h : hcls σ a = some c) : ∃ fs, σ.1 a = some (.inl (c, fs)) := by
  unfold hcls at h
  cases ho : hobj σ a with
  | none => rw [ho] at h; cases h
  | some o => rw [ho] at h; cases h; exact ⟨o.2, hobj_at ho⟩
theorem HS.put {κ : KP} {A : Nat → Prop} {σ : HM} {H H1 : Heap} {a : Nat} {o o0 : HO} (h : HS κ A σ H) (h0 : σ.1 a = some o0) (he : va_at (kD κ) vwCl (a, toE κ o) H1) (z : H1.size = H.size) (oq : ∀ q : Nat, q ≠ a → H1[q]? = H[q]?) : HS κ A (hset σ a o) H1 := by
  refine ⟨⟨z.trans h.1.1, h.1.2⟩, fun q e hq => ?_⟩
  by_cases hqa : q = a
  · subst hqa
    simp only [hset, va_up, if_true] at hq
    cases hq
    exact ⟨(h.2 q _ h0).1, he⟩
  · simp only [hset, va_up, if_neg hqa] at hq
    exact ⟨(h.2 q _ hq).1, (h.2 q _ hq).2.kept (oq q hqa)⟩
theorem HS.push {κ : KP} {A : Nat → Prop} {σ : HM} {H H1 : Heap} {o : HO} (h : HS κ A σ H) (hκ : kF κ = true) (he : va_at (kD κ) vwCl (H.size, toE κ o) H1) (z : H1.size = H.size + 1) (oq : ∀ q : Nat, q < H.size → H1[q]? = H[q]?) : HS κ A (hnew σ o) H1 := by
  have hA : A H.size := h.1.2 hκ _ (by rw [h.1.1]; exact Nat.le_refl _)
  refine ⟨⟨z.trans (by rw [h.1.1]; rfl), fun hf q hq => h.1.2 hf q (Nat.le_trans (Nat.le_succ _) hq)⟩, fun q e hq => ?_⟩
  by_cases hqa : q = σ.2
  · subst hqa
    simp only [hnew, va_up, if_true] at hq
    cases hq
    rw [← h.1.1]
    exact ⟨hA, he⟩
  · simp only [hnew, va_up, if_neg hqa] at hq
    exact ⟨(h.2 q _ hq).1, (h.2 q _ hq).2.kept (oq q (h.2 q _ hq).2.lt)⟩
/-- a field that is read -/
def FG (own : String) (idx : Nat) (S : List Nat) (k : Nat) : Prop := ∃ (ref nm ds : String), Cond.fieldLink own idx ref nm ds ∈ WT ∧ ∀ c ∈ S, ∃ (C : String) (T : u_T) (N : Nat), vwCl[c]? = some (C, T, N) ∧ k < N ∧ (T k).2.1 = nm ∧ (T k).2.2.1 = ds ∧ (∀ w ∈ u_ws C T N, w ∈ WT) ∧ ((T k).1 = ref ∨ Cond.sameField ref (T k).1 nm ds ∈ WT)
/-- a field that is written -/
def FP (own : String) (idx : Nat) (S : List Nat) (k : Nat) (ty : FieldType) (fin : Bool) : Prop := ∃ (ref nm ds : String), Cond.fieldLink own idx ref nm ds ∈ WT ∧ parseFieldDescriptor ds = some ty ∧ ∀ c ∈ S, ∃ (C : String) (T : u_T) (N : Nat) (ty0 : Nat → FieldType), vwCl[c]? = some (C, T, N) ∧ k < N ∧ (T k).2.1 = nm ∧ (T k).2.2.1 = ds ∧ (∀ w ∈ u_ws C T N, w ∈ WT) ∧ ((T k).1 = ref ∨ Cond.sameField ref (T k).1 nm ds ∈ WT) ∧ (T k).2.2.2 = fin ∧ (∀ j, j < N → parseFieldDescriptor (T j).2.2.1 = some (ty0 j)) ∧ (∀ a, a < N → ∀ b, b < N → a ≠ b → (T a).2.1 ≠ (T b).2.1) ∧ (fin = true → (T k).1 = own)
section JHEAP
variable {Γ : JC} {κ : KP} {cc : ByteArray} {own : String} {nL : Nat} {ret : Option FieldType} {A : Nat → Prop} {σ σ' : HM} {k n pc idx a i : Nat} {S : List Nat} {lv : List (Nat × Value)} {st : List Value}
theorem hfld_at {v : Value} (h : hfld σ S i a = some v) : ∃ o, σ.1 a = some (.inl o) ∧ o.1 ∈ S ∧ o.2[i]? = some v := by
  unfold hfld at h
  split at h
  · rename_i o ho
    split at h
    · rename_i hc
      exact ⟨o, hobj_at ho, by simpa using hc, h⟩
    · cases h
  · cases h
theorem j_getf {v : Value} (E : JE Γ κ cc own nL ret) (F : FG own idx S i) (hd : decode cc pc = .ok (.getfield idx, 3)) (hv : hfld σ S i a = some v) (kk : J Γ nL (HS κ A σ) k n (pc + 3) lv (v :: st)) : J Γ nL (HS κ A σ) k n pc lv (.ref a :: st) := by
  intro H locs ls hH hS hl
  obtain ⟨o, h1, h2, h3⟩ := hfld_at hv
  obtain ⟨ref, nm, ds, f1, f2⟩ := F
  obtain ⟨C, T, N, g1, g2, rfl, rfl, g5, g6⟩ := f2 _ h2
  refine va_get (D := kD κ) (ci := o.1) (fs := o.2) (C := C) (T := T) (N := N) (ref := ref) (ws := [(a, .inr o)]) E.1 E.2.1 E.2.2.2.2.1 g5 E.2.2.2.1 E.2.2.2.2.2.2.2.1.1 ?_ 0 rfl g1 i g2 (E.2.2.2.2.1 _ f1) ?_ h3 hd (kk H locs ls hH hS hl)
  · intro q e hq
    cases q with
    | zero => cases hq; exact (hH.2 a _ h1).2
    | succ q => simp at hq
  · rcases g6 with g6 | g6
    · intro x hx; rw [← g6]; exact hx
    · exact u_same (E.2.2.2.2.1 _ g6)
theorem hfi_at {x : Int32} (h : hfi σ S i a = some x) : hfld σ S i a = some (.int x) := by
  unfold hfi at h
  split at h
  · rename_i y hy; cases h; exact hy
  · cases h
theorem j_getI {x : Int32} (E : JE Γ κ cc own nL ret) (F : FG own idx S i) (hd : decode cc pc = .ok (.getfield idx, 3)) (hv : hfi σ S i a = some x) (kk : J Γ nL (HS κ A σ) k n (pc + 3) lv (.int x :: st)) : J Γ nL (HS κ A σ) k n pc lv (.ref a :: st) := j_getf E F hd (hfi_at hv) kk
theorem hput_at {v : Value} (h : hput σ S i a v = some σ') : ∃ o, σ.1 a = some (.inl o) ∧ o.1 ∈ S ∧ i < o.2.length ∧ σ' = hset σ a (.inl (o.1, o.2.set i v)) := by
  unfold hput at h
  split at h
  · rename_i o ho
    split at h
    · rename_i hc
      rw [Bool.and_eq_true, decide_eq_true_eq] at hc
      exact ⟨o, hobj_at ho, by simpa using hc.1, hc.2, (Option.some.inj h).symm⟩
    · cases h
  · cases h
theorem j_put {v : Value} {ty : FieldType} (E : JE Γ κ cc own nL ret) (F : FP own idx S i ty false) (hd : decode cc pc = .ok (.putfield idx, 3)) (hn : narrow ty v = v) (hf : fits ty v = true) (hv : hput σ S i a v = some σ') (hAA : ∀ q, A q → jA Γ q) (kk : J Γ nL (HS κ A σ') k n (pc + 3) lv st) : J Γ nL (HS κ A σ) k n pc lv (v :: .ref a :: st) := by
  intro H locs ls hH hS hl
  obtain ⟨o, h1, h2, h3, rfl⟩ := hput_at hv
  obtain ⟨ref, nm, ds, f1, f0, f2⟩ := F
  obtain ⟨C, T, N, ty0, hc, hk, rfl, rfl, hin, g6, hfin, hty, hnm, -⟩ := f2 _ h2
  obtain ⟨hAa, hat⟩ := hH.2 a _ h1
  have hK := E.2.2.2.2.2.2.2.1.1
  have hts := E.2.2.2.2.1
  have hap := va_apart (own := own) hts hin ty0 hty hnm hK hc
  obtain ⟨r, r1, cell, q1, q2, q3, q4⟩ := hat
  have hr : r = (C, T, N) := Option.some.inj (r1.symm.trans hc)
  subst hr
  obtain ⟨hSl, hfc, kC, hkC, hkind⟩ := hK.1 o.1 _ hc
  obtain ⟨cf, kf, fi, f, hi, hsl⟩ := hSl i hk
  have hlay := hts _ (hin _ (u_in_lay hk))
  unfold u_lay at hlay
  rw [if_neg (by rw [hfin]; decide)] at hlay
  have hst := (u_facts hfc hkC (u_lays hts hin hk) hi).1
  have h6 := u_store hfc hkC hkind hlay hi f0 hn hf
  have hsame : (jS Γ).fieldFound? ref (T i).2.1 (T i).2.2.1 = some (cf, kf, fi, f) := by
    rcases g6 with g6 | g6
    · rw [← g6]; exact hi
    · exact u_same (hts _ g6) _ hi
  refine W.putK E.1 E.2.1 (f := f) ⟨E.2.2.2.1, hts _ f1, ⟨_, _, _, hsame⟩, hst⟩ (by rw [q2]; exact h6) q1 q3 (by rw [hsl]; exact k2_hasslot (q4 i hk)) rfl rfl hd fun H' e1 e2 e3 => ?_
  rw [hsl] at e1 ⊢
  exact kk H' _ ls (hH.put h1 ⟨_, hc, t_OB.to (V := updV (vp_V o.2) i v) ⟨_, e1, q2, q3, t_set q4 hap hk v⟩ (fun j _ => vp_updV_set h3 v j)⟩ e2 e3) (hS.put e2 e3 (hAA a hAa)) hl
theorem j_putF {v : Value} {ty : FieldType} (E : JE Γ κ cc own nL ret) (F : FP own idx S i ty true) (hI : (jT Γ).name = "<init>") (hd : decode cc pc = .ok (.putfield idx, 3)) (hn : narrow ty v = v) (hf : fits ty v = true) (hv : hput σ S i a v = some σ') (hAA : ∀ q, A q → jA Γ q) (kk : J Γ nL (HS κ A σ') k n (pc + 3) lv st) : J Γ nL (HS κ A σ) k n pc lv (v :: .ref a :: st) := by
  intro H locs ls hH hS hl
  obtain ⟨o, h1, h2, h3, rfl⟩ := hput_at hv
  obtain ⟨ref, nm, ds, f1, f0, f2⟩ := F
  obtain ⟨C, T, N, ty0, hc, hk, rfl, rfl, hin, g6, hfin, hty, hnm, hdecl⟩ := f2 _ h2
  obtain ⟨hAa, hat⟩ := hH.2 a _ h1
  have hK := E.2.2.2.2.2.2.2.1.1
  have hts := E.2.2.2.2.1
  have hap := va_apart (own := own) hts hin ty0 hty hnm hK hc
  obtain ⟨r, r1, cell, q1, q2, q3, q4⟩ := hat
  have hr : r = (C, T, N) := Option.some.inj (r1.symm.trans hc)
  subst hr
  obtain ⟨hSl, hfc, kC, hkC, hkind⟩ := hK.1 o.1 _ hc
  obtain ⟨cf, kf, fi, f, hi, hsl⟩ := hSl i hk
  have hlay := hts _ (hin _ (u_in_lay hk))
  unfold u_lay at hlay
  rw [if_pos hfin] at hlay
  have hst := (u_facts hfc hkC (u_lays hts hin hk) hi).1
  have hcf : (jM Γ).cls = cf := by
    obtain ⟨_, _, c', _, _, _, -, -, hf', -, -, -, hown2, -⟩ := Cond.laysFinal_spec hlay
    have e1 : c' = cf := by have := hi.symm.trans hf'; simp at this; exact this.1.symm
    rw [hdecl rfl] at hown2
    rw [← e1]; exact Option.some.inj (E.2.2.2.1.symm.trans hown2)
  have h6 := u_fits hfc hkC hkind (Or.inr hlay) hi f0 hn hf
  have hsame : (jS Γ).fieldFound? ref (T i).2.1 (T i).2.2.1 = some (cf, kf, fi, f) := by
    rcases g6 with g6 | g6
    · rw [← g6]; exact hi
    · exact u_same (hts _ g6) _ hi
  refine W.putFinK E.1 E.2.1 E.2.2.2.1 (hts _ f1) hsame hst hcf hI (by rw [q2]; exact h6) q1 q3 (by rw [hsl]; exact k2_hasslot (q4 i hk)) rfl rfl hd fun H' e1 e2 e3 => ?_
  rw [hsl] at e1 ⊢
  exact kk H' _ ls (hH.put h1 ⟨_, hc, t_OB.to (V := updV (vp_V o.2) i v) ⟨_, e1, q2, q3, t_set q4 hap hk v⟩ (fun j _ => vp_updV_set h3 v j)⟩ e2 e3) (hS.put e2 e3 (hAA a hAa)) hl
-- arrays
theorem hald_at {ix x : Int32} (h : hald σ a ix = some x) : ∃ q, σ.1 a = some (.inr (.inl q)) ∧ vp_in ix q.1 ∧ q.2 ix.toNatClampNeg = x := by
  unfold hald at h
  split at h
  · rename_i q hq
    split at h
    · rename_i hi; cases h; exact ⟨q, hia_at hq, inb_in hi, rfl⟩
    · cases h
  · cases h
theorem j_iald {ix x : Int32} (E : JE Γ κ cc own nL ret) (hd : decode cc pc = .ok (.iaload, 1)) (hv : hald σ a ix = some x) (kk : J Γ nL (HS κ A σ) k n (pc + 1) lv (.int x :: st)) : J Γ nL (HS κ A σ) k n pc lv (.int ix :: .ref a :: st) := by
  intro H locs ls hH hS hl
  obtain ⟨q, h1, h2, rfl⟩ := hald_at hv
  refine va_iald (D := kD κ) (cl := vwCl) (ws := [(a, .inl (kI κ, q.1, .inl q.2))]) E.1 E.2.1 E.2.2.2.2.2.2.2.1.1 ?_ 0 0 rfl rfl h2 hd (kk H locs ls hH hS hl)
  intro j e hq
  cases j with
  | zero => cases hq; exact (hH.2 a _ h1).2
  | succ j => simp at hq
theorem hast_at {ix x : Int32} (h : hast σ a ix x = some σ') : ∃ q, σ.1 a = some (.inr (.inl q)) ∧ vp_in ix q.1 ∧ σ' = hset σ a (.inr (.inl (q.1, upd q.2 ix.toNatClampNeg x))) := by
  unfold hast at h
  split at h
  · rename_i q hq
    split at h
    · rename_i hi; exact ⟨q, hia_at hq, inb_in hi, (Option.some.inj h).symm⟩
    · cases h
  · cases h
theorem j_iast {ix x : Int32} (E : JE Γ κ cc own nL ret) (hd : decode cc pc = .ok (.iastore, 1)) (hv : hast σ a ix x = some σ') (hAA : ∀ q, A q → jA Γ q) (kk : J Γ nL (HS κ A σ') k n (pc + 1) lv st) : J Γ nL (HS κ A σ) k n pc lv (.int x :: .int ix :: .ref a :: st) := by
  intro H locs ls hH hS hl
  obtain ⟨q, h1, h2, rfl⟩ := hast_at hv
  obtain ⟨hAa, hat⟩ := hH.2 a _ h1
  have hK := E.2.2.2.2.2.2.2.1.1
  refine W.iast E.1 E.2.1 (show H[a]? = some (vp_cell (kI κ) (q.1, .inl q.2)) from hat) ((hK.2 0 _ rfl).1 q.1 (fun j => .int (q.2 j))) (fun z => by cases z) (by show ¬ (ix < 0 ∨ (arrV _ _ _).slots.size ≤ _); rw [arrV_size]; exact h2) rfl rfl hd fun H1 e z oq => ?_
  refine kk H1 _ ls (hH.put h1 ?_ z oq) (hS.put z oq (hAA a hAa)) hl
  show H1[a]? = some (vp_cell _ _)
  rw [e]
  rw [vp_cell_i, vp_cell_i, arrV_store]
  congr 2
  funext j
  by_cases hj : j = ix.toNatClampNeg
  · subst hj
    simp [updV, upd]
  · simp [updV, upd, hj]
theorem j_alen {x : Int32} (E : JE Γ κ cc own nL ret) (hd : decode cc pc = .ok (.arraylength, 1)) (hv : hlen σ a = some x) (kk : J Γ nL (HS κ A σ) k n (pc + 1) lv (.int x :: st)) : J Γ nL (HS κ A σ) k n pc lv (.ref a :: st) := by
  intro H locs ls hH hS hl
  unfold hlen at hv
  split at hv
  · rename_i q h1
    cases hv
    refine va_alen (D := kD κ) (cl := vwCl) (ws := [(a, .inl (kI κ, q.1, .inl q.2))]) (ty := .int) E.1 E.2.1 E.2.2.2.2.2.2.2.1.1 ?_ 0 0 rfl rfl rfl hd (kk H locs ls hH hS hl)
    intro j e hq
    cases j with
    | zero => cases hq; exact (hH.2 a _ h1).2
    | succ j => simp at hq
  · rename_i q h1
    cases hv
    obtain ⟨b, m, f⟩ := q
    refine va_alen (D := kD κ) (cl := vwCl) (ws := [(a, .inl (kB κ b, m, .inr (.inr (.inr (.inr f)))))]) (ty := .object (rkB b)) E.1 E.2.1 E.2.2.2.2.2.2.2.1.1 ?_ 0 (tkB b) rfl (kT_at κ b) rfl hd (kk H locs ls hH hS hl)
    intro j e hq
    cases j with
    | zero => cases hq; exact (hH.2 a _ h1).2
    | succ j => simp at hq
  · cases hv
theorem hrld_at {ix : Int32} {v : Value} (h : hrld σ a ix = some v) : ∃ q, σ.1 a = some (.inr (.inr q)) ∧ vp_in ix q.2.1 ∧ va_rf (q.2.2 ix.toNatClampNeg) = v := by
  unfold hrld at h
  split at h
  · rename_i q hq
    split at h
    · rename_i hi; cases h; exact ⟨q, hra_at hq, inb_in hi, rfl⟩
    · cases h
  · cases h
theorem j_rald {ix : Int32} {v : Value} (E : JE Γ κ cc own nL ret) (hd : decode cc pc = .ok (.aaload, 1)) (hv : hrld σ a ix = some v) (kk : J Γ nL (HS κ A σ) k n (pc + 1) lv (v :: st)) : J Γ nL (HS κ A σ) k n pc lv (.int ix :: .ref a :: st) := by
  intro H locs ls hH hS hl
  obtain ⟨⟨b, m, f⟩, h1, h2, rfl⟩ := hrld_at hv
  refine va_aldq (D := kD κ) (cl := vwCl) (ws := [(a, .inl (kB κ b, m, .inr (.inr (.inr (.inr f)))))]) (C := rkB b) E.1 E.2.1 E.2.2.2.2.2.2.2.1.1 ?_ 0 (tkB b) rfl (kT_at κ b) h2 hd (kk H locs ls hH hS hl)
  intro j e hq
  cases j with
  | zero => cases hq; exact (hH.2 a _ h1).2
  | succ j => simp at hq
/-- what may lie in the arrays of references: classes below the one that they are of -/
def RA (b : Bool) : Prop := ∀ c ∈ rS b, ∃ q : vw_C, vwCl[c]? = some q ∧ (Cond.castable q.1 (rkB b) ∈ WT ∨ q.1 = (rkB b))
theorem hrst_at {ix : Int32} {v : Value} (h : hrst σ a ix v = some σ') : ∃ q, σ.1 a = some (.inr (.inr q)) ∧ vp_in ix q.2.1 ∧ ((v = .null ∧ σ' = hset σ a (.inr (.inr (q.1, q.2.1, va_up q.2.2 ix.toNatClampNeg none)))) ∨ ∃ y c fs, v = .ref y ∧ σ.1 y = some (.inl (c, fs)) ∧ c ∈ rS q.1 ∧ σ' = hset σ a (.inr (.inr (q.1, q.2.1, va_up q.2.2 ix.toNatClampNeg (some y))))) := by
  unfold hrst at h
  split at h
  · rename_i q hq
    split at h
    · rename_i hi
      refine ⟨q, hra_at hq, inb_in hi, ?_⟩
      split at h
      · exact Or.inl ⟨rfl, (Option.some.inj h).symm⟩
      · rename_i y
        split at h
        · rename_i c hc
          split at h
          · rename_i hcon
            obtain ⟨fs, hfs⟩ := hcls_at hc
            exact Or.inr ⟨y, c, fs, rfl, hfs, by simpa using hcon, (Option.some.inj h).symm⟩
          · cases h
        · cases h
      · cases h
    · cases h
  · cases h
theorem j_assign (E : JE Γ κ cc own nL ret) {b : Bool} (hRA : RA b) {c : Nat} (hc : c ∈ rS b) {comp : ClassId} (hcomp : (jS Γ).vm.findClass (rkB b) = some comp) : ∃ (q : vw_C), vwCl[c]? = some q ∧ (jS Γ).vm.findClass q.1 = some ((kD κ).1 c) ∧ (∃ kC : Class, (jS Γ).vm.classes[(kD κ).1 c]? = some kC) ∧ (jS Γ).vm.assignable ((kD κ).1 c) comp = true := by
  obtain ⟨q, hq, h⟩ := hRA c hc
  have hK := E.2.2.2.2.2.2.2.1.1
  have hcls := (hK.1 c q hq).2
  obtain ⟨kC, hkC, -⟩ := hcls.2
  refine ⟨q, hq, hcls.1, ⟨kC, hkC⟩, ?_⟩
  rcases h with h | h
  · obtain ⟨c0, t1, f1, f2, f3⟩ := Cond.castable_spec (E.2.2.2.2.1 _ h)
    cases hcls.1.symm.trans f1
    cases hcomp.symm.trans f2
    exact f3
  · rw [← h] at hcomp
    cases hcls.1.symm.trans hcomp
    exact va_assign hcls
theorem j_rast {ix : Int32} {v : Value} (E : JE Γ κ cc own nL ret) (hRA : ∀ b, RA b) (hd : decode cc pc = .ok (.aastore, 1)) (hv : hrst σ a ix v = some σ') (hAA : ∀ q, A q → jA Γ q) (kk : J Γ nL (HS κ A σ') k n (pc + 1) lv st) : J Γ nL (HS κ A σ) k n pc lv (v :: .int ix :: .ref a :: st) := by
  intro H locs ls hH hS hl
  have hK := E.2.2.2.2.2.2.2.1.1
  obtain ⟨⟨b, m, f⟩, h1, h2, h3⟩ := hrst_at hv
  obtain ⟨hAa, hat⟩ := hH.2 a _ h1
  have hlt : ix.toNatClampNeg < m := Nat.not_le.mp fun q => h2 (Or.inr q)
  have h0 : ¬ ix < 0 := fun q => h2 (Or.inl q)
  have hty := kT_at κ b
  rcases h3 with ⟨rfl, rfl⟩ | ⟨y, c, fs, rfl, hy, hc, rfl⟩
  · refine va_WaastN (C := rkB b) E.1 E.2.1 (show H[a]? = some (vp_cell (kB κ b) (m, .inr (.inr (.inr (.inr f))))) from hat) ((hK.2 _ _ hty).1 m (fun j => va_rf (f j))) (fun h => by cases h) (by show ¬ (ix < 0 ∨ (arrV _ _ _).slots.size ≤ _); rw [arrV_size]; exact h2) rfl rfl hd fun H1 e z oq => ?_
    refine kk H1 _ ls (hH.put h1 ?_ z oq) (hS.put z oq (hAA a hAa)) hl
    show H1[a]? = some (vp_cell _ _)
    rw [e]
    rw [vp_cell_q, vp_cell_q, arrV_store]
    congr 2
    funext j
    by_cases hj : j = ix.toNatClampNeg
    · subst hj
      simp [updV, va_up, va_rf]
    · simp [updV, va_up, hj]
  · obtain ⟨kA, comp, k1, k2, k3, -⟩ := (hK.2 _ _ hty).2
    obtain ⟨kE, hkE, -⟩ := Vm.findClass_spec k3
    obtain ⟨q, hq, hqc, ⟨kC, hkC⟩, hasg⟩ := j_assign E (hRA b) hc k3
    obtain ⟨r', hr', cellV, g1, g2, g3, -⟩ := (hH.2 y _ hy).2
    refine W.aast E.1 E.2.1 (show H[a]? = some (vp_cell (kB κ b) (m, .inr (.inr (.inr (.inr f))))) from hat) (fun q h => by cases h) (fun h => by cases h) k1 k2 rfl hkE ⟨h0, by show _ < (arrV _ _ _).slots.size; rw [arrV_size]; exact hlt⟩ g1 (fun q h => by rw [g3] at h; cases h) (by rw [g2]; exact hkC) (by rw [g2]; exact hasg) rfl rfl hd fun H1 e z oq => ?_
    refine kk H1 _ ls (hH.put h1 ?_ z oq) (hS.put z oq (hAA a hAa)) hl
    show H1[a]? = some (vp_cell _ _)
    rw [e]
    rw [vp_cell_q, vp_cell_q, arrV_store]
    congr 2
    funext j
    by_cases hj : j = ix.toNatClampNeg
    · subst hj
      simp [updV, va_up, va_rf]
    · simp [updV, va_up, hj]
-- statics
theorem j_gets {C nm ds ref : String} {v : Value} (E : JE Γ κ cc own nL ret) (hZ : va_Z C nm ds v (jA Γ) (jS Γ) (jS Γ).heap) (hw : Cond.fieldLink own idx C nm ds ∈ WT) (hd : decode cc pc = .ok (.getstatic idx, 3)) {HP : Heap → Prop} (kk : J Γ nL HP k n (pc + 3) lv (v :: st)) : J Γ nL HP k n pc lv st :=
  fun H locs ls hH hS hl => va_gets E.1 E.2.1 hZ hS E.2.2.2.1 (E.2.2.2.2.1 _ hw) (fun _ h => h) hd (kk H locs ls hH hS hl)
theorem j_getsN {C nm ds host : String} {v : Value} (E : JE Γ κ cc own nL ret) (hZ : va_Z C nm ds v (jA Γ) (jS Γ) (jS Γ).heap) (hw : Cond.fieldLinkNest own idx C nm ds host ∈ WT) (hd : decode cc pc = .ok (.getstatic idx, 3)) {HP : Heap → Prop} (kk : J Γ nL HP k n (pc + 3) lv (v :: st)) : J Γ nL HP k n pc lv st :=
  fun H locs ls hH hS hl => va_getsN E.1 E.2.1 hZ hS E.2.2.2.1 (E.2.2.2.2.1 _ hw) (fun _ h => h) hd (kk H locs ls hH hS hl)
theorem j_tld {t N : Nat} {f : Nat → Int32} {ix : Int32} (E : JE Γ κ cc own nL ret) (hT : va_T .int t N (fun j => .int (f j)) (jA Γ) (jS Γ) (jS Γ).heap) (hd : decode cc pc = .ok (.iaload, 1)) (hi : inb ix N = true) {HP : Heap → Prop} (kk : J Γ nL HP k n (pc + 1) lv (.int (f ix.toNatClampNeg) :: st)) : J Γ nL HP k n pc lv (.int ix :: .ref t :: st) :=
  fun H locs ls hH hS hl => va_ti E.1 E.2.1 hT hS (inb_in hi) rfl hd (kk H locs ls hH hS hl)
-- making
theorem j_new {C : String} {T : u_T} {N ci : Nat} {ty0 : Nat → FieldType} {fs : List Value} (E : JE Γ κ cc own nL ret) (hc : vwCl[ci]? = some (C, T, N)) (hw : Cond.classLink own idx C ∈ WT ∧ Cond.instantiable C N ∈ WT ∧ Cond.initialized C ∈ WT) (hin : ∀ w ∈ u_ws C T N, w ∈ WT) (hty : ∀ j, j < N → parseFieldDescriptor (T j).2.2.1 = some (ty0 j)) (hfs : ∀ j, j < N → defaultValue (ty0 j) = vp_V fs j) (hd : decode cc pc = .ok (.new idx, 3)) (hk : k + 1 ≤ (jR Γ).cells) (hn : n + N ≤ (jR Γ).slots) (hκ : kF κ = true)
    (kk : J Γ nL (HS κ A (hnew σ (.inl (ci, fs)))) (k + 1) (n + N) (pc + 3) lv (.ref σ.2 :: st)) : J Γ nL (HS κ A σ) k n pc lv st := by
  intro H locs ls hH hS hl
  have hts := E.2.2.2.2.1
  have hKn := E.2.2.2.2.2.2.2.1.1.1 ci _ hc
  refine W.newcK E.1 E.2.1 E.2.2.2.1 (hts _ hw.1) (hts _ hw.2.1) (hts _ hw.2.2) rfl hd hk hn hKn.2.1 rfl fun H1 kC hkC e1 z1 o1 => ?_
  have hP : HS κ A (hnew σ (.inl (ci, fs))) H1 := hH.push hκ ⟨_, hc, (u_born ty0 hts hin hKn hkC e1 hty).to hfs⟩ z1 o1
  rw [hH.1.1]
  exact kk H1 locs ls hP ⟨Nat.le_trans hS.1 (by omega), fun x h1 h2 => (o1 x (Nat.lt_of_lt_of_le h1 hS.1)).trans (hS.2.1 x h1 h2), hS.2.2⟩ hl
theorem j_newa {m : Int32} {N : Nat} (E : JE Γ κ cc own nL ret) (hw : Cond.arrayClass .int ∈ WT) (hm : ¬ m < 0) (hN : m.toNatClampNeg = N) (hsm : N ≤ 100000) (hd : decode cc pc = .ok (.newarray .int, 2)) (hk : k + 1 ≤ (jR Γ).cells) (hn : n + N ≤ (jR Γ).slots) (hκ : kF κ = true)
    (kk : J Γ nL (HS κ A (hnew σ (.inr (.inl (N, fun _ => 0))))) (k + 1) (n + N) (pc + 2) lv (.ref σ.2 :: st)) : J Γ nL (HS κ A σ) k n pc lv (.int m :: st) := by
  intro H locs ls hH hS hl
  have hts := E.2.2.2.2.1
  refine va_newaK (atype := .int) E.1 E.2.1 (hts _ hw) rfl hd rfl hm hN (by show N * 4 ≤ _; omega) hk hn rfl fun H1 cA e1 z1 o1 hAr hNm => ?_
  have hcA : cA = kI κ := Option.some.inj (hNm.symm.trans (E.2.2.2.2.2.2.2.1.1.2 0 _ rfl).2)
  subst hcA
  have hP : HS κ A (hnew σ (.inr (.inl (N, fun _ => 0)))) H1 := hH.push hκ e1 z1 o1
  rw [hH.1.1]
  exact kk H1 locs ls hP ⟨Nat.le_trans hS.1 (by omega), fun x h1 h2 => (o1 x (Nat.lt_of_lt_of_le h1 hS.1)).trans (hS.2.1 x h1 h2), hS.2.2⟩ hl
theorem j_newr {m : Int32} {N : Nat} (b : Bool) (E : JE Γ κ cc own nL ret) (hw : Cond.classLink own idx (rkB b) ∈ WT ∧ Cond.arrayOver (.object (rkB b)) ∈ WT) (hm : ¬ m < 0) (hN : m.toNatClampNeg = N) (hsm : N ≤ 100000) (hd : decode cc pc = .ok (.anewarray idx, 3)) (hk : k + 1 ≤ (jR Γ).cells) (hn : n + N ≤ (jR Γ).slots) (hκ : kF κ = true)
    (kk : J Γ nL (HS κ A (hnew σ (.inr (.inr (b, N, fun _ => none))))) (k + 1) (n + N) (pc + 3) lv (.ref σ.2 :: st)) : J Γ nL (HS κ A σ) k n pc lv (.int m :: st) := by
  intro H locs ls hH hS hl
  subst hN
  have hts := E.2.2.2.2.1
  refine W.anew E.1 E.2.1 E.2.2.2.1 (hts _ hw.1) (hts _ hw.2) rfl hd rfl hm (by omega) hk hn fun cA kA comp f1 f2 f3 f4 => ?_
  generalize hH1 : H.push ({ cls := cA, slots := Array.replicate m.toNatClampNeg .null, vm := .none } : Cell) = H1
  have z1 : H1.size = H.size + 1 := by rw [← hH1, Array.size_push]
  have e1 : H1[H.size]? = some (arrV cA m.toNatClampNeg (fun _ => .null)) := by rw [← hH1, Array.getElem?_push_size, ← arrV_new]
  have o1 : ∀ q : Nat, q < H.size → H1[q]? = H[q]? := fun q hq => by rw [← hH1, Array.getElem?_push, if_neg (Nat.ne_of_lt hq)]
  have hcA : cA = kB κ b := by
    cases b
    · obtain ⟨_, _, -, -, -, h4⟩ := (E.2.2.2.2.2.2.2.1.1.2 1 _ rfl).2
      exact Option.some.inj (f1.symm.trans h4)
    · obtain ⟨_, _, -, -, -, h4⟩ := (E.2.2.2.2.2.2.2.1.1.2 2 _ rfl).2
      exact Option.some.inj (f1.symm.trans h4)
  subst hcA
  have hP : HS κ A (hnew σ (.inr (.inr (b, m.toNatClampNeg, fun _ => none)))) H1 := hH.push hκ e1 z1 o1
  rw [hH.1.1]
  exact kk H1 locs ls hP ⟨Nat.le_trans hS.1 (by omega), fun x h1 h2 => (o1 x (Nat.lt_of_lt_of_le h1 hS.1)).trans (hS.2.1 x h1 h2), hS.2.2⟩ hl
end JHEAP
/-- the receiver's class is looked at -/
def ocl {α : Type} (σ : HM) (a c : Nat) (x : Option α) : Option α := if hcls σ a = some c then x else none
theorem ocl_at {α : Type} {σ : HM} {a c : Nat} {x : Option α} {r : α} (h : ocl σ a c x = some r) : hcls σ a = some c ∧ x = some r := by
  unfold ocl at h
  split at h
  · rename_i hc; exact ⟨hc, h⟩
  · cases h
abbrev sP : List Nat := [0, 1, 3, 4, 5, 6, 7, 9]
end
section
/-! CALLS -/
section JCALL
variable {Γ : JC} {κ : KP} {cc : ByteArray} {own : String} {nL : Nat} {ret : Option FieldType} {HP HP1 P P1 : Heap → Prop} {A1 : Nat → Prop} {k n pc idx mc ms : Nat} {lv : List (Nat × Value)} {st rest : List Value} {o : Option Value}
theorem j_run {a : Array Value} (E : JE Γ κ cc own nL ret) (hA1 : ∀ q, A1 q → jA Γ q)
    (hpost : ∀ H H1, HP H → P1 H1 → H.size ≤ H1.size → (∀ q, q < H.size → ¬ A1 q → H1[q]? = H[q]?) → HP1 H1)
    (hr : ∀ (H : Heap) (locs : List Loc) (ls : Array Slot), HP H → va_S (jA Γ) (jS Γ).heap H locs → lv_has ls nL lv → va_Run (jP Γ) (jL Γ) (jE Γ) (jR Γ) (jS Γ) (jM Γ) (jV Γ) (jB Γ) (jT Γ) (jC Γ) H locs k n mc ms (F0 (jM Γ) pc ls st) rest (QQ o P1 A1 a) A1)
    (kk : J Γ nL HP1 (k + mc) (n + ms) (pc + 3) lv (o.toList ++ rest)) : J Γ nL HP k n pc lv st := by
  intro H locs ls hH hS hl T hT X
  obtain ⟨v, st₀, t, T', L, h0, X', hL, e1, e2, ⟨hv, hp, hz, hk⟩, stp⟩ := hr H locs ls hH hS hl T hT X
  cases hv
  rw [h0] at hz hk
  have hS' : va_S (jA Γ) (jS Γ).heap T'.heap (locs ++ L) := ⟨Nat.le_trans hS.1 (by rw [e1]; exact hz), fun q h1 h2 => by rw [e1, hk q (Nat.lt_of_lt_of_le h1 hS.1) (fun z => h2 (hA1 q z))]; exact hS.2.1 q h1 h2, fun q hq => by
      rcases List.mem_append.mp hq with h | h
      · exact hS.2.2 q h
      · exact hA1 _ (hL q h)⟩
  obtain ⟨t2, a1, b1⟩ := kk T'.heap (locs ++ L) ls (hpost H T'.heap hH (by rw [e1]; exact hp) (by rw [e1]; exact hz) (fun q h1 h2 => by rw [e1]; exact hk q h1 h2)) hS' hl T' rfl X'
  exact ⟨t2, stp t2 a1, b1⟩
/-- how much a callee may take: frames and words of locals by its level -/
def rmL (d mc ms : Nat) : Room := { frames := d, cells := mc, slots := ms, locals := 40 * d }
theorem rmL_le {d D mL : Nat} {C S : Nat} (h : d < D) (hm : mL ≤ 21) : (rmL d mc ms).frames + 1 ≤ (rmL D C S).frames ∧ 8 + (mL + 11) + (rmL d mc ms).locals ≤ (rmL D C S).locals := by
  show d + 1 ≤ D ∧ 8 + (mL + 11) + 40 * d ≤ 40 * D
  omega
theorem j_cwords (E : JE Γ κ cc own nL ret) {y : MethodName} {bytes : ByteArray} {maxL N d : Nat} {ret' : Option FieldType} (hR : (rmL d mc ms).frames + 1 ≤ (jR Γ).frames ∧ 8 + (maxL + 11) + (rmL d mc ms).locals ≤ (jR Γ).locals) (hc : Cond.code y bytes maxL ret' ∈ WT) (hi : Cond.initialized y.cls ∈ WT) (hl : Cond.methodLink own idx y ∈ WT)
    (hd : y.cls ≠ "java/lang/invoke/MethodHandle" ∧ y.cls ≠ "java/lang/invoke/VarHandle" ∧ (parseMethodDescriptor y.desc).map (fun d => d.parameters.length) = some N) :
    CallB (jR Γ) (jS Γ) (jV Γ) own idx y bytes maxL ret' (Cond.code y bytes maxL ret' :: WT) (rmL d mc ms) mc ms N :=
  callB_of N E.2.2.2.2.1 (wt_goodIn hc) rfl rfl rfl (E.2.2.2.2.1 _ hi) (E.2.2.2.2.1 _ hl) hd hR
theorem j_fix (E : JE Γ κ cc own nL ret) : CallFix (jP Γ) (jM Γ) (jC Γ) cc nL (jS Γ) (jV Γ) WT own := ⟨E.1, E.2.1, E.2.2.1, E.2.2.2.1, E.2.2.2.2.1⟩
theorem j_start (E : JE Γ κ cc own nL ret) (hA1 : ∀ q, A1 q → jA Γ q) {H : Heap} {locs : List Loc} (hS : va_S (jA Γ) (jS Γ).heap H locs) (hp : P H) {As : List Value} : ∀ U : State, U.heap = H → (jS Γ).WarmedH U.vm → PP κ A1 As P As.toArray U :=
  fun U hU hW => ⟨rfl, by rw [hU]; exact hp, KX_up (KX_go E.2.2.2.2.2.2.2.1 hS hU hW) hA1⟩
/-- the words of a static call -/
def CS (own : String) (idx : Nat) (y : MethodName) (bytes : ByteArray) (maxL N : Nat) (ret' : Option FieldType) : Prop := Cond.code y bytes maxL ret' ∈ WT ∧ Cond.initialized y.cls ∈ WT ∧ Cond.methodLink own idx y ∈ WT ∧ Cond.static y ∈ WT ∧ (y.cls ≠ "java/lang/invoke/MethodHandle" ∧ y.cls ≠ "java/lang/invoke/VarHandle" ∧ (parseMethodDescriptor y.desc).map (fun d => d.parameters.length) = some N)
theorem j_calls {y : MethodName} {bytes : ByteArray} {maxL N d : Nat} {ret' : Option FieldType} (As : List Value) (rest : List Value) (E : JE Γ κ cc own nL ret) (w : CS own idx y bytes maxL N ret') (hR : (rmL d mc ms).frames + 1 ≤ (jR Γ).frames ∧ 8 + (maxL + 11) + (rmL d mc ms).locals ≤ (jR Γ).locals) (hA1 : ∀ q, A1 q → jA Γ q)
    (hM : Met (jL Γ) y (Cond.code y bytes maxL ret' :: WT) (rmL d mc ms) (PP κ A1 As P) (QQ o P1 A1) mc ms A1) (hpre : ∀ H, HP H → P H)
    (hpost : ∀ H H1, HP H → P1 H1 → H.size ≤ H1.size → (∀ q, q < H.size → ¬ A1 q → H1[q]? = H[q]?) → HP1 H1)
    (hst : st = As.reverse ++ rest) (hn : As.length = N) (hcat : (rest.map fun v => v.category).sum ≤ 8) (hd : decode cc pc = .ok (.invokestatic idx, 3)) (hk : k + mc ≤ (jR Γ).cells ∧ n + ms ≤ (jR Γ).slots)
    (kk : J Γ nL HP1 (k + mc) (n + ms) (pc + 3) lv (o.toList ++ rest)) : J Γ nL HP k n pc lv st := by
  refine j_run (a := As.toArray) E hA1 hpost (fun H locs ls hH hS hl => ?_) kk
  exact va_runS (As := As) (rest := rest) (j_fix E) hM ⟨j_cwords E hR w.1 w.2.1 w.2.2.1 w.2.2.2.2, E.2.2.2.2.1 _ w.2.2.2.1⟩ ⟨PP_blind, j_start E hA1 hS (hpre H hH)⟩ rfl hn hl.1 hst (lv_room hcat) hd hk
/-- an object of class number c at a: what calls ask of it -/
theorem j_recv {A : Nat → Prop} {σ : HM} {H : Heap} {a c : Nat} {q : vw_C} (E : JE Γ κ cc own nL ret) (hH : HS κ A σ H) (hc : hcls σ a = some c) (hq : vwCl[c]? = some q) : ∃ cell : Cell, H[a]? = some cell ∧ cell.vm.isStatics = false ∧ (jS Γ).vm.findClass q.1 = some cell.cls := by
  obtain ⟨fs, hfs⟩ := hcls_at hc
  refine va_recv (ws := [(a, .inr (c, fs))]) (q0 := 0) E.2.2.2.2.2.2.2.1.1 (?_ : va_P (kD κ) vwCl [(a, .inr (c, fs))] H) hq rfl
  intro j e hj
  cases j with
  | zero => cases hj; exact (hH.2 a _ hfs).2
  | succ j => simp at hj
/-- the words of a virtual call of a method that the receiver's class itself holds, named through it -/
def CV (own : String) (idx : Nat) (C : String) (y : MethodName) (bytes : ByteArray) (maxL N : Nat) (ret' : Option FieldType) : Prop := Cond.code y bytes maxL ret' ∈ WT ∧ Cond.initialized y.cls ∈ WT ∧ Cond.methodLink own idx y ∈ WT ∧ Cond.instanceMethod y ∈ WT ∧ Cond.selects C y y ∈ WT ∧ (y.cls ≠ "java/lang/invoke/MethodHandle" ∧ y.cls ≠ "java/lang/invoke/VarHandle" ∧ (parseMethodDescriptor y.desc).map (fun d => d.parameters.length) = some N)
theorem j_callv {y : MethodName} {bytes : ByteArray} {maxL N d : Nat} {ret' : Option FieldType} {b : Nat} {C : String} (As : List Value) (rest : List Value) (E : JE Γ κ cc own nL ret) (w : CV own idx C y bytes maxL N ret') (hR : (rmL d mc ms).frames + 1 ≤ (jR Γ).frames ∧ 8 + (maxL + 11) + (rmL d mc ms).locals ≤ (jR Γ).locals) (hA1 : ∀ q, A1 q → jA Γ q)
    (hM : Met (jL Γ) y (Cond.code y bytes maxL ret' :: WT) (rmL d mc ms) (PP κ A1 (.ref b :: As) P) (QQ o P1 A1) mc ms A1) (hpre : ∀ H, HP H → P H)
    (hpost : ∀ H H1, HP H → P1 H1 → H.size ≤ H1.size → (∀ q, q < H.size → ¬ A1 q → H1[q]? = H[q]?) → HP1 H1)
    (hrv : ∀ H, HP H → ∃ cell : Cell, H[b]? = some cell ∧ cell.vm.isStatics = false ∧ (jS Γ).vm.findClass C = some cell.cls)
    (hst : st = As.reverse ++ .ref b :: rest) (hn : As.length = N) (hcat : (rest.map fun v => v.category).sum ≤ 8) (hd : decode cc pc = .ok (.invokevirtual idx, 3)) (hk : k + mc ≤ (jR Γ).cells ∧ n + ms ≤ (jR Γ).slots)
    (kk : J Γ nL HP1 (k + mc) (n + ms) (pc + 3) lv (o.toList ++ rest)) : J Γ nL HP k n pc lv st := by
  refine j_run (a := (Value.ref b :: As).toArray) E hA1 hpost (fun H locs ls hH hS hl => ?_) kk
  exact va_runV (As := As) (rest := rest) (j_fix E) hM ⟨j_cwords E hR w.1 w.2.1 w.2.2.1 w.2.2.2.2.2, E.2.2.2.2.1 _ w.2.2.2.1, E.2.2.2.2.1 _ w.2.2.2.2.1⟩ ⟨PP_blind, hrv H hH, j_start E hA1 hS (hpre H hH)⟩ rfl hn hl.1 hst (lv_room hcat) hd hk
/-- the words of a virtual call of a method x that C inherits or overrides by y -/
def CU (own : String) (idx : Nat) (C owner : String) (x y : MethodName) (bytes : ByteArray) (maxL N : Nat) (ret' : Option FieldType) : Prop := Cond.code y bytes maxL ret' ∈ WT ∧ Cond.initialized y.cls ∈ WT ∧ Cond.methodLink own idx x ∈ WT ∧ Cond.instanceMethod y ∈ WT ∧ Cond.selects C x y ∈ WT ∧ Cond.sameMethod x.cls owner x.name x.desc ∈ WT ∧ Cond.instanceMethod ⟨owner, x.name, x.desc⟩ ∈ WT ∧ (∃ b0 m0 r0, Cond.code ⟨owner, x.name, x.desc⟩ b0 m0 r0 ∈ WT) ∧ (owner ≠ "java/lang/invoke/MethodHandle" ∧ owner ≠ "java/lang/invoke/VarHandle" ∧ (parseMethodDescriptor x.desc).map (fun d => d.parameters.length) = some N)
theorem j_callu {x y : MethodName} {bytes : ByteArray} {maxL N d : Nat} {ret' : Option FieldType} {b : Nat} {C owner : String} (As : List Value) (rest : List Value) (E : JE Γ κ cc own nL ret) (w : CU own idx C owner x y bytes maxL N ret') (hR : (rmL d mc ms).frames + 1 ≤ (jR Γ).frames ∧ 8 + (maxL + 11) + (rmL d mc ms).locals ≤ (jR Γ).locals) (hA1 : ∀ q, A1 q → jA Γ q)
    (hM : Met (jL Γ) y (Cond.code y bytes maxL ret' :: WT) (rmL d mc ms) (PP κ A1 (.ref b :: As) P) (QQ o P1 A1) mc ms A1) (hpre : ∀ H, HP H → P H)
    (hpost : ∀ H H1, HP H → P1 H1 → H.size ≤ H1.size → (∀ q, q < H.size → ¬ A1 q → H1[q]? = H[q]?) → HP1 H1)
    (hrv : ∀ H, HP H → ∃ cell : Cell, H[b]? = some cell ∧ cell.vm.isStatics = false ∧ (jS Γ).vm.findClass C = some cell.cls)
    (hst : st = As.reverse ++ .ref b :: rest) (hn : As.length = N) (hcat : (rest.map fun v => v.category).sum ≤ 8) (hd : decode cc pc = .ok (.invokevirtual idx, 3)) (hk : k + mc ≤ (jR Γ).cells ∧ n + ms ≤ (jR Γ).slots)
    (kk : J Γ nL HP1 (k + mc) (n + ms) (pc + 3) lv (o.toList ++ rest)) : J Γ nL HP k n pc lv st := by
  refine j_run (a := (Value.ref b :: As).toArray) E hA1 hpost (fun H locs ls hH hS hl => ?_) kk
  obtain ⟨w1, w2, w3, w4, w5, w6, w7, ⟨b0, m0, r0, w8⟩, w9, w10, w11⟩ := w
  have ok := E.2.2.2.2.1
  have cu : va_CU (jR Γ) (jS Γ) (jV Γ) own C owner idx x y bytes maxL ret' (Cond.code y bytes maxL ret' :: WT) (rmL d mc ms) mc ms N :=
    ⟨⟨rfl, rfl, hR.1, hR.2, pay_in ok (wt_goodIn w1), List.mem_cons_self⟩, ok _ w1, ok _ w2, ⟨w9, w10⟩, fun sig h => by rw [h] at w11; exact (Option.some.inj w11).symm, ok _ w3, ok _ w6, va_Decl.of (ok _ w7) (ok _ w8), ok _ w5, ok _ w4⟩
  exact va_runU (As := As) (rest := rest) (j_fix E) hM cu ⟨PP_blind, hrv H hH, j_start E hA1 hS (hpre H hH)⟩ rfl hn hl.1 hst (lv_room hcat) hd hk
/-- the words of super.m(..) -/
def CX (own : String) (idx : Nat) (y : MethodName) (bytes : ByteArray) (maxL N : Nat) (ret' : Option FieldType) : Prop := Cond.code y bytes maxL ret' ∈ WT ∧ Cond.initialized y.cls ∈ WT ∧ Cond.methodLink own idx y ∈ WT ∧ Cond.instanceMethod y ∈ WT ∧ Cond.sameMethod y.cls y.cls y.name y.desc ∈ WT ∧ Cond.superclass own y.cls ∈ WT ∧ (y.name ≠ "<init>" ∧ (parseMethodDescriptor y.desc).map (fun d => d.parameters.length) = some N)
theorem j_callx {A : Nat → Prop} {σ : HM} {y : MethodName} {bytes : ByteArray} {maxL N d : Nat} {ret' : Option FieldType} {b : Nat} (As : List Value) (rest : List Value) (E : JE Γ κ cc own nL ret) (w : CX own idx y bytes maxL N ret') (hR : (rmL d mc ms).frames + 1 ≤ (jR Γ).frames ∧ 8 + (maxL + 11) + (rmL d mc ms).locals ≤ (jR Γ).locals) (hA1 : ∀ q, A1 q → jA Γ q)
    (hM : Met (jL Γ) y (Cond.code y bytes maxL ret' :: WT) (rmL d mc ms) (PP κ A1 (.ref b :: As) (HS κ A σ)) (QQ o P1 A1) mc ms A1) {c : Nat} (hcl : hcls σ b = some c) (hcv : c < 12)
    (hpost : ∀ H H1, HS κ A σ H → P1 H1 → H.size ≤ H1.size → (∀ q, q < H.size → ¬ A1 q → H1[q]? = H[q]?) → HP1 H1)
    (hst : st = As.reverse ++ .ref b :: rest) (hn : As.length = N) (hcat : (rest.map fun v => v.category).sum ≤ 8) (hd : decode cc pc = .ok (.invokespecial idx, 3)) (hk : k + mc ≤ (jR Γ).cells ∧ n + ms ≤ (jR Γ).slots)
    (kk : J Γ nL HP1 (k + mc) (n + ms) (pc + 3) lv (o.toList ++ rest)) : J Γ nL (HS κ A σ) k n pc lv st := by
  refine j_run (a := (Value.ref b :: As).toArray) E hA1 hpost (fun H locs ls hH hS hl => ?_) kk
  obtain ⟨w1, w2, w3, w4, w5, w6, w7, w8⟩ := w
  have ok := E.2.2.2.2.1
  obtain ⟨q, hq⟩ : ∃ q, vwCl[c]? = some q := ⟨_, List.getElem?_eq_getElem (l := vwCl) hcv⟩
  have cs : va_CS (jR Γ) (jS Γ) (jV Γ) own idx y bytes maxL ret' (Cond.code y bytes maxL ret' :: WT) (rmL d mc ms) mc ms N :=
    ⟨⟨rfl, rfl, hR.1, hR.2, pay_in ok (wt_goodIn w1), List.mem_cons_self⟩, ok _ w3, ok _ w5, ok _ w6, ok _ w4, ok _ w2, ok _ w1, w7, fun sig h => by rw [h] at w8; exact (Option.some.inj w8).symm⟩
  exact va_runSU (C := q.1) (As := As) (rest := rest) (E.2.2.2.2.2.2.2.1.1.1 c q hq).2 (j_fix E) hM cs ⟨PP_blind, j_recv E hH hcl hq, j_start E hA1 hS hH⟩ rfl hn hl.1 hst (lv_room hcat) hd hk
/-- the words of a constructor's call -/
def CI (own : String) (idx : Nat) (y : MethodName) (bytes : ByteArray) (maxL N : Nat) : Prop := Cond.code y bytes maxL none ∈ WT ∧ Cond.initialized y.cls ∈ WT ∧ Cond.methodLink own idx y ∈ WT ∧ Cond.instanceMethod y ∈ WT ∧ y.name = "<init>" ∧ (y.cls ≠ "java/lang/invoke/MethodHandle" ∧ y.cls ≠ "java/lang/invoke/VarHandle" ∧ (parseMethodDescriptor y.desc).map (fun d => d.parameters.length) = some N)
theorem j_calli {y : MethodName} {bytes : ByteArray} {maxL N d : Nat} {b : Nat} (As : List Value) (rest : List Value) (E : JE Γ κ cc own nL ret) (w : CI own idx y bytes maxL N) (hR : (rmL d mc ms).frames + 1 ≤ (jR Γ).frames ∧ 8 + (maxL + 11) + (rmL d mc ms).locals ≤ (jR Γ).locals) (hA1 : ∀ q, A1 q → jA Γ q)
    (hM : Met (jL Γ) y (Cond.code y bytes maxL none :: WT) (rmL d mc ms) (PP κ A1 (.ref b :: As) P) (QQ none P1 A1) mc ms A1) (hpre : ∀ H, HP H → P H)
    (hpost : ∀ H H1, HP H → P1 H1 → H.size ≤ H1.size → (∀ q, q < H.size → ¬ A1 q → H1[q]? = H[q]?) → HP1 H1)
    (hst : st = As.reverse ++ .ref b :: rest) (hn : As.length = N) (hcat : (rest.map fun v => v.category).sum ≤ 8) (hd : decode cc pc = .ok (.invokespecial idx, 3)) (hk : k + mc ≤ (jR Γ).cells ∧ n + ms ≤ (jR Γ).slots)
    (kk : J Γ nL HP1 (k + mc) (n + ms) (pc + 3) lv rest) : J Γ nL HP k n pc lv st := by
  refine j_run (a := (Value.ref b :: As).toArray) (o := none) E hA1 hpost (fun H locs ls hH hS hl => ?_) kk
  exact va_runI (As := As) (rest := rest) (j_fix E) hM ⟨j_cwords E hR w.1 w.2.1 w.2.2.1 w.2.2.2.2.2, w.2.2.2.2.1, E.2.2.2.2.1 _ w.2.2.2.1⟩ ⟨PP_blind, j_start E hA1 hS (hpre H hH)⟩ rfl hn hl.1 hst (lv_room hcat) hd hk
/-- Object.<init> -/
theorem j_obj {b : Nat} (E : JE Γ κ cc own nL ret) (hw : Cond.methodLink own idx objectInit ∈ WT ∧ Cond.instanceMethod objectInit ∈ WT ∧ Cond.code objectInit ⟨#[0xb1]⟩ 1 none ∈ WT) (hd : decode cc pc = .ok (.invokespecial idx, 3)) (hf : 1 ≤ (jR Γ).frames) (hlo : (rest.map fun v => v.category).sum + 12 ≤ (jR Γ).locals) (kk : J Γ nL HP k n (pc + 3) lv rest) : J Γ nL HP k n pc lv (.ref b :: rest) := by
  intro H locs ls hH hS hl
  refine W.objInit E.1 E.2.1 E.2.2.2.1 (E.2.2.2.2.1 _ hw.1) (E.2.2.2.2.1 _ hw.2.1) (E.2.2.2.2.1 _ hw.2.2) rfl (by rw [E.2.2.1]; exact hl.1) rfl hd hf ?_ (kk H locs ls hH hS hl)
  show 2 * 0 + _ + 12 ≤ _
  omega
end JCALL
end
section
/-! System.arraycopy over the map (after the kit's va_copyi, va_copyq) -/
theorem cp_nn (z : Int32) (hz0 : 0 ≤ z.toInt) : z.toInt = (z.toNatClampNeg : Int) := by
  show z.toInt = ((z.toInt.toNat : Nat) : Int)
  omega
theorem cp_n0 (z : Int32) (hz0 : 0 ≤ z.toInt) : ¬ z < 0 := by
  intro h
  have := Int32.lt_iff_toInt_lt.mp h
  simp at this
  omega
def CC (own : String) (idx : Nat) : Prop := Cond.methodLink own idx arraycopyName ∈ WT ∧ Cond.native arraycopyName ∈ WT ∧ Cond.static arraycopyName ∈ WT ∧ Cond.initialized "java/lang/System" ∈ WT
section JCOPY
variable {Γ : JC} {κ : KP} {cc : ByteArray} {own : String} {nL : Nat} {ret : Option FieldType} {A : Nat → Prop} {σ σ' : HM} {k n pc idx a a0 : Nat} {lv : List (Nat × Value)} {rest : List Value} {sp dp m : Int32}
theorem hcpi_at (h : hcpi σ a0 sp a dp m = some σ') : ∃ x y, σ.1 a0 = some (.inr (.inl x)) ∧ σ.1 a = some (.inr (.inl y)) ∧ 0 ≤ sp.toInt ∧ 0 ≤ dp.toInt ∧ 0 ≤ m.toInt ∧ sp.toNatClampNeg + m.toNatClampNeg ≤ x.1 ∧ dp.toNatClampNeg + m.toNatClampNeg ≤ y.1 ∧ σ' = hset σ a (.inr (.inl (y.1, va_cpy x.2 y.2 sp.toNatClampNeg dp.toNatClampNeg m.toNatClampNeg))) := by
  unfold hcpi at h
  split at h
  · rename_i x y hx hy
    split at h
    · rename_i hc
      simp only [Bool.and_eq_true, decide_eq_true_eq] at hc
      obtain ⟨⟨⟨⟨h1, h2⟩, h3⟩, h4⟩, h5⟩ := hc
      exact ⟨x, y, hia_at hx, hia_at hy, h1, h2, h3, h4, h5, (Option.some.inj h).symm⟩
    · cases h
  · cases h
theorem hcpr_at (h : hcpr σ a0 sp a dp m = some σ') : ∃ x y, σ.1 a0 = some (.inr (.inr x)) ∧ σ.1 a = some (.inr (.inr y)) ∧ 0 ≤ sp.toInt ∧ 0 ≤ dp.toInt ∧ 0 ≤ m.toInt ∧ sp.toNatClampNeg + m.toNatClampNeg ≤ x.2.1 ∧ dp.toNatClampNeg + m.toNatClampNeg ≤ y.2.1 ∧ (∀ i, i < m.toNatClampNeg → hok σ y.1 (x.2.2 (sp.toNatClampNeg + i)) = true) ∧ σ' = hset σ a (.inr (.inr (y.1, y.2.1, va_cpy x.2.2 y.2.2 sp.toNatClampNeg dp.toNatClampNeg m.toNatClampNeg))) := by
  unfold hcpr at h
  split at h
  · rename_i x y hx hy
    split at h
    · rename_i hc
      simp only [Bool.and_eq_true, decide_eq_true_eq, List.all_eq_true, List.mem_range] at hc
      obtain ⟨⟨⟨⟨⟨h1, h2⟩, h3⟩, h4⟩, h5⟩, h6⟩ := hc
      exact ⟨x, y, hra_at hx, hra_at hy, h1, h2, h3, h4, h5, h6, (Option.some.inj h).symm⟩
    · cases h
  · cases h
set_option maxHeartbeats 1000000 in
theorem j_cpi (E : JE Γ κ cc own nL ret) (w : CC own idx) (hd : decode cc pc = .ok (.invokestatic idx, 3)) (hv : hcpi σ a0 sp a dp m = some σ') (hAA : ∀ q, A q → jA Γ q) (hfr : 1 ≤ (jR Γ).frames) (hlo : (rest.map fun v => v.category).sum + (nativeFrameWords "java/lang/System" "arraycopy" 5 + 11) ≤ (jR Γ).locals) (kk : J Γ nL (HS κ A σ') k n (pc + 3) lv rest) : J Γ nL (HS κ A σ) k n pc lv (.int m :: .int dp :: .ref a :: .int sp :: .ref a0 :: rest) := by
  obtain ⟨⟨n0, f⟩, ⟨n1, g⟩, x1, x2, s1, s2, s3, h4, h5, rfl⟩ := hcpi_at hv
  intro H locs ls hH hS hl T hT X
  have hK := E.2.2.2.2.2.2.2.1.1
  have ok := E.2.2.2.2.1
  have hc0 : H[a0]? = some (vp_cell (kI κ) (n0, .inl f)) := (hH.2 a0 _ x1).2
  have hc1 : H[a]? = some (vp_cell (kI κ) (n1, .inl g)) := (hH.2 a _ x2).2
  obtain ⟨-, k0, hk0, cm0, hkk0⟩ := (hK.2 0 _ rfl).1 n0 (fun j => .int (f j))
  obtain ⟨-, k1, hk1, cm1, hkk1⟩ := (hK.2 0 _ rfl).1 n1 (fun j => .int (g j))
  obtain ⟨vm', X', step⟩ := X.arraycopy E.1 E.2.2.2.1 (ok _ w.1) (ok _ w.2.1) (ok _ w.2.2.1) (ok _ w.2.2.2) (src := a0) (dst := a) (cs := vp_cell (kI κ) (n0, .inl f)) (cd := vp_cell (kI κ) (n1, .inl g)) (srcPos := sp) (destPos := dp) (n := m) (by rw [hT]; exact hc0) (by rw [hT]; exact hc1)
    (fun _ h => by cases h) (fun _ h => by cases h) (fun h => by cases h) (fun h => by cases h) hk0 hk1 hkk0 hkk1 (by rfl) (cp_n0 sp s1) (cp_n0 dp s2) (cp_n0 m s3)
    (by rw [cp_nn sp s1, cp_nn m s3]; show ¬ _ > ((arrV (kI κ) n0 (fun j => .int (f j))).slots.size : Int); rw [arrV_size]; simp only at h4; omega)
    (by rw [cp_nn dp s2, cp_nn m s3]; show ¬ _ > ((arrV (kI κ) n1 (fun j => .int (g j))).slots.size : Int); rw [arrV_size]; simp only at h5; omega)
    (fun vm₁ _ i hi => by
      have e : (vp_cell (kI κ) (n0, .inl f)).slots.getD (sp.toNatClampNeg + i) .null = .int (f (sp.toNatClampNeg + i)) := by
        show (arrV (kI κ) n0 (fun j => .int (f j))).slots.getD _ _ = _
        rw [Array.getD_eq_getD_getElem?, arrV_read _ _ (by simp only at h4; omega)]
        rfl
      refine ⟨?_, ?_⟩
      · rw [e]; rfl
      · rw [e]; exact trivial)
    (g := F0 (jM Γ) pc ls (.int m :: .int dp :: .ref a :: .int sp :: .ref a0 :: rest)) rfl (by rw [E.2.2.1]; exact hl.1) (rest := rest) rfl (by rw [E.2.1]; exact hd) hfr (by show 2 * 0 + _ + _ ≤ _; omega)
  have e1 : copied (vp_cell (kI κ) (n0, .inl f)) (vp_cell (kI κ) (n1, .inl g)) sp dp m = vp_cell (kI κ) (n1, .inl (va_cpy f g sp.toNatClampNeg dp.toNatClampNeg m.toNatClampNeg)) := va_copied (fun z => .int z) (kI κ) (kI κ) f g h4
  rw [e1] at X' step
  have hla : a < H.size := (Array.getElem?_eq_some_iff.mp hc1).1
  have hheap : ((T.setVm vm').setCell a (vp_cell (kI κ) (n1, .inl (va_cpy f g sp.toNatClampNeg dp.toNatClampNeg m.toNatClampNeg)))).heap = H.setIfInBounds a (vp_cell (kI κ) (n1, .inl (va_cpy f g sp.toNatClampNeg dp.toNatClampNeg m.toNatClampNeg))) := by rw [← hT]; rfl
  have oq : ∀ q : Nat, q ≠ a → (H.setIfInBounds a (vp_cell (kI κ) (n1, .inl (va_cpy f g sp.toNatClampNeg dp.toNatClampNeg m.toNatClampNeg))))[q]? = H[q]? := fun q hq => by simp [Array.getElem?_setIfInBounds, Ne.symm hq]
  have hAa : jA Γ a := hAA a (hH.2 a _ x2).1
  obtain ⟨t, a1, b1⟩ := kk _ _ ls (hH.put x2 (show (H.setIfInBounds a _)[a]? = some _ by simp [Array.getElem?_setIfInBounds, hla]) (by simp) oq) ⟨by simp; exact hS.1, fun q g1 g2 => by
      rw [oq q (fun e => g2 (by rw [e]; exact hAa))]
      exact hS.2.1 q g1 g2, fun q hq => by
      rcases List.mem_append.mp hq with h | h
      · exact hS.2.2 q h
      · obtain ⟨z, -, hz⟩ := List.mem_map.mp h
        rw [← hz]
        exact hAa⟩ hl _ hheap X'
  exact ⟨t, step t a1, b1⟩
theorem hok_at {b : Bool} {r : Option Nat} (h : hok σ b r = true) : ∀ y, r = some y → ∃ c fs, σ.1 y = some (.inl (c, fs)) ∧ c ∈ rS b := by
  intro y hy
  subst hy
  unfold hok at h
  simp only at h
  split at h
  · rename_i c hc
    obtain ⟨fs, hfs⟩ := hcls_at hc
    exact ⟨c, fs, hfs, by simpa using h⟩
  · cases h
set_option maxHeartbeats 1000000 in
theorem j_cpr (E : JE Γ κ cc own nL ret) (hRA : ∀ b, RA b) (w : CC own idx) (hd : decode cc pc = .ok (.invokestatic idx, 3)) (hv : hcpr σ a0 sp a dp m = some σ') (hAA : ∀ q, A q → jA Γ q) (hfr : 1 ≤ (jR Γ).frames) (hlo : (rest.map fun v => v.category).sum + (nativeFrameWords "java/lang/System" "arraycopy" 5 + 11) ≤ (jR Γ).locals) (kk : J Γ nL (HS κ A σ') k n (pc + 3) lv rest) : J Γ nL (HS κ A σ) k n pc lv (.int m :: .int dp :: .ref a :: .int sp :: .ref a0 :: rest) := by
  obtain ⟨⟨b0, n0, f⟩, ⟨b, n1, g⟩, x1, x2, s1, s2, s3, h4, h5, h6, rfl⟩ := hcpr_at hv
  intro H locs ls hH hS hl T hT X
  have hK := E.2.2.2.2.2.2.2.1.1
  have ok := E.2.2.2.2.1
  have hc0 : H[a0]? = some (vp_cell (kB κ b0) (n0, .inr (.inr (.inr (.inr f))))) := (hH.2 a0 _ x1).2
  have hc1 : H[a]? = some (vp_cell (kB κ b) (n1, .inr (.inr (.inr (.inr g))))) := (hH.2 a _ x2).2
  have ht1 := kT_at κ b
  obtain ⟨-, k0, hk0, cm0, hkk0⟩ := (hK.2 _ _ (kT_at κ b0)).1 n0 (fun j => va_rf (f j))
  obtain ⟨-, k1, hk1, cm1, hkk1⟩ := (hK.2 _ _ ht1).1 n1 (fun j => va_rf (g j))
  obtain ⟨vm', X', step⟩ := X.arraycopy E.1 E.2.2.2.1 (ok _ w.1) (ok _ w.2.1) (ok _ w.2.2.1) (ok _ w.2.2.2) (src := a0) (dst := a) (cs := vp_cell (kB κ b0) (n0, .inr (.inr (.inr (.inr f))))) (cd := vp_cell (kB κ b) (n1, .inr (.inr (.inr (.inr g))))) (srcPos := sp) (destPos := dp) (n := m) (by rw [hT]; exact hc0) (by rw [hT]; exact hc1)
    (fun _ h => by cases h) (fun _ h => by cases h) (fun h => by cases h) (fun h => by cases h) hk0 hk1 hkk0 hkk1 rfl (cp_n0 sp s1) (cp_n0 dp s2) (cp_n0 m s3)
    (by rw [cp_nn sp s1, cp_nn m s3]; show ¬ _ > ((arrV (kB κ b0) n0 (fun j => va_rf (f j))).slots.size : Int); rw [arrV_size]; simp only at h4; omega)
    (by rw [cp_nn dp s2, cp_nn m s3]; show ¬ _ > ((arrV (kB κ b) n1 (fun j => va_rf (g j))).slots.size : Int); rw [arrV_size]; simp only at h5; omega)
    (fun vm₁ hal i hi => by
      have e : (vp_cell (kB κ b0) (n0, .inr (.inr (.inr (.inr f))))).slots.getD (sp.toNatClampNeg + i) .null = va_rf (f (sp.toNatClampNeg + i)) := by
        show (arrV (kB κ b0) n0 (fun j => va_rf (f j))).slots.getD _ _ = _
        rw [Array.getD_eq_getD_getElem?, arrV_read _ _ (by simp only at h4; omega)]
        rfl
      rw [e]
      cases hy : f (sp.toNatClampNeg + i) with
      | none => exact ⟨rfl, trivial⟩
      | some y =>
        obtain ⟨c, fs, hyc, hcS⟩ := hok_at (h6 i hi) y hy
        obtain ⟨kA, comp, r1, r2, r3, -⟩ := (hK.2 _ _ ht1).2
        cases hk1.symm.trans r1
        cases hkk1.symm.trans r2
        obtain ⟨q, hq, hqc, ⟨kC, hkC⟩, hasg⟩ := j_assign E (hRA b) hcS r3
        obtain ⟨r', hr', cellV, g1, g2, g3, -⟩ := (hH.2 y _ hyc).2
        obtain ⟨kE, hkE, -⟩ := Vm.findClass_spec r3
        obtain ⟨kC', hkC', -⟩ := hal.2.2 _ _ hkC
        obtain ⟨kE', hkE', -⟩ := hal.2.2 _ _ hkE
        refine ⟨rfl, cellV, (show T.heap[y]? = some cellV by rw [hT]; exact g1), (fun q h => by rw [h] at g3; cases g3), ⟨kC', by rw [g2]; exact hkC'⟩, ?_, ?_⟩
        · exact ⟨kE', hkE'⟩
        · show vm₁.assignable _ _ = true
          rw [hal.assignable, g2]
          exact hasg)
    (g := F0 (jM Γ) pc ls (.int m :: .int dp :: .ref a :: .int sp :: .ref a0 :: rest)) rfl (by rw [E.2.2.1]; exact hl.1) (rest := rest) rfl (by rw [E.2.1]; exact hd) hfr (by show 2 * 0 + _ + _ ≤ _; omega)
  have e1 : copied (vp_cell (kB κ b0) (n0, .inr (.inr (.inr (.inr f))))) (vp_cell (kB κ b) (n1, .inr (.inr (.inr (.inr g))))) sp dp m = vp_cell (kB κ b) (n1, .inr (.inr (.inr (.inr (va_cpy f g sp.toNatClampNeg dp.toNatClampNeg m.toNatClampNeg))))) := by
    rw [vp_cell_q, vp_cell_q, vp_cell_q]
    exact va_copied (fun z => va_rf z) _ _ f g h4
  rw [e1] at X' step
  have hla : a < H.size := (Array.getElem?_eq_some_iff.mp hc1).1
  have hheap : ((T.setVm vm').setCell a (vp_cell (kB κ b) (n1, .inr (.inr (.inr (.inr (va_cpy f g sp.toNatClampNeg dp.toNatClampNeg m.toNatClampNeg))))))).heap = H.setIfInBounds a (vp_cell (kB κ b) (n1, .inr (.inr (.inr (.inr (va_cpy f g sp.toNatClampNeg dp.toNatClampNeg m.toNatClampNeg)))))) := by rw [← hT]; rfl
  have oq : ∀ q : Nat, q ≠ a → (H.setIfInBounds a (vp_cell (kB κ b) (n1, .inr (.inr (.inr (.inr (va_cpy f g sp.toNatClampNeg dp.toNatClampNeg m.toNatClampNeg)))))))[q]? = H[q]? := fun q hq => by simp [Array.getElem?_setIfInBounds, Ne.symm hq]
  have hAa : jA Γ a := hAA a (hH.2 a _ x2).1
  obtain ⟨t, a1, b1⟩ := kk _ _ ls (hH.put x2 (show (H.setIfInBounds a _)[a]? = some _ by simp [Array.getElem?_setIfInBounds, hla]) (by simp) oq) ⟨by simp; exact hS.1, fun q g1 g2 => by
      rw [oq q (fun e => g2 (by rw [e]; exact hAa))]
      exact hS.2.1 q g1 g2, fun q hq => by
      rcases List.mem_append.mp hq with h | h
      · exact hS.2.2 q h
      · obtain ⟨z, -, hz⟩ := List.mem_map.mp h
        rw [← hz]
        exact hAa⟩ hl _ hheap X'
  exact ⟨t, step t a1, b1⟩
end JCOPY
end
