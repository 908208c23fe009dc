-- ===== PART A: goes FIRST, ahead of the names: the tables' words, and 'selects' of the private methods out of them =====
/-- a private method of a class that the tables say can be made, by its rows of tables_1 -/
def lw_okq (q : MethodName × Nat) : Prop := (q.1.cls ≠ "java/lang/invoke/MethodHandle" ∧ q.1.cls ≠ "java/lang/invoke/VarHandle") ∧ Cond.instantiable q.1.cls q.2 ∈ tables_1 ∧ Cond.privateMethod q.1 ∈ tables_1 ∧ Cond.instanceMethod q.1 ∈ tables_1
theorem lw_p0 : lw_okq (⟨"OneBeatsBoth", "bytesOn", "(I)LOneBeatsBoth$Row;"⟩, 8) := ⟨⟨by decide +kernel, by decide +kernel⟩, List.mem_of_getElem? (i := 22) (by decide +kernel), List.mem_of_getElem? (i := 104) (by decide +kernel), List.mem_of_getElem? (i := 105) (by decide +kernel)⟩
theorem lw_p1 : lw_okq (⟨"OneBeatsBoth", "rowOn", "(I)LOneBeatsBoth$Row;"⟩, 8) := ⟨⟨by decide +kernel, by decide +kernel⟩, List.mem_of_getElem? (i := 22) (by decide +kernel), List.mem_of_getElem? (i := 108) (by decide +kernel), List.mem_of_getElem? (i := 109) (by decide +kernel)⟩
theorem lw_p2 : lw_okq (⟨"OneBeatsBoth", "whyNotOn", "(I)I"⟩, 8) := ⟨⟨by decide +kernel, by decide +kernel⟩, List.mem_of_getElem? (i := 22) (by decide +kernel), List.mem_of_getElem? (i := 115) (by decide +kernel), List.mem_of_getElem? (i := 116) (by decide +kernel)⟩
theorem lw_p3 : lw_okq (⟨"OneBeatsBoth", "isBare", "(I)Z"⟩, 8) := ⟨⟨by decide +kernel, by decide +kernel⟩, List.mem_of_getElem? (i := 22) (by decide +kernel), List.mem_of_getElem? (i := 119) (by decide +kernel), List.mem_of_getElem? (i := 120) (by decide +kernel)⟩
theorem lw_p4 : lw_okq (⟨"OneBeatsBoth", "personOn", "(I)LOneBeatsBoth$Player;"⟩, 8) := ⟨⟨by decide +kernel, by decide +kernel⟩, List.mem_of_getElem? (i := 22) (by decide +kernel), List.mem_of_getElem? (i := 123) (by decide +kernel), List.mem_of_getElem? (i := 124) (by decide +kernel)⟩
theorem lw_p5 : lw_okq (⟨"OneBeatsBoth", "draftFollows", "(III)Z"⟩, 8) := ⟨⟨by decide +kernel, by decide +kernel⟩, List.mem_of_getElem? (i := 22) (by decide +kernel), List.mem_of_getElem? (i := 149) (by decide +kernel), List.mem_of_getElem? (i := 150) (by decide +kernel)⟩
theorem lw_p6 : lw_okq (⟨"OneBeatsBoth$League", "eachHasMaster", "()Z"⟩, 4) := ⟨⟨by decide +kernel, by decide +kernel⟩, List.mem_of_getElem? (i := 47) (by decide +kernel), List.mem_of_getElem? (i := 383) (by decide +kernel), List.mem_of_getElem? (i := 384) (by decide +kernel)⟩
theorem lw_p7 : lw_okq (⟨"OneBeatsBoth", "lawfulTurns", "()I"⟩, 8) := ⟨⟨by decide +kernel, by decide +kernel⟩, List.mem_of_getElem? (i := 22) (by decide +kernel), List.mem_of_getElem? (i := 418) (by decide +kernel), List.mem_of_getElem? (i := 419) (by decide +kernel)⟩
theorem lw_p8 : lw_okq (⟨"OneBeatsBoth", "clearTold", "()V"⟩, 8) := ⟨⟨by decide +kernel, by decide +kernel⟩, List.mem_of_getElem? (i := 22) (by decide +kernel), List.mem_of_getElem? (i := 500) (by decide +kernel), List.mem_of_getElem? (i := 501) (by decide +kernel)⟩
theorem lw_p9 : lw_okq (⟨"OneBeatsBoth", "lawfulWaysAsTold", "()I"⟩, 8) := ⟨⟨by decide +kernel, by decide +kernel⟩, List.mem_of_getElem? (i := 22) (by decide +kernel), List.mem_of_getElem? (i := 504) (by decide +kernel), List.mem_of_getElem? (i := 505) (by decide +kernel)⟩
theorem lw_p10 : lw_okq (⟨"java/lang/Throwable", "fillInStackTrace", "(I)Ljava/lang/Throwable;"⟩, 6) := ⟨⟨by decide +kernel, by decide +kernel⟩, List.mem_of_getElem? (i := 670) (by decide +kernel), List.mem_of_getElem? (i := 668) (by decide +kernel), List.mem_of_getElem? (i := 669) (by decide +kernel)⟩
theorem lw_p11 : lw_okq (⟨"OneBeatsBothModel", "wrongRow", "(II)I"⟩, 19) := ⟨⟨by decide +kernel, by decide +kernel⟩, List.mem_of_getElem? (i := 754) (by decide +kernel), List.mem_of_getElem? (i := 826) (by decide +kernel), List.mem_of_getElem? (i := 827) (by decide +kernel)⟩
theorem lw_p12 : lw_okq (⟨"OneBeatsBothModel", "readsStatement", "()Z"⟩, 19) := ⟨⟨by decide +kernel, by decide +kernel⟩, List.mem_of_getElem? (i := 754) (by decide +kernel), List.mem_of_getElem? (i := 837) (by decide +kernel), List.mem_of_getElem? (i := 838) (by decide +kernel)⟩
theorem lw_p13 : lw_okq (⟨"OneBeatsBothModel", "here", "()I"⟩, 19) := ⟨⟨by decide +kernel, by decide +kernel⟩, List.mem_of_getElem? (i := 754) (by decide +kernel), List.mem_of_getElem? (i := 841) (by decide +kernel), List.mem_of_getElem? (i := 842) (by decide +kernel)⟩
theorem lw_p14 : lw_okq (⟨"OneBeatsBothModel", "readsDigits", "(I)Z"⟩, 19) := ⟨⟨by decide +kernel, by decide +kernel⟩, List.mem_of_getElem? (i := 754) (by decide +kernel), List.mem_of_getElem? (i := 845) (by decide +kernel), List.mem_of_getElem? (i := 846) (by decide +kernel)⟩
theorem lw_p15 : lw_okq (⟨"OneBeatsBothModel", "comesTold", "(I)Z"⟩, 19) := ⟨⟨by decide +kernel, by decide +kernel⟩, List.mem_of_getElem? (i := 754) (by decide +kernel), List.mem_of_getElem? (i := 854) (by decide +kernel), List.mem_of_getElem? (i := 855) (by decide +kernel)⟩
def lw_privs_1 : List (MethodName × Nat) := [(⟨"OneBeatsBoth", "bytesOn", "(I)LOneBeatsBoth$Row;"⟩, 8), (⟨"OneBeatsBoth", "rowOn", "(I)LOneBeatsBoth$Row;"⟩, 8), (⟨"OneBeatsBoth", "whyNotOn", "(I)I"⟩, 8), (⟨"OneBeatsBoth", "isBare", "(I)Z"⟩, 8), (⟨"OneBeatsBoth", "personOn", "(I)LOneBeatsBoth$Player;"⟩, 8), (⟨"OneBeatsBoth", "draftFollows", "(III)Z"⟩, 8), (⟨"OneBeatsBoth$League", "eachHasMaster", "()Z"⟩, 4), (⟨"OneBeatsBoth", "lawfulTurns", "()I"⟩, 8), (⟨"OneBeatsBoth", "clearTold", "()V"⟩, 8), (⟨"OneBeatsBoth", "lawfulWaysAsTold", "()I"⟩, 8), (⟨"java/lang/Throwable", "fillInStackTrace", "(I)Ljava/lang/Throwable;"⟩, 6), (⟨"OneBeatsBothModel", "wrongRow", "(II)I"⟩, 19), (⟨"OneBeatsBothModel", "readsStatement", "()Z"⟩, 19), (⟨"OneBeatsBothModel", "here", "()I"⟩, 19), (⟨"OneBeatsBothModel", "readsDigits", "(I)Z"⟩, 19), (⟨"OneBeatsBothModel", "comesTold", "(I)Z"⟩, 19)]
theorem lw_r1 : ∀ q ∈ lw_privs_1, lw_okq q := List.forall_mem_cons.mpr ⟨lw_p0, List.forall_mem_cons.mpr ⟨lw_p1, List.forall_mem_cons.mpr ⟨lw_p2, List.forall_mem_cons.mpr ⟨lw_p3, List.forall_mem_cons.mpr ⟨lw_p4, List.forall_mem_cons.mpr ⟨lw_p5, List.forall_mem_cons.mpr ⟨lw_p6, List.forall_mem_cons.mpr ⟨lw_p7, List.forall_mem_cons.mpr ⟨lw_p8, List.forall_mem_cons.mpr ⟨lw_p9, List.forall_mem_cons.mpr ⟨lw_p10, List.forall_mem_cons.mpr ⟨lw_p11, List.forall_mem_cons.mpr ⟨lw_p12, List.forall_mem_cons.mpr ⟨lw_p13, List.forall_mem_cons.mpr ⟨lw_p14, List.forall_mem_cons.mpr ⟨lw_p15, fun _ h => absurd h List.not_mem_nil⟩⟩⟩⟩⟩⟩⟩⟩⟩⟩⟩⟩⟩⟩⟩⟩
theorem lw_p16 : lw_okq (⟨"OneBeatsBothModel", "adds", "(II)Z"⟩, 19) := ⟨⟨by decide +kernel, by decide +kernel⟩, List.mem_of_getElem? (i := 754) (by decide +kernel), List.mem_of_getElem? (i := 858) (by decide +kernel), List.mem_of_getElem? (i := 859) (by decide +kernel)⟩
theorem lw_p17 : lw_okq (⟨"OneBeatsBothModel", "joins", "(II)V"⟩, 19) := ⟨⟨by decide +kernel, by decide +kernel⟩, List.mem_of_getElem? (i := 754) (by decide +kernel), List.mem_of_getElem? (i := 862) (by decide +kernel), List.mem_of_getElem? (i := 863) (by decide +kernel)⟩
theorem lw_p18 : lw_okq (⟨"OneBeatsBothModel", "puts", "(III)V"⟩, 19) := ⟨⟨by decide +kernel, by decide +kernel⟩, List.mem_of_getElem? (i := 754) (by decide +kernel), List.mem_of_getElem? (i := 866) (by decide +kernel), List.mem_of_getElem? (i := 867) (by decide +kernel)⟩
theorem lw_p19 : lw_okq (⟨"OneBeatsBothModel", "beaten", "(I)I"⟩, 19) := ⟨⟨by decide +kernel, by decide +kernel⟩, List.mem_of_getElem? (i := 754) (by decide +kernel), List.mem_of_getElem? (i := 870) (by decide +kernel), List.mem_of_getElem? (i := 871) (by decide +kernel)⟩
theorem lw_p20 : lw_okq (⟨"OneBeatsBothModel", "areTwo", "(II)Z"⟩, 19) := ⟨⟨by decide +kernel, by decide +kernel⟩, List.mem_of_getElem? (i := 754) (by decide +kernel), List.mem_of_getElem? (i := 874) (by decide +kernel), List.mem_of_getElem? (i := 875) (by decide +kernel)⟩
theorem lw_p21 : lw_okq (⟨"OneBeatsBothModel", "isOne", "(I)Z"⟩, 19) := ⟨⟨by decide +kernel, by decide +kernel⟩, List.mem_of_getElem? (i := 754) (by decide +kernel), List.mem_of_getElem? (i := 878) (by decide +kernel), List.mem_of_getElem? (i := 879) (by decide +kernel)⟩
theorem lw_p22 : lw_okq (⟨"OneBeatsBothModel", "beats", "(II)V"⟩, 19) := ⟨⟨by decide +kernel, by decide +kernel⟩, List.mem_of_getElem? (i := 754) (by decide +kernel), List.mem_of_getElem? (i := 882) (by decide +kernel), List.mem_of_getElem? (i := 883) (by decide +kernel)⟩
theorem lw_p23 : lw_okq (⟨"OneBeatsBothModel", "leaves", "(I)V"⟩, 19) := ⟨⟨by decide +kernel, by decide +kernel⟩, List.mem_of_getElem? (i := 754) (by decide +kernel), List.mem_of_getElem? (i := 890) (by decide +kernel), List.mem_of_getElem? (i := 891) (by decide +kernel)⟩
theorem lw_p24 : lw_okq (⟨"OneBeatsBothModel", "kind", "(I)I"⟩, 19) := ⟨⟨by decide +kernel, by decide +kernel⟩, List.mem_of_getElem? (i := 754) (by decide +kernel), List.mem_of_getElem? (i := 898) (by decide +kernel), List.mem_of_getElem? (i := 899) (by decide +kernel)⟩
theorem lw_p25 : lw_okq (⟨"OneBeatsBothModel", "figure", "(I)I"⟩, 19) := ⟨⟨by decide +kernel, by decide +kernel⟩, List.mem_of_getElem? (i := 754) (by decide +kernel), List.mem_of_getElem? (i := 902) (by decide +kernel), List.mem_of_getElem? (i := 903) (by decide +kernel)⟩
theorem lw_p26 : lw_okq (⟨"OneBeatsBothModel", "skill", "(I)I"⟩, 19) := ⟨⟨by decide +kernel, by decide +kernel⟩, List.mem_of_getElem? (i := 754) (by decide +kernel), List.mem_of_getElem? (i := 906) (by decide +kernel), List.mem_of_getElem? (i := 907) (by decide +kernel)⟩
theorem lw_p27 : lw_okq (⟨"OneBeatsBothModel", "counts", "(I)Z"⟩, 19) := ⟨⟨by decide +kernel, by decide +kernel⟩, List.mem_of_getElem? (i := 754) (by decide +kernel), List.mem_of_getElem? (i := 913) (by decide +kernel), List.mem_of_getElem? (i := 914) (by decide +kernel)⟩
theorem lw_p28 : lw_okq (⟨"OneBeatsBothModel", "wrongKept", "(I)I"⟩, 19) := ⟨⟨by decide +kernel, by decide +kernel⟩, List.mem_of_getElem? (i := 754) (by decide +kernel), List.mem_of_getElem? (i := 927) (by decide +kernel), List.mem_of_getElem? (i := 928) (by decide +kernel)⟩
theorem lw_p29 : lw_okq (⟨"OneBeatsBothModel", "isLawful", "()Z"⟩, 19) := ⟨⟨by decide +kernel, by decide +kernel⟩, List.mem_of_getElem? (i := 754) (by decide +kernel), List.mem_of_getElem? (i := 943) (by decide +kernel), List.mem_of_getElem? (i := 944) (by decide +kernel)⟩
theorem lw_p30 : lw_okq (⟨"OneBeatsBothModel", "mastersOf", "(I)I"⟩, 19) := ⟨⟨by decide +kernel, by decide +kernel⟩, List.mem_of_getElem? (i := 754) (by decide +kernel), List.mem_of_getElem? (i := 947) (by decide +kernel), List.mem_of_getElem? (i := 948) (by decide +kernel)⟩
theorem lw_p31 : lw_okq (⟨"OneBeatsBothModel", "turnedTo", "(Z)I"⟩, 19) := ⟨⟨by decide +kernel, by decide +kernel⟩, List.mem_of_getElem? (i := 754) (by decide +kernel), List.mem_of_getElem? (i := 963) (by decide +kernel), List.mem_of_getElem? (i := 964) (by decide +kernel)⟩
def lw_privs_2 : List (MethodName × Nat) := [(⟨"OneBeatsBothModel", "adds", "(II)Z"⟩, 19), (⟨"OneBeatsBothModel", "joins", "(II)V"⟩, 19), (⟨"OneBeatsBothModel", "puts", "(III)V"⟩, 19), (⟨"OneBeatsBothModel", "beaten", "(I)I"⟩, 19), (⟨"OneBeatsBothModel", "areTwo", "(II)Z"⟩, 19), (⟨"OneBeatsBothModel", "isOne", "(I)Z"⟩, 19), (⟨"OneBeatsBothModel", "beats", "(II)V"⟩, 19), (⟨"OneBeatsBothModel", "leaves", "(I)V"⟩, 19), (⟨"OneBeatsBothModel", "kind", "(I)I"⟩, 19), (⟨"OneBeatsBothModel", "figure", "(I)I"⟩, 19), (⟨"OneBeatsBothModel", "skill", "(I)I"⟩, 19), (⟨"OneBeatsBothModel", "counts", "(I)Z"⟩, 19), (⟨"OneBeatsBothModel", "wrongKept", "(I)I"⟩, 19), (⟨"OneBeatsBothModel", "isLawful", "()Z"⟩, 19), (⟨"OneBeatsBothModel", "mastersOf", "(I)I"⟩, 19), (⟨"OneBeatsBothModel", "turnedTo", "(Z)I"⟩, 19)]
theorem lw_r2 : ∀ q ∈ lw_privs_2, lw_okq q := List.forall_mem_cons.mpr ⟨lw_p16, List.forall_mem_cons.mpr ⟨lw_p17, List.forall_mem_cons.mpr ⟨lw_p18, List.forall_mem_cons.mpr ⟨lw_p19, List.forall_mem_cons.mpr ⟨lw_p20, List.forall_mem_cons.mpr ⟨lw_p21, List.forall_mem_cons.mpr ⟨lw_p22, List.forall_mem_cons.mpr ⟨lw_p23, List.forall_mem_cons.mpr ⟨lw_p24, List.forall_mem_cons.mpr ⟨lw_p25, List.forall_mem_cons.mpr ⟨lw_p26, List.forall_mem_cons.mpr ⟨lw_p27, List.forall_mem_cons.mpr ⟨lw_p28, List.forall_mem_cons.mpr ⟨lw_p29, List.forall_mem_cons.mpr ⟨lw_p30, List.forall_mem_cons.mpr ⟨lw_p31, fun _ h => absurd h List.not_mem_nil⟩⟩⟩⟩⟩⟩⟩⟩⟩⟩⟩⟩⟩⟩⟩⟩
theorem lw_p32 : lw_okq (⟨"OneBeatsBothModel", "turns", "(II)V"⟩, 19) := ⟨⟨by decide +kernel, by decide +kernel⟩, List.mem_of_getElem? (i := 754) (by decide +kernel), List.mem_of_getElem? (i := 967) (by decide +kernel), List.mem_of_getElem? (i := 968) (by decide +kernel)⟩
theorem lw_p33 : lw_okq (⟨"OneBeatsBothModel", "putsRight", "()V"⟩, 19) := ⟨⟨by decide +kernel, by decide +kernel⟩, List.mem_of_getElem? (i := 754) (by decide +kernel), List.mem_of_getElem? (i := 987) (by decide +kernel), List.mem_of_getElem? (i := 988) (by decide +kernel)⟩
theorem lw_p34 : lw_okq (⟨"OneBeatsBothModel", "tries", "(III)V"⟩, 19) := ⟨⟨by decide +kernel, by decide +kernel⟩, List.mem_of_getElem? (i := 754) (by decide +kernel), List.mem_of_getElem? (i := 991) (by decide +kernel), List.mem_of_getElem? (i := 992) (by decide +kernel)⟩
theorem lw_p35 : lw_okq (⟨"OneBeatsBothModel", "begins", "()V"⟩, 19) := ⟨⟨by decide +kernel, by decide +kernel⟩, List.mem_of_getElem? (i := 754) (by decide +kernel), List.mem_of_getElem? (i := 1004) (by decide +kernel), List.mem_of_getElem? (i := 1005) (by decide +kernel)⟩
theorem lw_p36 : lw_okq (⟨"OneBeatsBothModel", "ends", "()V"⟩, 19) := ⟨⟨by decide +kernel, by decide +kernel⟩, List.mem_of_getElem? (i := 754) (by decide +kernel), List.mem_of_getElem? (i := 1008) (by decide +kernel), List.mem_of_getElem? (i := 1009) (by decide +kernel)⟩
theorem lw_p37 : lw_okq (⟨"OneBeatsBothModel", "matches", "()I"⟩, 19) := ⟨⟨by decide +kernel, by decide +kernel⟩, List.mem_of_getElem? (i := 754) (by decide +kernel), List.mem_of_getElem? (i := 1022) (by decide +kernel), List.mem_of_getElem? (i := 1023) (by decide +kernel)⟩
theorem lw_p38 : lw_okq (⟨"OneBeatsBothModel", "plays", "(I)V"⟩, 19) := ⟨⟨by decide +kernel, by decide +kernel⟩, List.mem_of_getElem? (i := 754) (by decide +kernel), List.mem_of_getElem? (i := 1026) (by decide +kernel), List.mem_of_getElem? (i := 1027) (by decide +kernel)⟩
theorem lw_p39 : lw_okq (⟨"OneBeatsBothModel", "weightNow", "()J"⟩, 19) := ⟨⟨by decide +kernel, by decide +kernel⟩, List.mem_of_getElem? (i := 754) (by decide +kernel), List.mem_of_getElem? (i := 1030) (by decide +kernel), List.mem_of_getElem? (i := 1031) (by decide +kernel)⟩
theorem lw_p40 : lw_okq (⟨"OneBeatsBothModel", "told", "(II)I"⟩, 19) := ⟨⟨by decide +kernel, by decide +kernel⟩, List.mem_of_getElem? (i := 754) (by decide +kernel), List.mem_of_getElem? (i := 1068) (by decide +kernel), List.mem_of_getElem? (i := 1069) (by decide +kernel)⟩
theorem lw_p41 : lw_okq (⟨"OneBeatsBothModel", "isAsPlayed", "(I)Z"⟩, 19) := ⟨⟨by decide +kernel, by decide +kernel⟩, List.mem_of_getElem? (i := 754) (by decide +kernel), List.mem_of_getElem? (i := 1072) (by decide +kernel), List.mem_of_getElem? (i := 1073) (by decide +kernel)⟩
theorem lw_p42 : lw_okq (⟨"OneBeatsBothModel", "drawn", "(I)I"⟩, 19) := ⟨⟨by decide +kernel, by decide +kernel⟩, List.mem_of_getElem? (i := 754) (by decide +kernel), List.mem_of_getElem? (i := 1081) (by decide +kernel), List.mem_of_getElem? (i := 1082) (by decide +kernel)⟩
theorem lw_p43 : lw_okq (⟨"OneBeatsBothModel", "wrongThree", "(II)I"⟩, 19) := ⟨⟨by decide +kernel, by decide +kernel⟩, List.mem_of_getElem? (i := 754) (by decide +kernel), List.mem_of_getElem? (i := 1092) (by decide +kernel), List.mem_of_getElem? (i := 1093) (by decide +kernel)⟩
def lw_privs_3 : List (MethodName × Nat) := [(⟨"OneBeatsBothModel", "turns", "(II)V"⟩, 19), (⟨"OneBeatsBothModel", "putsRight", "()V"⟩, 19), (⟨"OneBeatsBothModel", "tries", "(III)V"⟩, 19), (⟨"OneBeatsBothModel", "begins", "()V"⟩, 19), (⟨"OneBeatsBothModel", "ends", "()V"⟩, 19), (⟨"OneBeatsBothModel", "matches", "()I"⟩, 19), (⟨"OneBeatsBothModel", "plays", "(I)V"⟩, 19), (⟨"OneBeatsBothModel", "weightNow", "()J"⟩, 19), (⟨"OneBeatsBothModel", "told", "(II)I"⟩, 19), (⟨"OneBeatsBothModel", "isAsPlayed", "(I)Z"⟩, 19), (⟨"OneBeatsBothModel", "drawn", "(I)I"⟩, 19), (⟨"OneBeatsBothModel", "wrongThree", "(II)I"⟩, 19)]
theorem lw_r3 : ∀ q ∈ lw_privs_3, lw_okq q := List.forall_mem_cons.mpr ⟨lw_p32, List.forall_mem_cons.mpr ⟨lw_p33, List.forall_mem_cons.mpr ⟨lw_p34, List.forall_mem_cons.mpr ⟨lw_p35, List.forall_mem_cons.mpr ⟨lw_p36, List.forall_mem_cons.mpr ⟨lw_p37, List.forall_mem_cons.mpr ⟨lw_p38, List.forall_mem_cons.mpr ⟨lw_p39, List.forall_mem_cons.mpr ⟨lw_p40, List.forall_mem_cons.mpr ⟨lw_p41, List.forall_mem_cons.mpr ⟨lw_p42, List.forall_mem_cons.mpr ⟨lw_p43, fun _ h => absurd h List.not_mem_nil⟩⟩⟩⟩⟩⟩⟩⟩⟩⟩⟩⟩
def lw_privs : List (MethodName × Nat) := lw_privs_1 ++ (lw_privs_2 ++ (lw_privs_3))
def lw_tbl : List Cond := k2_sels lw_privs ++ tables_1
theorem lw_privs_ok : ∀ q ∈ lw_privs, lw_okq q := by
  show ∀ q ∈ lw_privs_1 ++ (lw_privs_2 ++ (lw_privs_3)), lw_okq q
  exact List.forall_mem_append.mpr ⟨lw_r1, List.forall_mem_append.mpr ⟨lw_r2, lw_r3⟩⟩
-- ===== end of PART A; then your names; then what follows =====
/-! ===== BEGIN printed: names, fields, word lists, decode rows ===== -/
def RX0 : String := "OneBeatsBoth$Champion"
def TX0 : u_T := fun k => match k with
  | _ => ("OneBeatsBoth$Player", "figure", "I", true)
def tyX0 : Nat → FieldType := fun k => match k with
  | _ => .int
abbrev wsX00 : List Cond := u_ws RX0 TX0 1
theorem nmX0 : ∀ a, a < 1 → ∀ b, b < 1 → a ≠ b → (TX0 a).2.1 ≠ (TX0 b).2.1 := by decide +kernel
theorem tyX0_ok : ∀ k, k < 1 → parseFieldDescriptor (TX0 k).2.2.1 = some (tyX0 k) := by decide +kernel
abbrev cX0_init : ByteArray := prog_2_method_1_code
def yX0_init : MethodName := ⟨RX0, "<init>", "(I)V"⟩
abbrev cX0_kind : ByteArray := prog_2_method_2_code
def yX0_kind : MethodName := ⟨RX0, "kind", "()I"⟩
abbrev cX0_skill : ByteArray := prog_2_method_3_code
def yX0_skill : MethodName := ⟨RX0, "skill", "()I"⟩
abbrev cX0_cost : ByteArray := prog_2_method_4_code
def yX0_cost : MethodName := ⟨RX0, "cost", "()I"⟩
def RX1 : String := "OneBeatsBoth$Guest"
def TX1 : u_T := fun k => match k with
  | _ => ("OneBeatsBoth$Player", "figure", "I", true)
def tyX1 : Nat → FieldType := fun k => match k with
  | _ => .int
abbrev wsX10 : List Cond := u_ws RX1 TX1 1
theorem nmX1 : ∀ a, a < 1 → ∀ b, b < 1 → a ≠ b → (TX1 a).2.1 ≠ (TX1 b).2.1 := by decide +kernel
theorem tyX1_ok : ∀ k, k < 1 → parseFieldDescriptor (TX1 k).2.2.1 = some (tyX1 k) := by decide +kernel
abbrev cX1_init : ByteArray := prog_3_method_1_code
def yX1_init : MethodName := ⟨RX1, "<init>", "(I)V"⟩
abbrev cX1_kind : ByteArray := prog_3_method_2_code
def yX1_kind : MethodName := ⟨RX1, "kind", "()I"⟩
abbrev cX1_skill : ByteArray := prog_3_method_3_code
def yX1_skill : MethodName := ⟨RX1, "skill", "()I"⟩
abbrev cX1_cost : ByteArray := prog_3_method_4_code
def yX1_cost : MethodName := ⟨RX1, "cost", "()I"⟩
def RX2 : String := "OneBeatsBoth$League"
def TX2 : u_T := fun k => match k with
  | 0 => ("OneBeatsBoth$League", "people", "[LOneBeatsBoth$Player;", true)
  | 1 => ("OneBeatsBoth$League", "beaten", "[I", true)
  | 2 => ("OneBeatsBoth$League", "size", "I", false)
  | _ => ("OneBeatsBoth$League", "law", "I", false)
def tyX2 : Nat → FieldType := fun k => match k with
  | 0 => .array (.object "OneBeatsBoth$Player")
  | 1 => .array .int
  | 2 => .int
  | _ => .int
abbrev wsX20 : List Cond := u_ws RX2 TX2 4
theorem nmX2 : ∀ a, a < 4 → ∀ b, b < 4 → a ≠ b → (TX2 a).2.1 ≠ (TX2 b).2.1 := by decide +kernel
theorem tyX2_ok : ∀ k, k < 4 → parseFieldDescriptor (TX2 k).2.2.1 = some (tyX2 k) := by decide +kernel
abbrev cX2_init : ByteArray := prog_4_method_1_code
def yX2_init : MethodName := ⟨RX2, "<init>", "(LOneBeatsBoth$Player;)V"⟩
abbrev cX2_become : ByteArray := prog_4_method_2_code
def yX2_become : MethodName := ⟨RX2, "become", "(LOneBeatsBoth$League;)V"⟩
abbrev cX2_has : ByteArray := prog_4_method_3_code
def yX2_has : MethodName := ⟨RX2, "has", "(I)Z"⟩
abbrev cX2_hasBoth : ByteArray := prog_4_method_4_code
def yX2_hasBoth : MethodName := ⟨RX2, "hasBoth", "(II)Z"⟩
abbrev cX2_hasBeaten : ByteArray := prog_4_method_5_code
def yX2_hasBeaten : MethodName := ⟨RX2, "hasBeaten", "(II)Z"⟩
abbrev cX2_seat : ByteArray := prog_4_method_6_code
def yX2_seat : MethodName := ⟨RX2, "seat", "(LOneBeatsBoth$Player;)V"⟩
abbrev cX2_unseat : ByteArray := prog_4_method_7_code
def yX2_unseat : MethodName := ⟨RX2, "unseat", "(I)V"⟩
abbrev cX2_win : ByteArray := prog_4_method_8_code
def yX2_win : MethodName := ⟨RX2, "win", "(II)V"⟩
abbrev cX2_matches : ByteArray := prog_4_method_9_code
def yX2_matches : MethodName := ⟨RX2, "matches", "()I"⟩
abbrev cX2_turn : ByteArray := prog_4_method_10_code
def yX2_turn : MethodName := ⟨RX2, "turn", "(I)V"⟩
abbrev cX2_costOfTurn : ByteArray := prog_4_method_11_code
def yX2_costOfTurn : MethodName := ⟨RX2, "costOfTurn", "(I)I"⟩
abbrev cX2_play : ByteArray := prog_4_method_12_code
def yX2_play : MethodName := ⟨RX2, "play", "(I)V"⟩
abbrev cX2_playSeason : ByteArray := prog_4_method_13_code
def yX2_playSeason : MethodName := ⟨RX2, "playSeason", "(I)I"⟩
abbrev cX2_drawBelow : ByteArray := prog_4_method_14_code
def yX2_drawBelow : MethodName := ⟨RX2, "drawBelow", "(II)I"⟩
abbrev cX2_newcomerBeats : ByteArray := prog_4_method_15_code
def yX2_newcomerBeats : MethodName := ⟨RX2, "newcomerBeats", "(II)V"⟩
abbrev cX2_weight : ByteArray := prog_4_method_16_code
def yX2_weight : MethodName := ⟨RX2, "weight", "()J"⟩
abbrev cX2_isAsTold : ByteArray := prog_4_method_17_code
def yX2_isAsTold : MethodName := ⟨RX2, "isAsTold", "([I)Z"⟩
abbrev cX2_counting : ByteArray := prog_4_method_18_code
def yX2_counting : MethodName := ⟨RX2, "counting", "()I"⟩
abbrev cX2_mastersAmong : ByteArray := prog_4_method_19_code
def yX2_mastersAmong : MethodName := ⟨RX2, "mastersAmong", "(III)I"⟩
abbrev cX2_isLawful : ByteArray := prog_4_method_20_code
def yX2_isLawful : MethodName := ⟨RX2, "isLawful", "()Z"⟩
abbrev cX2_eachHasMaster : ByteArray := prog_4_method_21_code
def yX2_eachHasMaster : MethodName := ⟨RX2, "eachHasMaster", "()Z"⟩
abbrev cX2_firstOrphanPair : ByteArray := prog_4_method_22_code
def yX2_firstOrphanPair : MethodName := ⟨RX2, "firstOrphanPair", "()I"⟩
abbrev cX2_orphanPairs : ByteArray := prog_4_method_23_code
def yX2_orphanPairs : MethodName := ⟨RX2, "orphanPairs", "()I"⟩
abbrev cX2_isRing : ByteArray := prog_4_method_24_code
def yX2_isRing : MethodName := ⟨RX2, "isRing", "(III)Z"⟩
abbrev cX2_allCosts : ByteArray := prog_4_method_25_code
def yX2_allCosts : MethodName := ⟨RX2, "allCosts", "()I"⟩
abbrev cX2_wrongOfThree : ByteArray := prog_4_method_26_code
def yX2_wrongOfThree : MethodName := ⟨RX2, "wrongOfThree", "(III)I"⟩
def RX3 : String := "OneBeatsBoth$Novice"
def TX3 : u_T := fun k => match k with
  | _ => ("OneBeatsBoth$Player", "figure", "I", true)
def tyX3 : Nat → FieldType := fun k => match k with
  | _ => .int
abbrev wsX30 : List Cond := u_ws RX3 TX3 1
theorem nmX3 : ∀ a, a < 1 → ∀ b, b < 1 → a ≠ b → (TX3 a).2.1 ≠ (TX3 b).2.1 := by decide +kernel
theorem tyX3_ok : ∀ k, k < 1 → parseFieldDescriptor (TX3 k).2.2.1 = some (tyX3 k) := by decide +kernel
abbrev cX3_init : ByteArray := prog_5_method_1_code
def yX3_init : MethodName := ⟨RX3, "<init>", "(I)V"⟩
abbrev cX3_kind : ByteArray := prog_5_method_2_code
def yX3_kind : MethodName := ⟨RX3, "kind", "()I"⟩
abbrev cX3_skill : ByteArray := prog_5_method_3_code
def yX3_skill : MethodName := ⟨RX3, "skill", "()I"⟩
abbrev cX3_countsWith : ByteArray := prog_5_method_4_code
def yX3_countsWith : MethodName := ⟨RX3, "countsWith", "(I)Z"⟩
abbrev cX3_cost : ByteArray := prog_5_method_5_code
def yX3_cost : MethodName := ⟨RX3, "cost", "()I"⟩
abbrev cX3_fail : ByteArray := prog_5_method_6_code
def yX3_fail : MethodName := ⟨RX3, "fail", "()V"⟩
def RX4 : String := "OneBeatsBoth$Nuisance"
def TX4 : u_T := fun k => match k with
  | _ => ("OneBeatsBoth$Player", "figure", "I", true)
def tyX4 : Nat → FieldType := fun k => match k with
  | _ => .int
abbrev wsX40 : List Cond := u_ws RX4 TX4 1
theorem nmX4 : ∀ a, a < 1 → ∀ b, b < 1 → a ≠ b → (TX4 a).2.1 ≠ (TX4 b).2.1 := by decide +kernel
theorem tyX4_ok : ∀ k, k < 1 → parseFieldDescriptor (TX4 k).2.2.1 = some (tyX4 k) := by decide +kernel
abbrev cX4_init : ByteArray := prog_6_method_1_code
def yX4_init : MethodName := ⟨RX4, "<init>", "(I)V"⟩
abbrev cX4_kind : ByteArray := prog_6_method_2_code
def yX4_kind : MethodName := ⟨RX4, "kind", "()I"⟩
abbrev cX4_skill : ByteArray := prog_6_method_3_code
def yX4_skill : MethodName := ⟨RX4, "skill", "()I"⟩
abbrev cX4_countsWith : ByteArray := prog_6_method_4_code
def yX4_countsWith : MethodName := ⟨RX4, "countsWith", "(I)Z"⟩
abbrev cX4_cost : ByteArray := prog_6_method_5_code
def yX4_cost : MethodName := ⟨RX4, "cost", "()I"⟩
def RX5 : String := "OneBeatsBoth$Paid"
def TX5 : u_T := fun k => match k with
  | _ => ("OneBeatsBoth$Player", "figure", "I", true)
def tyX5 : Nat → FieldType := fun k => match k with
  | _ => .int
abbrev wsX50 : List Cond := u_ws RX5 TX5 1
theorem nmX5 : ∀ a, a < 1 → ∀ b, b < 1 → a ≠ b → (TX5 a).2.1 ≠ (TX5 b).2.1 := by decide +kernel
theorem tyX5_ok : ∀ k, k < 1 → parseFieldDescriptor (TX5 k).2.2.1 = some (tyX5 k) := by decide +kernel
abbrev cX5_init : ByteArray := prog_7_method_1_code
def yX5_init : MethodName := ⟨RX5, "<init>", "(I)V"⟩
abbrev cX5_kind : ByteArray := prog_7_method_2_code
def yX5_kind : MethodName := ⟨RX5, "kind", "()I"⟩
abbrev cX5_cost : ByteArray := prog_7_method_3_code
def yX5_cost : MethodName := ⟨RX5, "cost", "()I"⟩
abbrev cX5_fail : ByteArray := prog_7_method_4_code
def yX5_fail : MethodName := ⟨RX5, "fail", "()V"⟩
def RX6 : String := "OneBeatsBoth$Player"
def TX6 : u_T := fun k => match k with
  | _ => ("OneBeatsBoth$Player", "figure", "I", true)
def tyX6 : Nat → FieldType := fun k => match k with
  | _ => .int
abbrev wsX60 : List Cond := u_ws RX6 TX6 1
theorem nmX6 : ∀ a, a < 1 → ∀ b, b < 1 → a ≠ b → (TX6 a).2.1 ≠ (TX6 b).2.1 := by decide +kernel
theorem tyX6_ok : ∀ k, k < 1 → parseFieldDescriptor (TX6 k).2.2.1 = some (tyX6 k) := by decide +kernel
abbrev cX6_init : ByteArray := prog_8_method_1_code
def yX6_init : MethodName := ⟨RX6, "<init>", "(I)V"⟩
abbrev cX6_kind : ByteArray := prog_8_method_2_code
def yX6_kind : MethodName := ⟨RX6, "kind", "()I"⟩
abbrev cX6_skill : ByteArray := prog_8_method_3_code
def yX6_skill : MethodName := ⟨RX6, "skill", "()I"⟩
abbrev cX6_countsWith : ByteArray := prog_8_method_4_code
def yX6_countsWith : MethodName := ⟨RX6, "countsWith", "(I)Z"⟩
abbrev cX6_cost : ByteArray := prog_8_method_5_code
def yX6_cost : MethodName := ⟨RX6, "cost", "()I"⟩
abbrev cX6_fail : ByteArray := prog_8_method_6_code
def yX6_fail : MethodName := ⟨RX6, "fail", "()V"⟩
def RX7 : String := "OneBeatsBoth$Priest"
def TX7 : u_T := fun k => match k with
  | _ => ("OneBeatsBoth$Player", "figure", "I", true)
def tyX7 : Nat → FieldType := fun k => match k with
  | _ => .int
abbrev wsX70 : List Cond := u_ws RX7 TX7 1
theorem nmX7 : ∀ a, a < 1 → ∀ b, b < 1 → a ≠ b → (TX7 a).2.1 ≠ (TX7 b).2.1 := by decide +kernel
theorem tyX7_ok : ∀ k, k < 1 → parseFieldDescriptor (TX7 k).2.2.1 = some (tyX7 k) := by decide +kernel
abbrev cX7_init : ByteArray := prog_9_method_1_code
def yX7_init : MethodName := ⟨RX7, "<init>", "(I)V"⟩
abbrev cX7_kind : ByteArray := prog_9_method_2_code
def yX7_kind : MethodName := ⟨RX7, "kind", "()I"⟩
abbrev cX7_countsWith : ByteArray := prog_9_method_3_code
def yX7_countsWith : MethodName := ⟨RX7, "countsWith", "(I)Z"⟩
abbrev cX7_cost : ByteArray := prog_9_method_4_code
def yX7_cost : MethodName := ⟨RX7, "cost", "()I"⟩
abbrev cX7_fail : ByteArray := prog_9_method_5_code
def yX7_fail : MethodName := ⟨RX7, "fail", "()V"⟩
def RX8 : String := "OneBeatsBoth$Row"
def TX8 : u_T := fun k => match k with
  | 0 => ("OneBeatsBoth$Row", "sort", "I", true)
  | _ => ("OneBeatsBoth$Row", "cells", "[I", true)
def tyX8 : Nat → FieldType := fun k => match k with
  | 0 => .int
  | _ => .array .int
abbrev wsX80 : List Cond := u_ws RX8 TX8 2
theorem nmX8 : ∀ a, a < 2 → ∀ b, b < 2 → a ≠ b → (TX8 a).2.1 ≠ (TX8 b).2.1 := by decide +kernel
theorem tyX8_ok : ∀ k, k < 2 → parseFieldDescriptor (TX8 k).2.2.1 = some (tyX8 k) := by decide +kernel
abbrev cX8_init : ByteArray := prog_10_method_1_code
def yX8_init : MethodName := ⟨RX8, "<init>", "(I[I)V"⟩
abbrev cX8_size : ByteArray := prog_10_method_2_code
def yX8_size : MethodName := ⟨RX8, "size", "()I"⟩
abbrev cX8_hasPlaces : ByteArray := prog_10_method_3_code
def yX8_hasPlaces : MethodName := ⟨RX8, "hasPlaces", "(II)Z"⟩
abbrev cX8_at : ByteArray := prog_10_method_4_code
def yX8_at : MethodName := ⟨RX8, "at", "(I)I"⟩
abbrev cX8_change : ByteArray := prog_10_method_5_code
def yX8_change : MethodName := ⟨RX8, "change", "(II)V"⟩
def RX9 : String := "OneBeatsBoth$Twin"
def TX9 : u_T := fun k => match k with
  | _ => ("OneBeatsBoth$Player", "figure", "I", true)
def tyX9 : Nat → FieldType := fun k => match k with
  | _ => .int
abbrev wsX90 : List Cond := u_ws RX9 TX9 1
theorem nmX9 : ∀ a, a < 1 → ∀ b, b < 1 → a ≠ b → (TX9 a).2.1 ≠ (TX9 b).2.1 := by decide +kernel
theorem tyX9_ok : ∀ k, k < 1 → parseFieldDescriptor (TX9 k).2.2.1 = some (tyX9 k) := by decide +kernel
abbrev cX9_init : ByteArray := prog_11_method_1_code
def yX9_init : MethodName := ⟨RX9, "<init>", "(I)V"⟩
abbrev cX9_kind : ByteArray := prog_11_method_2_code
def yX9_kind : MethodName := ⟨RX9, "kind", "()I"⟩
abbrev cX9_skill : ByteArray := prog_11_method_3_code
def yX9_skill : MethodName := ⟨RX9, "skill", "()I"⟩
abbrev cX9_countsWith : ByteArray := prog_11_method_4_code
def yX9_countsWith : MethodName := ⟨RX9, "countsWith", "(I)Z"⟩
abbrev cX9_cost : ByteArray := prog_11_method_5_code
def yX9_cost : MethodName := ⟨RX9, "cost", "()I"⟩
def RX10 : String := "OneBeatsBoth"
def TX10 : u_T := fun k => match k with
  | 0 => ("OneBeatsBoth", "plain", "LOneBeatsBoth$Player;", true)
  | 1 => ("OneBeatsBoth", "now", "LOneBeatsBoth$League;", true)
  | 2 => ("OneBeatsBoth", "draft", "LOneBeatsBoth$League;", true)
  | 3 => ("OneBeatsBoth", "pictured", "LOneBeatsBoth$League;", true)
  | 4 => ("OneBeatsBoth", "hasImage", "Z", false)
  | 5 => ("OneBeatsBoth", "peopleOnShelves", "[LOneBeatsBoth$Player;", true)
  | 6 => ("OneBeatsBoth", "rowsOnShelves", "[LOneBeatsBoth$Row;", true)
  | _ => ("OneBeatsBoth", "told", "[I", true)
def tyX10 : Nat → FieldType := fun k => match k with
  | 0 => .object "OneBeatsBoth$Player"
  | 1 => .object "OneBeatsBoth$League"
  | 2 => .object "OneBeatsBoth$League"
  | 3 => .object "OneBeatsBoth$League"
  | 4 => .boolean
  | 5 => .array (.object "OneBeatsBoth$Player")
  | 6 => .array (.object "OneBeatsBoth$Row")
  | _ => .array .int
abbrev wsX100 : List Cond := u_ws RX10 TX10 8
theorem nmX10 : ∀ a, a < 8 → ∀ b, b < 8 → a ≠ b → (TX10 a).2.1 ≠ (TX10 b).2.1 := by decide +kernel
theorem tyX10_ok : ∀ k, k < 8 → parseFieldDescriptor (TX10 k).2.2.1 = some (tyX10 k) := by decide +kernel
abbrev cX10_init : ByteArray := prog_1_method_1_code
def yX10_init : MethodName := ⟨RX10, "<init>", "()V"⟩
abbrev cX10_league : ByteArray := prog_1_method_2_code
def yX10_league : MethodName := ⟨RX10, "league", "(I)I"⟩
abbrev cX10_one : ByteArray := prog_1_method_3_code
def yX10_one : MethodName := ⟨RX10, "one", "(II)I"⟩
abbrev cX10_comes : ByteArray := prog_1_method_4_code
def yX10_comes : MethodName := ⟨RX10, "comes", "(I)I"⟩
abbrev cX10_beat : ByteArray := prog_1_method_5_code
def yX10_beat : MethodName := ⟨RX10, "beat", "(II)I"⟩
abbrev cX10_law : ByteArray := prog_1_method_6_code
def yX10_law : MethodName := ⟨RX10, "law", "(I)I"⟩
abbrev cX10_lawful : ByteArray := prog_1_method_7_code
def yX10_lawful : MethodName := ⟨RX10, "lawful", "()I"⟩
abbrev cX10_masters : ByteArray := prog_1_method_8_code
def yX10_masters : MethodName := ⟨RX10, "masters", "(II)I"⟩
abbrev cX10_orphans : ByteArray := prog_1_method_9_code
def yX10_orphans : MethodName := ⟨RX10, "orphans", "(I)I"⟩
abbrev cX10_holding : ByteArray := prog_1_method_10_code
def yX10_holding : MethodName := ⟨RX10, "holding", "()I"⟩
abbrev cX10_free : ByteArray := prog_1_method_11_code
def yX10_free : MethodName := ⟨RX10, "free", "()I"⟩
abbrev cX10_rings : ByteArray := prog_1_method_12_code
def yX10_rings : MethodName := ⟨RX10, "rings", "()I"⟩
abbrev cX10_cup : ByteArray := prog_1_method_13_code
def yX10_cup : MethodName := ⟨RX10, "cup", "()I"⟩
abbrev cX10_right : ByteArray := prog_1_method_14_code
def yX10_right : MethodName := ⟨RX10, "right", "()I"⟩
abbrev cX10_cheapest : ByteArray := prog_1_method_15_code
def yX10_cheapest : MethodName := ⟨RX10, "cheapest", "()I"⟩
abbrev cX10_fresh : ByteArray := prog_1_method_16_code
def yX10_fresh : MethodName := ⟨RX10, "fresh", "(III)I"⟩
abbrev cX10_leavers : ByteArray := prog_1_method_17_code
def yX10_leavers : MethodName := ⟨RX10, "leavers", "()I"⟩
abbrev cX10_odds : ByteArray := prog_1_method_18_code
def yX10_odds : MethodName := ⟨RX10, "odds", "(I)J"⟩
abbrev cX10_ways : ByteArray := prog_1_method_19_code
def yX10_ways : MethodName := ⟨RX10, "ways", "(II)I"⟩
abbrev cX10_round : ByteArray := prog_1_method_20_code
def yX10_round : MethodName := ⟨RX10, "round", "(III)I"⟩
abbrev cX10_byRounds : ByteArray := prog_1_method_21_code
def yX10_byRounds : MethodName := ⟨RX10, "byRounds", "(II)I"⟩
abbrev cX10_played : ByteArray := prog_1_method_22_code
def yX10_played : MethodName := ⟨RX10, "played", "(I)I"⟩
abbrev cX10_seeded : ByteArray := prog_1_method_23_code
def yX10_seeded : MethodName := ⟨RX10, "seeded", "(II)I"⟩
abbrev cX10_judge : ByteArray := prog_1_method_24_code
def yX10_judge : MethodName := ⟨RX10, "judge", "(I)I"⟩
abbrev cX10_image : ByteArray := prog_1_method_25_code
def yX10_image : MethodName := ⟨RX10, "image", "()I"⟩
abbrev cX10_restore : ByteArray := prog_1_method_26_code
def yX10_restore : MethodName := ⟨RX10, "restore", "()I"⟩
abbrev cX10_count : ByteArray := prog_1_method_27_code
def yX10_count : MethodName := ⟨RX10, "count", "(I)I"⟩
abbrev cX10_keep : ByteArray := prog_1_method_28_code
def yX10_keep : MethodName := ⟨RX10, "keep", "(IIII)I"⟩
abbrev cX10_row : ByteArray := prog_1_method_29_code
def yX10_row : MethodName := ⟨RX10, "row", "(III)I"⟩
abbrev cX10_put : ByteArray := prog_1_method_30_code
def yX10_put : MethodName := ⟨RX10, "put", "(III)I"⟩
abbrev cX10_element : ByteArray := prog_1_method_31_code
def yX10_element : MethodName := ⟨RX10, "element", "(II)J"⟩
abbrev cX10_copy : ByteArray := prog_1_method_32_code
def yX10_copy : MethodName := ⟨RX10, "copy", "(IIIII)I"⟩
abbrev cX10_price : ByteArray := prog_1_method_33_code
def yX10_price : MethodName := ⟨RX10, "price", "(I)I"⟩
abbrev cX10_toss : ByteArray := prog_1_method_34_code
def yX10_toss : MethodName := ⟨RX10, "toss", "(I)I"⟩
abbrev cX10_isLaw : ByteArray := prog_1_method_35_code
def yX10_isLaw : MethodName := ⟨RX10, "isLaw", "(I)Z"⟩
abbrev cX10_isPerson : ByteArray := prog_1_method_36_code
def yX10_isPerson : MethodName := ⟨RX10, "isPerson", "(II)Z"⟩
abbrev cX10_isShelf : ByteArray := prog_1_method_37_code
def yX10_isShelf : MethodName := ⟨RX10, "isShelf", "(I)Z"⟩
abbrev cX10_isRing : ByteArray := prog_1_method_38_code
def yX10_isRing : MethodName := ⟨RX10, "isRing", "(I)Z"⟩
abbrev cX10_newPerson : ByteArray := prog_1_method_39_code
def yX10_newPerson : MethodName := ⟨RX10, "newPerson", "(II)LOneBeatsBoth$Player;"⟩
abbrev cX10_isBare : ByteArray := prog_1_method_40_code
def yX10_isBare : MethodName := ⟨RX10, "isBare", "(I)Z"⟩
abbrev cX10_personOn : ByteArray := prog_1_method_41_code
def yX10_personOn : MethodName := ⟨RX10, "personOn", "(I)LOneBeatsBoth$Player;"⟩
abbrev cX10_rowOn : ByteArray := prog_1_method_42_code
def yX10_rowOn : MethodName := ⟨RX10, "rowOn", "(I)LOneBeatsBoth$Row;"⟩
abbrev cX10_bytesOn : ByteArray := prog_1_method_43_code
def yX10_bytesOn : MethodName := ⟨RX10, "bytesOn", "(I)LOneBeatsBoth$Row;"⟩
abbrev cX10_whyNotOn : ByteArray := prog_1_method_44_code
def yX10_whyNotOn : MethodName := ⟨RX10, "whyNotOn", "(I)I"⟩
abbrev cX10_digitsBehind : ByteArray := prog_1_method_45_code
def yX10_digitsBehind : MethodName := ⟨RX10, "digitsBehind", "(I)I"⟩
abbrev cX10_brokenPlace : ByteArray := prog_1_method_46_code
def yX10_brokenPlace : MethodName := ⟨RX10, "brokenPlace", "(LOneBeatsBoth$Row;)I"⟩
abbrev cX10_draftFollows : ByteArray := prog_1_method_47_code
def yX10_draftFollows : MethodName := ⟨RX10, "draftFollows", "(III)Z"⟩
abbrev cX10_lawfulTurns : ByteArray := prog_1_method_48_code
def yX10_lawfulTurns : MethodName := ⟨RX10, "lawfulTurns", "()I"⟩
abbrev cX10_leastToTurn : ByteArray := prog_1_method_49_code
def yX10_leastToTurn : MethodName := ⟨RX10, "leastToTurn", "(LOneBeatsBoth$League;IIZ)I"⟩
abbrev cX10_clearTold : ByteArray := prog_1_method_50_code
def yX10_clearTold : MethodName := ⟨RX10, "clearTold", "()V"⟩
abbrev cX10_lawfulWaysAsTold : ByteArray := prog_1_method_51_code
def yX10_lawfulWaysAsTold : MethodName := ⟨RX10, "lawfulWaysAsTold", "()I"⟩
abbrev cX10_commonDivisor : ByteArray := prog_1_method_52_code
def yX10_commonDivisor : MethodName := ⟨RX10, "commonDivisor", "(JJ)J"⟩
abbrev cX10_isHalfOfDifferences : ByteArray := prog_1_method_53_code
def yX10_isHalfOfDifferences : MethodName := ⟨RX10, "isHalfOfDifferences", "(II)Z"⟩
abbrev cX10_setWithUpperHalf : ByteArray := prog_1_method_54_code
def yX10_setWithUpperHalf : MethodName := ⟨RX10, "setWithUpperHalf", "(II)I"⟩
abbrev cX10_isLawfulRing : ByteArray := prog_1_method_55_code
def yX10_isLawfulRing : MethodName := ⟨RX10, "isLawfulRing", "(III)Z"⟩
def RX11 : String := "OneBeatsBothModel"
def TX11 : u_T := fun k => match k with
  | 0 => ("OneBeatsBothModel", "s", "[I", true)
  | 1 => ("OneBeatsBothModel", "image", "[I", true)
  | 2 => ("OneBeatsBothModel", "read", "[I", true)
  | 3 => ("OneBeatsBothModel", "mind", "[I", true)
  | 4 => ("OneBeatsBothModel", "kept", "[I", true)
  | 5 => ("OneBeatsBothModel", "sort", "[I", true)
  | 6 => ("OneBeatsBothModel", "size", "[I", true)
  | 7 => ("OneBeatsBothModel", "element", "[I", true)
  | 8 => ("OneBeatsBothModel", "keptKind", "[I", true)
  | 9 => ("OneBeatsBothModel", "keptFigure", "[I", true)
  | 10 => ("OneBeatsBothModel", "hasImage", "Z", false)
  | 11 => ("OneBeatsBothModel", "thrown", "I", false)
  | 12 => ("OneBeatsBothModel", "pos", "I", false)
  | 13 => ("OneBeatsBothModel", "base", "I", false)
  | 14 => ("OneBeatsBothModel", "end", "I", false)
  | 15 => ("OneBeatsBothModel", "numbers", "[I", true)
  | 16 => ("OneBeatsBothModel", "leastTurned", "I", false)
  | 17 => ("OneBeatsBothModel", "leastPrice", "I", false)
  | _ => ("OneBeatsBothModel", "seed", "I", false)
def tyX11 : Nat → FieldType := fun k => match k with
  | 0 => .array .int
  | 1 => .array .int
  | 2 => .array .int
  | 3 => .array .int
  | 4 => .array .int
  | 5 => .array .int
  | 6 => .array .int
  | 7 => .array .int
  | 8 => .array .int
  | 9 => .array .int
  | 10 => .boolean
  | 11 => .int
  | 12 => .int
  | 13 => .int
  | 14 => .int
  | 15 => .array .int
  | 16 => .int
  | 17 => .int
  | _ => .int
abbrev wsX110 : List Cond := u_ws RX11 TX11 19
theorem nmX11 : ∀ a, a < 19 → ∀ b, b < 19 → a ≠ b → (TX11 a).2.1 ≠ (TX11 b).2.1 := by decide +kernel
theorem tyX11_ok : ∀ k, k < 19 → parseFieldDescriptor (TX11 k).2.2.1 = some (tyX11 k) := by decide +kernel
abbrev cX11_init : ByteArray := prog_13_method_1_code
def yX11_init : MethodName := ⟨RX11, "<init>", "()V"⟩
abbrev cX11_thrown : ByteArray := prog_13_method_2_code
def yX11_thrown : MethodName := ⟨RX11, "thrown", "()I"⟩
abbrev cX11_isIn : ByteArray := prog_13_method_3_code
def yX11_isIn : MethodName := ⟨RX11, "isIn", "(JJJ)Z"⟩
abbrev cX11_isShelf : ByteArray := prog_13_method_4_code
def yX11_isShelf : MethodName := ⟨RX11, "isShelf", "(I)Z"⟩
abbrev cX11_isLaw : ByteArray := prog_13_method_5_code
def yX11_isLaw : MethodName := ⟨RX11, "isLaw", "(I)Z"⟩
abbrev cX11_isOne : ByteArray := prog_13_method_6_code
def yX11_isOne : MethodName := ⟨RX11, "isOne", "(I)Z"⟩
abbrev cX11_areTwo : ByteArray := prog_13_method_7_code
def yX11_areTwo : MethodName := ⟨RX11, "areTwo", "(II)Z"⟩
abbrev cX11_lays : ByteArray := prog_13_method_8_code
def yX11_lays : MethodName := ⟨RX11, "lays", "([I[I)V"⟩
abbrev cX11_begins : ByteArray := prog_13_method_9_code
def yX11_begins : MethodName := ⟨RX11, "begins", "()V"⟩
abbrev cX11_ends : ByteArray := prog_13_method_10_code
def yX11_ends : MethodName := ⟨RX11, "ends", "()V"⟩
abbrev cX11_kind : ByteArray := prog_13_method_11_code
def yX11_kind : MethodName := ⟨RX11, "kind", "(I)I"⟩
abbrev cX11_figure : ByteArray := prog_13_method_12_code
def yX11_figure : MethodName := ⟨RX11, "figure", "(I)I"⟩
abbrev cX11_beaten : ByteArray := prog_13_method_13_code
def yX11_beaten : MethodName := ⟨RX11, "beaten", "(I)I"⟩
abbrev cX11_puts : ByteArray := prog_13_method_14_code
def yX11_puts : MethodName := ⟨RX11, "puts", "(III)V"⟩
abbrev cX11_bits : ByteArray := prog_13_method_15_code
def yX11_bits : MethodName := ⟨RX11, "bits", "(I)I"⟩
abbrev cX11_skillBy : ByteArray := prog_13_method_17_code
def yX11_skillBy : MethodName := ⟨RX11, "skillBy", "(II)I"⟩
abbrev cX11_priceBy : ByteArray := prog_13_method_18_code
def yX11_priceBy : MethodName := ⟨RX11, "priceBy", "(II)I"⟩
abbrev cX11_counts : ByteArray := prog_13_method_19_code
def yX11_counts : MethodName := ⟨RX11, "counts", "(I)Z"⟩
abbrev cX11_skill : ByteArray := prog_13_method_20_code
def yX11_skill : MethodName := ⟨RX11, "skill", "(I)I"⟩
abbrev cX11_beats : ByteArray := prog_13_method_21_code
def yX11_beats : MethodName := ⟨RX11, "beats", "(II)V"⟩
abbrev cX11_turns : ByteArray := prog_13_method_22_code
def yX11_turns : MethodName := ⟨RX11, "turns", "(II)V"⟩
abbrev cX11_mastersOf : ByteArray := prog_13_method_23_code
def yX11_mastersOf : MethodName := ⟨RX11, "mastersOf", "(I)I"⟩
abbrev cX11_isLawful : ByteArray := prog_13_method_24_code
def yX11_isLawful : MethodName := ⟨RX11, "isLawful", "()Z"⟩
abbrev cX11_here : ByteArray := prog_13_method_25_code
def yX11_here : MethodName := ⟨RX11, "here", "()I"⟩
abbrev cX11_readsDigits : ByteArray := prog_13_method_26_code
def yX11_readsDigits : MethodName := ⟨RX11, "readsDigits", "(I)Z"⟩
abbrev cX11_readsStatement : ByteArray := prog_13_method_27_code
def yX11_readsStatement : MethodName := ⟨RX11, "readsStatement", "()Z"⟩
abbrev cX11_joins : ByteArray := prog_13_method_28_code
def yX11_joins : MethodName := ⟨RX11, "joins", "(II)V"⟩
abbrev cX11_adds : ByteArray := prog_13_method_29_code
def yX11_adds : MethodName := ⟨RX11, "adds", "(II)Z"⟩
abbrev cX11_leaves : ByteArray := prog_13_method_30_code
def yX11_leaves : MethodName := ⟨RX11, "leaves", "(I)V"⟩
abbrev cX11_comesTold : ByteArray := prog_13_method_31_code
def yX11_comesTold : MethodName := ⟨RX11, "comesTold", "(I)Z"⟩
abbrev cX11_wrongRow : ByteArray := prog_13_method_32_code
def yX11_wrongRow : MethodName := ⟨RX11, "wrongRow", "(II)I"⟩
abbrev cX11_league : ByteArray := prog_13_method_33_code
def yX11_league : MethodName := ⟨RX11, "league", "(I)I"⟩
abbrev cX11_one : ByteArray := prog_13_method_34_code
def yX11_one : MethodName := ⟨RX11, "one", "(II)I"⟩
abbrev cX11_wrongKept : ByteArray := prog_13_method_35_code
def yX11_wrongKept : MethodName := ⟨RX11, "wrongKept", "(I)I"⟩
abbrev cX11_comes : ByteArray := prog_13_method_36_code
def yX11_comes : MethodName := ⟨RX11, "comes", "(I)I"⟩
abbrev cX11_beat : ByteArray := prog_13_method_37_code
def yX11_beat : MethodName := ⟨RX11, "beat", "(II)I"⟩
abbrev cX11_law : ByteArray := prog_13_method_38_code
def yX11_law : MethodName := ⟨RX11, "law", "(I)I"⟩
abbrev cX11_lawful : ByteArray := prog_13_method_39_code
def yX11_lawful : MethodName := ⟨RX11, "lawful", "()I"⟩
abbrev cX11_masters : ByteArray := prog_13_method_40_code
def yX11_masters : MethodName := ⟨RX11, "masters", "(II)I"⟩
abbrev cX11_orphans : ByteArray := prog_13_method_41_code
def yX11_orphans : MethodName := ⟨RX11, "orphans", "(I)I"⟩
abbrev cX11_turnedTo : ByteArray := prog_13_method_42_code
def yX11_turnedTo : MethodName := ⟨RX11, "turnedTo", "(Z)I"⟩
abbrev cX11_holding : ByteArray := prog_13_method_43_code
def yX11_holding : MethodName := ⟨RX11, "holding", "()I"⟩
abbrev cX11_free : ByteArray := prog_13_method_44_code
def yX11_free : MethodName := ⟨RX11, "free", "()I"⟩
abbrev cX11_rings : ByteArray := prog_13_method_45_code
def yX11_rings : MethodName := ⟨RX11, "rings", "()I"⟩
abbrev cX11_cup : ByteArray := prog_13_method_46_code
def yX11_cup : MethodName := ⟨RX11, "cup", "()I"⟩
abbrev cX11_tries : ByteArray := prog_13_method_47_code
def yX11_tries : MethodName := ⟨RX11, "tries", "(III)V"⟩
abbrev cX11_putsRight : ByteArray := prog_13_method_48_code
def yX11_putsRight : MethodName := ⟨RX11, "putsRight", "()V"⟩
abbrev cX11_right : ByteArray := prog_13_method_49_code
def yX11_right : MethodName := ⟨RX11, "right", "()I"⟩
abbrev cX11_cheapest : ByteArray := prog_13_method_50_code
def yX11_cheapest : MethodName := ⟨RX11, "cheapest", "()I"⟩
abbrev cX11_fresh : ByteArray := prog_13_method_51_code
def yX11_fresh : MethodName := ⟨RX11, "fresh", "(III)I"⟩
abbrev cX11_leavers : ByteArray := prog_13_method_52_code
def yX11_leavers : MethodName := ⟨RX11, "leavers", "()I"⟩
abbrev cX11_plays : ByteArray := prog_13_method_53_code
def yX11_plays : MethodName := ⟨RX11, "plays", "(I)V"⟩
abbrev cX11_matches : ByteArray := prog_13_method_54_code
def yX11_matches : MethodName := ⟨RX11, "matches", "()I"⟩
abbrev cX11_weightNow : ByteArray := prog_13_method_55_code
def yX11_weightNow : MethodName := ⟨RX11, "weightNow", "()J"⟩
abbrev cX11_common : ByteArray := prog_13_method_56_code
def yX11_common : MethodName := ⟨RX11, "common", "(JJ)J"⟩
abbrev cX11_odds : ByteArray := prog_13_method_57_code
def yX11_odds : MethodName := ⟨RX11, "odds", "(I)J"⟩
abbrev cX11_ways : ByteArray := prog_13_method_58_code
def yX11_ways : MethodName := ⟨RX11, "ways", "(II)I"⟩
abbrev cX11_isRound : ByteArray := prog_13_method_59_code
def yX11_isRound : MethodName := ⟨RX11, "isRound", "(I)Z"⟩
abbrev cX11_isSet : ByteArray := prog_13_method_60_code
def yX11_isSet : MethodName := ⟨RX11, "isSet", "(II)Z"⟩
abbrev cX11_areBeaten : ByteArray := prog_13_method_61_code
def yX11_areBeaten : MethodName := ⟨RX11, "areBeaten", "(III)Z"⟩
abbrev cX11_isRoundWell : ByteArray := prog_13_method_62_code
def yX11_isRoundWell : MethodName := ⟨RX11, "isRoundWell", "(III)Z"⟩
abbrev cX11_round : ByteArray := prog_13_method_63_code
def yX11_round : MethodName := ⟨RX11, "round", "(III)I"⟩
abbrev cX11_byRounds : ByteArray := prog_13_method_64_code
def yX11_byRounds : MethodName := ⟨RX11, "byRounds", "(II)I"⟩
abbrev cX11_told : ByteArray := prog_13_method_65_code
def yX11_told : MethodName := ⟨RX11, "told", "(II)I"⟩
abbrev cX11_isAsPlayed : ByteArray := prog_13_method_66_code
def yX11_isAsPlayed : MethodName := ⟨RX11, "isAsPlayed", "(I)Z"⟩
abbrev cX11_played : ByteArray := prog_13_method_67_code
def yX11_played : MethodName := ⟨RX11, "played", "(I)I"⟩
abbrev cX11_drawn : ByteArray := prog_13_method_68_code
def yX11_drawn : MethodName := ⟨RX11, "drawn", "(I)I"⟩
abbrev cX11_seeded : ByteArray := prog_13_method_69_code
def yX11_seeded : MethodName := ⟨RX11, "seeded", "(II)I"⟩
abbrev cX11_wrongThree : ByteArray := prog_13_method_70_code
def yX11_wrongThree : MethodName := ⟨RX11, "wrongThree", "(II)I"⟩
abbrev cX11_judge : ByteArray := prog_13_method_71_code
def yX11_judge : MethodName := ⟨RX11, "judge", "(I)I"⟩
abbrev cX11_image : ByteArray := prog_13_method_72_code
def yX11_image : MethodName := ⟨RX11, "image", "()I"⟩
abbrev cX11_restore : ByteArray := prog_13_method_73_code
def yX11_restore : MethodName := ⟨RX11, "restore", "()I"⟩
abbrev cX11_count : ByteArray := prog_13_method_74_code
def yX11_count : MethodName := ⟨RX11, "count", "(I)I"⟩
abbrev cX11_keep : ByteArray := prog_13_method_75_code
def yX11_keep : MethodName := ⟨RX11, "keep", "(IIII)I"⟩
abbrev cX11_row : ByteArray := prog_13_method_76_code
def yX11_row : MethodName := ⟨RX11, "row", "(III)I"⟩
abbrev cX11_put : ByteArray := prog_13_method_77_code
def yX11_put : MethodName := ⟨RX11, "put", "(III)I"⟩
abbrev cX11_element : ByteArray := prog_13_method_78_code
def yX11_element : MethodName := ⟨RX11, "element", "(II)J"⟩
abbrev cX11_copy : ByteArray := prog_13_method_79_code
def yX11_copy : MethodName := ⟨RX11, "copy", "(IIIII)I"⟩
abbrev cX11_price : ByteArray := prog_13_method_80_code
def yX11_price : MethodName := ⟨RX11, "price", "(I)I"⟩
abbrev cX11_toss : ByteArray := prog_13_method_81_code
def yX11_toss : MethodName := ⟨RX11, "toss", "(I)I"⟩
def RJ6 : String := "java/lang/Integer"
def TJ6 : u_T := fun k => match k with
  | _ => ("", "", "", false)
def tyJ6 : Nat → FieldType := fun k => match k with
  | _ => .int
abbrev wsJ60 : List Cond := u_ws RJ6 TJ6 0
theorem nmJ6 : ∀ a, a < 0 → ∀ b, b < 0 → a ≠ b → (TJ6 a).2.1 ≠ (TJ6 b).2.1 := by decide +kernel
theorem tyJ6_ok : ∀ k, k < 0 → parseFieldDescriptor (TJ6 k).2.2.1 = some (tyJ6 k) := by decide +kernel
abbrev cJ6_bitCount_0f7a4 : ByteArray := prog_17_method_49_code
def yJ6_bitCount_0f7a4 : MethodName := ⟨RJ6, "bitCount", "(I)I"⟩
def RJ0 : String := "java/lang/String"
def TJ0 : u_T := fun k => match k with
  | _ => ("", "", "", false)
def tyJ0 : Nat → FieldType := fun k => match k with
  | _ => .int
abbrev wsJ00 : List Cond := u_ws RJ0 TJ0 0
theorem nmJ0 : ∀ a, a < 0 → ∀ b, b < 0 → a ≠ b → (TJ0 a).2.1 ≠ (TJ0 b).2.1 := by decide +kernel
theorem tyJ0_ok : ∀ k, k < 0 → parseFieldDescriptor (TJ0 k).2.2.1 = some (tyJ0 k) := by decide +kernel
def RJ10 : String := "java/lang/System"
def TJ10 : u_T := fun k => match k with
  | _ => ("", "", "", false)
def tyJ10 : Nat → FieldType := fun k => match k with
  | _ => .int
abbrev wsJ100 : List Cond := u_ws RJ10 TJ10 0
theorem nmJ10 : ∀ a, a < 0 → ∀ b, b < 0 → a ≠ b → (TJ10 a).2.1 ≠ (TJ10 b).2.1 := by decide +kernel
theorem tyJ10_ok : ∀ k, k < 0 → parseFieldDescriptor (TJ10 k).2.2.1 = some (tyJ10 k) := by decide +kernel
def RL : String := "OneBeatsBothLaw"
abbrev cL_element : ByteArray := method_3_code
def yL_element : MethodName := ⟨RL, "element", "(LOneBeatsBoth;II[J)I"⟩
abbrev cL_law : ByteArray := code
def yL_law : MethodName := ⟨RL, "law", "([I)Z"⟩
abbrev vwCl : List vw_C := [(RX0, TX0, 1), (RX1, TX1, 1), (RX2, TX2, 4), (RX3, TX3, 1), (RX4, TX4, 1), (RX5, TX5, 1), (RX6, TX6, 1), (RX7, TX7, 1), (RX8, TX8, 2), (RX9, TX9, 1), (RX10, TX10, 8), (RX11, TX11, 19)]
