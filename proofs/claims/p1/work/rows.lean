section
-- ===== PART A: goes FIRST, ahead of the names: the tables' words, and 'selects' of the private methods out of them =====
/-- a private method of a class that the tables say can be made, by its rows of tables_1 -/
def lw_okq (q : MethodName × Nat) : Prop := (q.1.cls ≠ "java/lang/invoke/MethodHandle" ∧ q.1.cls ≠ "java/lang/invoke/VarHandle") ∧ Cond.instantiable q.1.cls q.2 ∈ tables_1 ∧ Cond.privateMethod q.1 ∈ tables_1 ∧ Cond.instanceMethod q.1 ∈ tables_1
theorem lw_p0 : lw_okq (⟨"BreweryHouse$Plant", "readLine", "()Z"⟩, 12) := ⟨⟨by decide +kernel, by decide +kernel⟩, List.mem_of_getElem? (i := 81) (by decide +kernel), List.mem_of_getElem? (i := 762) (by decide +kernel), List.mem_of_getElem? (i := 763) (by decide +kernel)⟩
theorem lw_p1 : lw_okq (⟨"BreweryHouse$Plant", "takes", "(Ljava/lang/String;)Z"⟩, 12) := ⟨⟨by decide +kernel, by decide +kernel⟩, List.mem_of_getElem? (i := 81) (by decide +kernel), List.mem_of_getElem? (i := 768) (by decide +kernel), List.mem_of_getElem? (i := 769) (by decide +kernel)⟩
theorem lw_p2 : lw_okq (⟨"BreweryHouse$Plant", "takesNumber", "()Z"⟩, 12) := ⟨⟨by decide +kernel, by decide +kernel⟩, List.mem_of_getElem? (i := 81) (by decide +kernel), List.mem_of_getElem? (i := 774) (by decide +kernel), List.mem_of_getElem? (i := 775) (by decide +kernel)⟩
theorem lw_p3 : lw_okq (⟨"BreweryHouse$Plant", "endsLine", "()Z"⟩, 12) := ⟨⟨by decide +kernel, by decide +kernel⟩, List.mem_of_getElem? (i := 81) (by decide +kernel), List.mem_of_getElem? (i := 781) (by decide +kernel), List.mem_of_getElem? (i := 782) (by decide +kernel)⟩
theorem lw_p4 : lw_okq (⟨"BreweryHouse$Plant", "addThing", "(II)Z"⟩, 12) := ⟨⟨by decide +kernel, by decide +kernel⟩, List.mem_of_getElem? (i := 81) (by decide +kernel), List.mem_of_getElem? (i := 786) (by decide +kernel), List.mem_of_getElem? (i := 787) (by decide +kernel)⟩
theorem lw_p5 : lw_okq (⟨"BreweryHouse$Plant", "readPipe", "()Z"⟩, 12) := ⟨⟨by decide +kernel, by decide +kernel⟩, List.mem_of_getElem? (i := 81) (by decide +kernel), List.mem_of_getElem? (i := 793) (by decide +kernel), List.mem_of_getElem? (i := 794) (by decide +kernel)⟩
theorem lw_p6 : lw_okq (⟨"BreweryHouse$Plant", "takesPipeEnd", "()Z"⟩, 12) := ⟨⟨by decide +kernel, by decide +kernel⟩, List.mem_of_getElem? (i := 81) (by decide +kernel), List.mem_of_getElem? (i := 797) (by decide +kernel), List.mem_of_getElem? (i := 798) (by decide +kernel)⟩
theorem lw_p7 : lw_okq (⟨"BreweryHouse$Plant", "addPipe", "(III)Z"⟩, 12) := ⟨⟨by decide +kernel, by decide +kernel⟩, List.mem_of_getElem? (i := 81) (by decide +kernel), List.mem_of_getElem? (i := 802) (by decide +kernel), List.mem_of_getElem? (i := 803) (by decide +kernel)⟩
theorem lw_p8 : lw_okq (⟨"BreweryHouse$Plant", "joins", "(II)Z"⟩, 12) := ⟨⟨by decide +kernel, by decide +kernel⟩, List.mem_of_getElem? (i := 81) (by decide +kernel), List.mem_of_getElem? (i := 806) (by decide +kernel), List.mem_of_getElem? (i := 807) (by decide +kernel)⟩
theorem lw_p9 : lw_okq (⟨"BreweryHouse$Rows", "nextWord", "()V"⟩, 18) := ⟨⟨by decide +kernel, by decide +kernel⟩, List.mem_of_getElem? (i := 324) (by decide +kernel), List.mem_of_getElem? (i := 816) (by decide +kernel), List.mem_of_getElem? (i := 817) (by decide +kernel)⟩
theorem lw_p10 : lw_okq (⟨"BreweryHouse$Rows", "readRow", "()V"⟩, 18) := ⟨⟨by decide +kernel, by decide +kernel⟩, List.mem_of_getElem? (i := 324) (by decide +kernel), List.mem_of_getElem? (i := 827) (by decide +kernel), List.mem_of_getElem? (i := 828) (by decide +kernel)⟩
theorem lw_p11 : lw_okq (⟨"BreweryHouse$Rows", "fail", "()V"⟩, 18) := ⟨⟨by decide +kernel, by decide +kernel⟩, List.mem_of_getElem? (i := 324) (by decide +kernel), List.mem_of_getElem? (i := 831) (by decide +kernel), List.mem_of_getElem? (i := 832) (by decide +kernel)⟩
theorem lw_p12 : lw_okq (⟨"BreweryHouse$Rows", "takes", "(Ljava/lang/String;)Z"⟩, 18) := ⟨⟨by decide +kernel, by decide +kernel⟩, List.mem_of_getElem? (i := 324) (by decide +kernel), List.mem_of_getElem? (i := 836) (by decide +kernel), List.mem_of_getElem? (i := 837) (by decide +kernel)⟩
theorem lw_p13 : lw_okq (⟨"BreweryHouse$Rows", "is", "(Ljava/lang/String;)Z"⟩, 18) := ⟨⟨by decide +kernel, by decide +kernel⟩, List.mem_of_getElem? (i := 324) (by decide +kernel), List.mem_of_getElem? (i := 840) (by decide +kernel), List.mem_of_getElem? (i := 841) (by decide +kernel)⟩
theorem lw_p14 : lw_okq (⟨"BreweryHouse$Rows", "readActs", "()V"⟩, 18) := ⟨⟨by decide +kernel, by decide +kernel⟩, List.mem_of_getElem? (i := 324) (by decide +kernel), List.mem_of_getElem? (i := 846) (by decide +kernel), List.mem_of_getElem? (i := 847) (by decide +kernel)⟩
theorem lw_p15 : lw_okq (⟨"BreweryHouse$Rows", "numberBehind", "(II)I"⟩, 18) := ⟨⟨by decide +kernel, by decide +kernel⟩, List.mem_of_getElem? (i := 324) (by decide +kernel), List.mem_of_getElem? (i := 851) (by decide +kernel), List.mem_of_getElem? (i := 852) (by decide +kernel)⟩
def lw_privs_1 : List (MethodName × Nat) := [(⟨"BreweryHouse$Plant", "readLine", "()Z"⟩, 12), (⟨"BreweryHouse$Plant", "takes", "(Ljava/lang/String;)Z"⟩, 12), (⟨"BreweryHouse$Plant", "takesNumber", "()Z"⟩, 12), (⟨"BreweryHouse$Plant", "endsLine", "()Z"⟩, 12), (⟨"BreweryHouse$Plant", "addThing", "(II)Z"⟩, 12), (⟨"BreweryHouse$Plant", "readPipe", "()Z"⟩, 12), (⟨"BreweryHouse$Plant", "takesPipeEnd", "()Z"⟩, 12), (⟨"BreweryHouse$Plant", "addPipe", "(III)Z"⟩, 12), (⟨"BreweryHouse$Plant", "joins", "(II)Z"⟩, 12), (⟨"BreweryHouse$Rows", "nextWord", "()V"⟩, 18), (⟨"BreweryHouse$Rows", "readRow", "()V"⟩, 18), (⟨"BreweryHouse$Rows", "fail", "()V"⟩, 18), (⟨"BreweryHouse$Rows", "takes", "(Ljava/lang/String;)Z"⟩, 18), (⟨"BreweryHouse$Rows", "is", "(Ljava/lang/String;)Z"⟩, 18), (⟨"BreweryHouse$Rows", "readActs", "()V"⟩, 18), (⟨"BreweryHouse$Rows", "numberBehind", "(II)I"⟩, 18)]
theorem lw_r1 : ∀ q ∈ lw_privs_1, lw_okq q := List.forall_mem_cons.mpr ⟨lw_p0, List.forall_mem_cons.mpr ⟨lw_p1, List.forall_mem_cons.mpr ⟨lw_p2, List.forall_mem_cons.mpr ⟨lw_p3, List.forall_mem_cons.mpr ⟨lw_p4, List.forall_mem_cons.mpr ⟨lw_p5, List.forall_mem_cons.mpr ⟨lw_p6, List.forall_mem_cons.mpr ⟨lw_p7, List.forall_mem_cons.mpr ⟨lw_p8, List.forall_mem_cons.mpr ⟨lw_p9, List.forall_mem_cons.mpr ⟨lw_p10, List.forall_mem_cons.mpr ⟨lw_p11, List.forall_mem_cons.mpr ⟨lw_p12, List.forall_mem_cons.mpr ⟨lw_p13, List.forall_mem_cons.mpr ⟨lw_p14, List.forall_mem_cons.mpr ⟨lw_p15, fun _ h => absurd h List.not_mem_nil⟩⟩⟩⟩⟩⟩⟩⟩⟩⟩⟩⟩⟩⟩⟩⟩
theorem lw_p16 : lw_okq (⟨"BreweryHouse$Rows", "readOr", "()V"⟩, 18) := ⟨⟨by decide +kernel, by decide +kernel⟩, List.mem_of_getElem? (i := 324) (by decide +kernel), List.mem_of_getElem? (i := 856) (by decide +kernel), List.mem_of_getElem? (i := 857) (by decide +kernel)⟩
theorem lw_p17 : lw_okq (⟨"BreweryHouse$Rows", "readAnd", "()V"⟩, 18) := ⟨⟨by decide +kernel, by decide +kernel⟩, List.mem_of_getElem? (i := 324) (by decide +kernel), List.mem_of_getElem? (i := 860) (by decide +kernel), List.mem_of_getElem? (i := 861) (by decide +kernel)⟩
theorem lw_p18 : lw_okq (⟨"BreweryHouse$Rows", "readPart", "()V"⟩, 18) := ⟨⟨by decide +kernel, by decide +kernel⟩, List.mem_of_getElem? (i := 324) (by decide +kernel), List.mem_of_getElem? (i := 864) (by decide +kernel), List.mem_of_getElem? (i := 865) (by decide +kernel)⟩
theorem lw_p19 : lw_okq (⟨"BreweryHouse$Rows", "put", "(I)V"⟩, 18) := ⟨⟨by decide +kernel, by decide +kernel⟩, List.mem_of_getElem? (i := 324) (by decide +kernel), List.mem_of_getElem? (i := 870) (by decide +kernel), List.mem_of_getElem? (i := 871) (by decide +kernel)⟩
theorem lw_p20 : lw_okq (⟨"BreweryHouse$ProgramReader", "nextWord", "()V"⟩, 13) := ⟨⟨by decide +kernel, by decide +kernel⟩, List.mem_of_getElem? (i := 578) (by decide +kernel), List.mem_of_getElem? (i := 888) (by decide +kernel), List.mem_of_getElem? (i := 889) (by decide +kernel)⟩
theorem lw_p21 : lw_okq (⟨"BreweryHouse$ProgramReader", "scanLetters", "()V"⟩, 13) := ⟨⟨by decide +kernel, by decide +kernel⟩, List.mem_of_getElem? (i := 578) (by decide +kernel), List.mem_of_getElem? (i := 897) (by decide +kernel), List.mem_of_getElem? (i := 898) (by decide +kernel)⟩
theorem lw_p22 : lw_okq (⟨"BreweryHouse$ProgramReader", "scanNumber", "()V"⟩, 13) := ⟨⟨by decide +kernel, by decide +kernel⟩, List.mem_of_getElem? (i := 578) (by decide +kernel), List.mem_of_getElem? (i := 902) (by decide +kernel), List.mem_of_getElem? (i := 903) (by decide +kernel)⟩
theorem lw_p23 : lw_okq (⟨"BreweryHouse$ProgramReader", "refuseByte", "(I)V"⟩, 13) := ⟨⟨by decide +kernel, by decide +kernel⟩, List.mem_of_getElem? (i := 578) (by decide +kernel), List.mem_of_getElem? (i := 912) (by decide +kernel), List.mem_of_getElem? (i := 913) (by decide +kernel)⟩
theorem lw_p24 : lw_okq (⟨"BreweryHouse$ProgramReader", "fail", "()V"⟩, 13) := ⟨⟨by decide +kernel, by decide +kernel⟩, List.mem_of_getElem? (i := 578) (by decide +kernel), List.mem_of_getElem? (i := 916) (by decide +kernel), List.mem_of_getElem? (i := 917) (by decide +kernel)⟩
theorem lw_p25 : lw_okq (⟨"BreweryHouse$ProgramReader", "takeNewName", "()J"⟩, 13) := ⟨⟨by decide +kernel, by decide +kernel⟩, List.mem_of_getElem? (i := 578) (by decide +kernel), List.mem_of_getElem? (i := 920) (by decide +kernel), List.mem_of_getElem? (i := 921) (by decide +kernel)⟩
theorem lw_p26 : lw_okq (⟨"BreweryHouse$ProgramReader", "readBlock", "()I"⟩, 13) := ⟨⟨by decide +kernel, by decide +kernel⟩, List.mem_of_getElem? (i := 578) (by decide +kernel), List.mem_of_getElem? (i := 928) (by decide +kernel), List.mem_of_getElem? (i := 929) (by decide +kernel)⟩
theorem lw_p27 : lw_okq (⟨"BreweryHouse$ProgramReader", "readStatement", "()I"⟩, 13) := ⟨⟨by decide +kernel, by decide +kernel⟩, List.mem_of_getElem? (i := 578) (by decide +kernel), List.mem_of_getElem? (i := 932) (by decide +kernel), List.mem_of_getElem? (i := 933) (by decide +kernel)⟩
theorem lw_p28 : lw_okq (⟨"BreweryHouse$ProgramReader", "readChange", "(I)I"⟩, 13) := ⟨⟨by decide +kernel, by decide +kernel⟩, List.mem_of_getElem? (i := 578) (by decide +kernel), List.mem_of_getElem? (i := 936) (by decide +kernel), List.mem_of_getElem? (i := 937) (by decide +kernel)⟩
theorem lw_p29 : lw_okq (⟨"BreweryHouse$ProgramReader", "takeName", "(I)I"⟩, 13) := ⟨⟨by decide +kernel, by decide +kernel⟩, List.mem_of_getElem? (i := 578) (by decide +kernel), List.mem_of_getElem? (i := 940) (by decide +kernel), List.mem_of_getElem? (i := 941) (by decide +kernel)⟩
theorem lw_p30 : lw_okq (⟨"BreweryHouse$ProgramReader", "readLevel", "(I)I"⟩, 13) := ⟨⟨by decide +kernel, by decide +kernel⟩, List.mem_of_getElem? (i := 578) (by decide +kernel), List.mem_of_getElem? (i := 944) (by decide +kernel), List.mem_of_getElem? (i := 945) (by decide +kernel)⟩
theorem lw_p31 : lw_okq (⟨"BreweryHouse$ProgramReader", "readFactor", "()I"⟩, 13) := ⟨⟨by decide +kernel, by decide +kernel⟩, List.mem_of_getElem? (i := 578) (by decide +kernel), List.mem_of_getElem? (i := 948) (by decide +kernel), List.mem_of_getElem? (i := 949) (by decide +kernel)⟩
def lw_privs_2 : List (MethodName × Nat) := [(⟨"BreweryHouse$Rows", "readOr", "()V"⟩, 18), (⟨"BreweryHouse$Rows", "readAnd", "()V"⟩, 18), (⟨"BreweryHouse$Rows", "readPart", "()V"⟩, 18), (⟨"BreweryHouse$Rows", "put", "(I)V"⟩, 18), (⟨"BreweryHouse$ProgramReader", "nextWord", "()V"⟩, 13), (⟨"BreweryHouse$ProgramReader", "scanLetters", "()V"⟩, 13), (⟨"BreweryHouse$ProgramReader", "scanNumber", "()V"⟩, 13), (⟨"BreweryHouse$ProgramReader", "refuseByte", "(I)V"⟩, 13), (⟨"BreweryHouse$ProgramReader", "fail", "()V"⟩, 13), (⟨"BreweryHouse$ProgramReader", "takeNewName", "()J"⟩, 13), (⟨"BreweryHouse$ProgramReader", "readBlock", "()I"⟩, 13), (⟨"BreweryHouse$ProgramReader", "readStatement", "()I"⟩, 13), (⟨"BreweryHouse$ProgramReader", "readChange", "(I)I"⟩, 13), (⟨"BreweryHouse$ProgramReader", "takeName", "(I)I"⟩, 13), (⟨"BreweryHouse$ProgramReader", "readLevel", "(I)I"⟩, 13), (⟨"BreweryHouse$ProgramReader", "readFactor", "()I"⟩, 13)]
theorem lw_r2 : ∀ q ∈ lw_privs_2, lw_okq q := List.forall_mem_cons.mpr ⟨lw_p16, List.forall_mem_cons.mpr ⟨lw_p17, List.forall_mem_cons.mpr ⟨lw_p18, List.forall_mem_cons.mpr ⟨lw_p19, List.forall_mem_cons.mpr ⟨lw_p20, List.forall_mem_cons.mpr ⟨lw_p21, List.forall_mem_cons.mpr ⟨lw_p22, List.forall_mem_cons.mpr ⟨lw_p23, List.forall_mem_cons.mpr ⟨lw_p24, List.forall_mem_cons.mpr ⟨lw_p25, List.forall_mem_cons.mpr ⟨lw_p26, List.forall_mem_cons.mpr ⟨lw_p27, List.forall_mem_cons.mpr ⟨lw_p28, List.forall_mem_cons.mpr ⟨lw_p29, List.forall_mem_cons.mpr ⟨lw_p30, List.forall_mem_cons.mpr ⟨lw_p31, fun _ h => absurd h List.not_mem_nil⟩⟩⟩⟩⟩⟩⟩⟩⟩⟩⟩⟩⟩⟩⟩⟩
theorem lw_p32 : lw_okq (⟨"BreweryHouse$ProgramReader", "makeNode", "(II)I"⟩, 13) := ⟨⟨by decide +kernel, by decide +kernel⟩, List.mem_of_getElem? (i := 578) (by decide +kernel), List.mem_of_getElem? (i := 959) (by decide +kernel), List.mem_of_getElem? (i := 960) (by decide +kernel)⟩
theorem lw_p33 : lw_okq (⟨"BreweryHouse$ProgramReader", "join", "(IIII)I"⟩, 13) := ⟨⟨by decide +kernel, by decide +kernel⟩, List.mem_of_getElem? (i := 578) (by decide +kernel), List.mem_of_getElem? (i := 969) (by decide +kernel), List.mem_of_getElem? (i := 970) (by decide +kernel)⟩
theorem lw_p34 : lw_okq (⟨"BreweryHouse$ProgramReader", "demand", "(II)V"⟩, 13) := ⟨⟨by decide +kernel, by decide +kernel⟩, List.mem_of_getElem? (i := 578) (by decide +kernel), List.mem_of_getElem? (i := 976) (by decide +kernel), List.mem_of_getElem? (i := 977) (by decide +kernel)⟩
theorem lw_p35 : lw_okq (⟨"BreweryHouse$ProgramReader", "take", "(I)V"⟩, 13) := ⟨⟨by decide +kernel, by decide +kernel⟩, List.mem_of_getElem? (i := 578) (by decide +kernel), List.mem_of_getElem? (i := 980) (by decide +kernel), List.mem_of_getElem? (i := 981) (by decide +kernel)⟩
theorem lw_p36 : lw_okq (⟨"BreweryHouse$ProgramReader", "giveRange", "(III)I"⟩, 13) := ⟨⟨by decide +kernel, by decide +kernel⟩, List.mem_of_getElem? (i := 578) (by decide +kernel), List.mem_of_getElem? (i := 984) (by decide +kernel), List.mem_of_getElem? (i := 985) (by decide +kernel)⟩
theorem lw_p37 : lw_okq (⟨"BreweryHouse$ProgramReader", "readPause", "(I)I"⟩, 13) := ⟨⟨by decide +kernel, by decide +kernel⟩, List.mem_of_getElem? (i := 578) (by decide +kernel), List.mem_of_getElem? (i := 988) (by decide +kernel), List.mem_of_getElem? (i := 989) (by decide +kernel)⟩
theorem lw_p38 : lw_okq (⟨"BreweryHouse$ProgramReader", "readPar", "()I"⟩, 13) := ⟨⟨by decide +kernel, by decide +kernel⟩, List.mem_of_getElem? (i := 578) (by decide +kernel), List.mem_of_getElem? (i := 992) (by decide +kernel), List.mem_of_getElem? (i := 993) (by decide +kernel)⟩
theorem lw_p39 : lw_okq (⟨"BreweryHouse$ProgramReader", "readGuarded", "(I)I"⟩, 13) := ⟨⟨by decide +kernel, by decide +kernel⟩, List.mem_of_getElem? (i := 578) (by decide +kernel), List.mem_of_getElem? (i := 996) (by decide +kernel), List.mem_of_getElem? (i := 997) (by decide +kernel)⟩
theorem lw_p40 : lw_okq (⟨"BreweryHouse$ProgramReader", "readShort", "(I)I"⟩, 13) := ⟨⟨by decide +kernel, by decide +kernel⟩, List.mem_of_getElem? (i := 578) (by decide +kernel), List.mem_of_getElem? (i := 1000) (by decide +kernel), List.mem_of_getElem? (i := 1001) (by decide +kernel)⟩
theorem lw_p41 : lw_okq (⟨"BreweryHouse$ProgramReader", "takeUnit", "()I"⟩, 13) := ⟨⟨by decide +kernel, by decide +kernel⟩, List.mem_of_getElem? (i := 578) (by decide +kernel), List.mem_of_getElem? (i := 1005) (by decide +kernel), List.mem_of_getElem? (i := 1006) (by decide +kernel)⟩
theorem lw_p42 : lw_okq (⟨"BreweryHouse", "takePlant", "()I"⟩, 16) := ⟨⟨by decide +kernel, by decide +kernel⟩, List.mem_of_getElem? (i := 25) (by decide +kernel), List.mem_of_getElem? (i := 1013) (by decide +kernel), List.mem_of_getElem? (i := 1014) (by decide +kernel)⟩
theorem lw_p43 : lw_okq (⟨"BreweryHouse", "takeRows", "()I"⟩, 16) := ⟨⟨by decide +kernel, by decide +kernel⟩, List.mem_of_getElem? (i := 25) (by decide +kernel), List.mem_of_getElem? (i := 1044) (by decide +kernel), List.mem_of_getElem? (i := 1045) (by decide +kernel)⟩
theorem lw_p44 : lw_okq (⟨"BreweryHouse", "takeProgram", "()I"⟩, 16) := ⟨⟨by decide +kernel, by decide +kernel⟩, List.mem_of_getElem? (i := 25) (by decide +kernel), List.mem_of_getElem? (i := 1048) (by decide +kernel), List.mem_of_getElem? (i := 1049) (by decide +kernel)⟩
theorem lw_p45 : lw_okq (⟨"BreweryHouse$Run", "expandAll", "(II)I"⟩, 21) := ⟨⟨by decide +kernel, by decide +kernel⟩, List.mem_of_getElem? (i := 417) (by decide +kernel), List.mem_of_getElem? (i := 1056) (by decide +kernel), List.mem_of_getElem? (i := 1057) (by decide +kernel)⟩
theorem lw_p46 : lw_okq (⟨"BreweryHouse$Ways", "remove", "(IZ)V"⟩, 18) := ⟨⟨by decide +kernel, by decide +kernel⟩, List.mem_of_getElem? (i := 210) (by decide +kernel), List.mem_of_getElem? (i := 1068) (by decide +kernel), List.mem_of_getElem? (i := 1069) (by decide +kernel)⟩
theorem lw_p47 : lw_okq (⟨"BreweryHouse$Stock", "heldLevel", "(I)I"⟩, 12) := ⟨⟨by decide +kernel, by decide +kernel⟩, List.mem_of_getElem? (i := 75) (by decide +kernel), List.mem_of_getElem? (i := 1088) (by decide +kernel), List.mem_of_getElem? (i := 1089) (by decide +kernel)⟩
def lw_privs_3 : List (MethodName × Nat) := [(⟨"BreweryHouse$ProgramReader", "makeNode", "(II)I"⟩, 13), (⟨"BreweryHouse$ProgramReader", "join", "(IIII)I"⟩, 13), (⟨"BreweryHouse$ProgramReader", "demand", "(II)V"⟩, 13), (⟨"BreweryHouse$ProgramReader", "take", "(I)V"⟩, 13), (⟨"BreweryHouse$ProgramReader", "giveRange", "(III)I"⟩, 13), (⟨"BreweryHouse$ProgramReader", "readPause", "(I)I"⟩, 13), (⟨"BreweryHouse$ProgramReader", "readPar", "()I"⟩, 13), (⟨"BreweryHouse$ProgramReader", "readGuarded", "(I)I"⟩, 13), (⟨"BreweryHouse$ProgramReader", "readShort", "(I)I"⟩, 13), (⟨"BreweryHouse$ProgramReader", "takeUnit", "()I"⟩, 13), (⟨"BreweryHouse", "takePlant", "()I"⟩, 16), (⟨"BreweryHouse", "takeRows", "()I"⟩, 16), (⟨"BreweryHouse", "takeProgram", "()I"⟩, 16), (⟨"BreweryHouse$Run", "expandAll", "(II)I"⟩, 21), (⟨"BreweryHouse$Ways", "remove", "(IZ)V"⟩, 18), (⟨"BreweryHouse$Stock", "heldLevel", "(I)I"⟩, 12)]
theorem lw_r3 : ∀ q ∈ lw_privs_3, lw_okq q := List.forall_mem_cons.mpr ⟨lw_p32, List.forall_mem_cons.mpr ⟨lw_p33, List.forall_mem_cons.mpr ⟨lw_p34, List.forall_mem_cons.mpr ⟨lw_p35, List.forall_mem_cons.mpr ⟨lw_p36, List.forall_mem_cons.mpr ⟨lw_p37, List.forall_mem_cons.mpr ⟨lw_p38, List.forall_mem_cons.mpr ⟨lw_p39, List.forall_mem_cons.mpr ⟨lw_p40, List.forall_mem_cons.mpr ⟨lw_p41, List.forall_mem_cons.mpr ⟨lw_p42, List.forall_mem_cons.mpr ⟨lw_p43, List.forall_mem_cons.mpr ⟨lw_p44, List.forall_mem_cons.mpr ⟨lw_p45, List.forall_mem_cons.mpr ⟨lw_p46, List.forall_mem_cons.mpr ⟨lw_p47, fun _ h => absurd h List.not_mem_nil⟩⟩⟩⟩⟩⟩⟩⟩⟩⟩⟩⟩⟩⟩⟩⟩
theorem lw_p48 : lw_okq (⟨"BreweryHouse$Safety", "findRivals", "()Z"⟩, 10) := ⟨⟨by decide +kernel, by decide +kernel⟩, List.mem_of_getElem? (i := 277) (by decide +kernel), List.mem_of_getElem? (i := 1102) (by decide +kernel), List.mem_of_getElem? (i := 1103) (by decide +kernel)⟩
theorem lw_p49 : lw_okq (⟨"BreweryHouse$Safety", "link", "(II)V"⟩, 10) := ⟨⟨by decide +kernel, by decide +kernel⟩, List.mem_of_getElem? (i := 277) (by decide +kernel), List.mem_of_getElem? (i := 1106) (by decide +kernel), List.mem_of_getElem? (i := 1107) (by decide +kernel)⟩
theorem lw_p50 : lw_okq (⟨"BreweryHouse$Safety", "meet", "()Z"⟩, 10) := ⟨⟨by decide +kernel, by decide +kernel⟩, List.mem_of_getElem? (i := 277) (by decide +kernel), List.mem_of_getElem? (i := 1111) (by decide +kernel), List.mem_of_getElem? (i := 1112) (by decide +kernel)⟩
theorem lw_p51 : lw_okq (⟨"BreweryHouse$Safety", "otherPasses", "(II)I"⟩, 10) := ⟨⟨by decide +kernel, by decide +kernel⟩, List.mem_of_getElem? (i := 277) (by decide +kernel), List.mem_of_getElem? (i := 1123) (by decide +kernel), List.mem_of_getElem? (i := 1124) (by decide +kernel)⟩
theorem lw_p52 : lw_okq (⟨"BreweryHouse$Stock", "forgetCleanings", "(I)V"⟩, 12) := ⟨⟨by decide +kernel, by decide +kernel⟩, List.mem_of_getElem? (i := 75) (by decide +kernel), List.mem_of_getElem? (i := 1134) (by decide +kernel), List.mem_of_getElem? (i := 1135) (by decide +kernel)⟩
theorem lw_p53 : lw_okq (⟨"BreweryHouse$Acts", "isBound", "(I)Z"⟩, 8) := ⟨⟨by decide +kernel, by decide +kernel⟩, List.mem_of_getElem? (i := 318) (by decide +kernel), List.mem_of_getElem? (i := 1191) (by decide +kernel), List.mem_of_getElem? (i := 1192) (by decide +kernel)⟩
theorem lw_p54 : lw_okq (⟨"BreweryHouse$Acts", "openWay", "(III)I"⟩, 8) := ⟨⟨by decide +kernel, by decide +kernel⟩, List.mem_of_getElem? (i := 318) (by decide +kernel), List.mem_of_getElem? (i := 1218) (by decide +kernel), List.mem_of_getElem? (i := 1219) (by decide +kernel)⟩
theorem lw_p55 : lw_okq (⟨"BreweryHouse$Ways", "onward", "(I)I"⟩, 18) := ⟨⟨by decide +kernel, by decide +kernel⟩, List.mem_of_getElem? (i := 210) (by decide +kernel), List.mem_of_getElem? (i := 1231) (by decide +kernel), List.mem_of_getElem? (i := 1232) (by decide +kernel)⟩
theorem lw_p56 : lw_okq (⟨"BreweryHouse$Ways", "cheapestEntry", "(I)I"⟩, 18) := ⟨⟨by decide +kernel, by decide +kernel⟩, List.mem_of_getElem? (i := 210) (by decide +kernel), List.mem_of_getElem? (i := 1235) (by decide +kernel), List.mem_of_getElem? (i := 1236) (by decide +kernel)⟩
theorem lw_p57 : lw_okq (⟨"BreweryHouse$Acts", "closeWay", "(II)I"⟩, 8) := ⟨⟨by decide +kernel, by decide +kernel⟩, List.mem_of_getElem? (i := 318) (by decide +kernel), List.mem_of_getElem? (i := 1249) (by decide +kernel), List.mem_of_getElem? (i := 1250) (by decide +kernel)⟩
theorem lw_p58 : lw_okq (⟨"BreweryHouse$Acts", "setPosition", "(II)I"⟩, 8) := ⟨⟨by decide +kernel, by decide +kernel⟩, List.mem_of_getElem? (i := 318) (by decide +kernel), List.mem_of_getElem? (i := 1257) (by decide +kernel), List.mem_of_getElem? (i := 1258) (by decide +kernel)⟩
theorem lw_p59 : lw_okq (⟨"BreweryHouse$Acts", "cleanSpace", "(II)I"⟩, 8) := ⟨⟨by decide +kernel, by decide +kernel⟩, List.mem_of_getElem? (i := 318) (by decide +kernel), List.mem_of_getElem? (i := 1265) (by decide +kernel), List.mem_of_getElem? (i := 1266) (by decide +kernel)⟩
theorem lw_p60 : lw_okq (⟨"BreweryHouse$Acts", "drainSpace", "(I)I"⟩, 8) := ⟨⟨by decide +kernel, by decide +kernel⟩, List.mem_of_getElem? (i := 318) (by decide +kernel), List.mem_of_getElem? (i := 1278) (by decide +kernel), List.mem_of_getElem? (i := 1279) (by decide +kernel)⟩
theorem lw_p61 : lw_okq (⟨"BreweryHouse$Run", "enter", "(I)V"⟩, 21) := ⟨⟨by decide +kernel, by decide +kernel⟩, List.mem_of_getElem? (i := 417) (by decide +kernel), List.mem_of_getElem? (i := 1315) (by decide +kernel), List.mem_of_getElem? (i := 1316) (by decide +kernel)⟩
theorem lw_p62 : lw_okq (⟨"BreweryHouse", "senseAll", "()V"⟩, 16) := ⟨⟨by decide +kernel, by decide +kernel⟩, List.mem_of_getElem? (i := 25) (by decide +kernel), List.mem_of_getElem? (i := 1323) (by decide +kernel), List.mem_of_getElem? (i := 1324) (by decide +kernel)⟩
theorem lw_p63 : lw_okq (⟨"BreweryHouse", "sensed", "(II)J"⟩, 16) := ⟨⟨by decide +kernel, by decide +kernel⟩, List.mem_of_getElem? (i := 25) (by decide +kernel), List.mem_of_getElem? (i := 1328) (by decide +kernel), List.mem_of_getElem? (i := 1329) (by decide +kernel)⟩
def lw_privs_4 : List (MethodName × Nat) := [(⟨"BreweryHouse$Safety", "findRivals", "()Z"⟩, 10), (⟨"BreweryHouse$Safety", "link", "(II)V"⟩, 10), (⟨"BreweryHouse$Safety", "meet", "()Z"⟩, 10), (⟨"BreweryHouse$Safety", "otherPasses", "(II)I"⟩, 10), (⟨"BreweryHouse$Stock", "forgetCleanings", "(I)V"⟩, 12), (⟨"BreweryHouse$Acts", "isBound", "(I)Z"⟩, 8), (⟨"BreweryHouse$Acts", "openWay", "(III)I"⟩, 8), (⟨"BreweryHouse$Ways", "onward", "(I)I"⟩, 18), (⟨"BreweryHouse$Ways", "cheapestEntry", "(I)I"⟩, 18), (⟨"BreweryHouse$Acts", "closeWay", "(II)I"⟩, 8), (⟨"BreweryHouse$Acts", "setPosition", "(II)I"⟩, 8), (⟨"BreweryHouse$Acts", "cleanSpace", "(II)I"⟩, 8), (⟨"BreweryHouse$Acts", "drainSpace", "(I)I"⟩, 8), (⟨"BreweryHouse$Run", "enter", "(I)V"⟩, 21), (⟨"BreweryHouse", "senseAll", "()V"⟩, 16), (⟨"BreweryHouse", "sensed", "(II)J"⟩, 16)]
theorem lw_r4 : ∀ q ∈ lw_privs_4, lw_okq q := List.forall_mem_cons.mpr ⟨lw_p48, List.forall_mem_cons.mpr ⟨lw_p49, List.forall_mem_cons.mpr ⟨lw_p50, List.forall_mem_cons.mpr ⟨lw_p51, List.forall_mem_cons.mpr ⟨lw_p52, List.forall_mem_cons.mpr ⟨lw_p53, List.forall_mem_cons.mpr ⟨lw_p54, List.forall_mem_cons.mpr ⟨lw_p55, List.forall_mem_cons.mpr ⟨lw_p56, List.forall_mem_cons.mpr ⟨lw_p57, List.forall_mem_cons.mpr ⟨lw_p58, List.forall_mem_cons.mpr ⟨lw_p59, List.forall_mem_cons.mpr ⟨lw_p60, List.forall_mem_cons.mpr ⟨lw_p61, List.forall_mem_cons.mpr ⟨lw_p62, List.forall_mem_cons.mpr ⟨lw_p63, fun _ h => absurd h List.not_mem_nil⟩⟩⟩⟩⟩⟩⟩⟩⟩⟩⟩⟩⟩⟩⟩⟩
theorem lw_p64 : lw_okq (⟨"BreweryHouse$Run", "lookAtLimits", "(II)V"⟩, 21) := ⟨⟨by decide +kernel, by decide +kernel⟩, List.mem_of_getElem? (i := 417) (by decide +kernel), List.mem_of_getElem? (i := 1346) (by decide +kernel), List.mem_of_getElem? (i := 1347) (by decide +kernel)⟩
theorem lw_p65 : lw_okq (⟨"BreweryHouse$Run", "lookAtLimit", "(I)V"⟩, 21) := ⟨⟨by decide +kernel, by decide +kernel⟩, List.mem_of_getElem? (i := 417) (by decide +kernel), List.mem_of_getElem? (i := 1350) (by decide +kernel), List.mem_of_getElem? (i := 1351) (by decide +kernel)⟩
theorem lw_p66 : lw_okq (⟨"BreweryHouse$Run", "reckon", "(II)J"⟩, 21) := ⟨⟨by decide +kernel, by decide +kernel⟩, List.mem_of_getElem? (i := 417) (by decide +kernel), List.mem_of_getElem? (i := 1354) (by decide +kernel), List.mem_of_getElem? (i := 1355) (by decide +kernel)⟩
theorem lw_p67 : lw_okq (⟨"BreweryHouse$Run", "fault", "(II)V"⟩, 21) := ⟨⟨by decide +kernel, by decide +kernel⟩, List.mem_of_getElem? (i := 417) (by decide +kernel), List.mem_of_getElem? (i := 1358) (by decide +kernel), List.mem_of_getElem? (i := 1359) (by decide +kernel)⟩
theorem lw_p68 : lw_okq (⟨"BreweryHouse$Run", "choose", "(II)V"⟩, 21) := ⟨⟨by decide +kernel, by decide +kernel⟩, List.mem_of_getElem? (i := 417) (by decide +kernel), List.mem_of_getElem? (i := 1367) (by decide +kernel), List.mem_of_getElem? (i := 1368) (by decide +kernel)⟩
theorem lw_p69 : lw_okq (⟨"BreweryHouse$Run", "goOn", "(II)Z"⟩, 21) := ⟨⟨by decide +kernel, by decide +kernel⟩, List.mem_of_getElem? (i := 417) (by decide +kernel), List.mem_of_getElem? (i := 1371) (by decide +kernel), List.mem_of_getElem? (i := 1372) (by decide +kernel)⟩
theorem lw_p70 : lw_okq (⟨"BreweryHouse$Run", "mayBegin", "(I)Z"⟩, 21) := ⟨⟨by decide +kernel, by decide +kernel⟩, List.mem_of_getElem? (i := 417) (by decide +kernel), List.mem_of_getElem? (i := 1375) (by decide +kernel), List.mem_of_getElem? (i := 1376) (by decide +kernel)⟩
theorem lw_p71 : lw_okq (⟨"BreweryHouse$Run", "goesPast", "(II)Z"⟩, 21) := ⟨⟨by decide +kernel, by decide +kernel⟩, List.mem_of_getElem? (i := 417) (by decide +kernel), List.mem_of_getElem? (i := 1379) (by decide +kernel), List.mem_of_getElem? (i := 1380) (by decide +kernel)⟩
theorem lw_p72 : lw_okq (⟨"BreweryHouse$Run", "lookAgain", "(II)I"⟩, 21) := ⟨⟨by decide +kernel, by decide +kernel⟩, List.mem_of_getElem? (i := 417) (by decide +kernel), List.mem_of_getElem? (i := 1383) (by decide +kernel), List.mem_of_getElem? (i := 1384) (by decide +kernel)⟩
theorem lw_p73 : lw_okq (⟨"BreweryHouse$Run", "setValue", "(IJ)V"⟩, 21) := ⟨⟨by decide +kernel, by decide +kernel⟩, List.mem_of_getElem? (i := 417) (by decide +kernel), List.mem_of_getElem? (i := 1387) (by decide +kernel), List.mem_of_getElem? (i := 1388) (by decide +kernel)⟩
theorem lw_p74 : lw_okq (⟨"BreweryHouse$Run", "beginReckoned", "(II)I"⟩, 21) := ⟨⟨by decide +kernel, by decide +kernel⟩, List.mem_of_getElem? (i := 417) (by decide +kernel), List.mem_of_getElem? (i := 1394) (by decide +kernel), List.mem_of_getElem? (i := 1395) (by decide +kernel)⟩
theorem lw_p75 : lw_okq (⟨"BreweryHouse$Run", "stand", "(I)I"⟩, 21) := ⟨⟨by decide +kernel, by decide +kernel⟩, List.mem_of_getElem? (i := 417) (by decide +kernel), List.mem_of_getElem? (i := 1398) (by decide +kernel), List.mem_of_getElem? (i := 1399) (by decide +kernel)⟩
theorem lw_p76 : lw_okq (⟨"BreweryHouse$Run", "beginRamp", "(IJ)I"⟩, 21) := ⟨⟨by decide +kernel, by decide +kernel⟩, List.mem_of_getElem? (i := 417) (by decide +kernel), List.mem_of_getElem? (i := 1402) (by decide +kernel), List.mem_of_getElem? (i := 1403) (by decide +kernel)⟩
theorem lw_p77 : lw_okq (⟨"BreweryHouse$Run", "goInside", "(II)I"⟩, 21) := ⟨⟨by decide +kernel, by decide +kernel⟩, List.mem_of_getElem? (i := 417) (by decide +kernel), List.mem_of_getElem? (i := 1406) (by decide +kernel), List.mem_of_getElem? (i := 1407) (by decide +kernel)⟩
theorem lw_p78 : lw_okq (⟨"BreweryHouse$Run", "beginPlain", "(II)I"⟩, 21) := ⟨⟨by decide +kernel, by decide +kernel⟩, List.mem_of_getElem? (i := 417) (by decide +kernel), List.mem_of_getElem? (i := 1410) (by decide +kernel), List.mem_of_getElem? (i := 1411) (by decide +kernel)⟩
theorem lw_p79 : lw_okq (⟨"BreweryHouse$Run", "beginPar", "(I)I"⟩, 21) := ⟨⟨by decide +kernel, by decide +kernel⟩, List.mem_of_getElem? (i := 417) (by decide +kernel), List.mem_of_getElem? (i := 1415) (by decide +kernel), List.mem_of_getElem? (i := 1416) (by decide +kernel)⟩
def lw_privs_5 : List (MethodName × Nat) := [(⟨"BreweryHouse$Run", "lookAtLimits", "(II)V"⟩, 21), (⟨"BreweryHouse$Run", "lookAtLimit", "(I)V"⟩, 21), (⟨"BreweryHouse$Run", "reckon", "(II)J"⟩, 21), (⟨"BreweryHouse$Run", "fault", "(II)V"⟩, 21), (⟨"BreweryHouse$Run", "choose", "(II)V"⟩, 21), (⟨"BreweryHouse$Run", "goOn", "(II)Z"⟩, 21), (⟨"BreweryHouse$Run", "mayBegin", "(I)Z"⟩, 21), (⟨"BreweryHouse$Run", "goesPast", "(II)Z"⟩, 21), (⟨"BreweryHouse$Run", "lookAgain", "(II)I"⟩, 21), (⟨"BreweryHouse$Run", "setValue", "(IJ)V"⟩, 21), (⟨"BreweryHouse$Run", "beginReckoned", "(II)I"⟩, 21), (⟨"BreweryHouse$Run", "stand", "(I)I"⟩, 21), (⟨"BreweryHouse$Run", "beginRamp", "(IJ)I"⟩, 21), (⟨"BreweryHouse$Run", "goInside", "(II)I"⟩, 21), (⟨"BreweryHouse$Run", "beginPlain", "(II)I"⟩, 21), (⟨"BreweryHouse$Run", "beginPar", "(I)I"⟩, 21)]
theorem lw_r5 : ∀ q ∈ lw_privs_5, lw_okq q := List.forall_mem_cons.mpr ⟨lw_p64, List.forall_mem_cons.mpr ⟨lw_p65, List.forall_mem_cons.mpr ⟨lw_p66, List.forall_mem_cons.mpr ⟨lw_p67, List.forall_mem_cons.mpr ⟨lw_p68, List.forall_mem_cons.mpr ⟨lw_p69, List.forall_mem_cons.mpr ⟨lw_p70, List.forall_mem_cons.mpr ⟨lw_p71, List.forall_mem_cons.mpr ⟨lw_p72, List.forall_mem_cons.mpr ⟨lw_p73, List.forall_mem_cons.mpr ⟨lw_p74, List.forall_mem_cons.mpr ⟨lw_p75, List.forall_mem_cons.mpr ⟨lw_p76, List.forall_mem_cons.mpr ⟨lw_p77, List.forall_mem_cons.mpr ⟨lw_p78, List.forall_mem_cons.mpr ⟨lw_p79, fun _ h => absurd h List.not_mem_nil⟩⟩⟩⟩⟩⟩⟩⟩⟩⟩⟩⟩⟩⟩⟩⟩
theorem lw_p80 : lw_okq (⟨"BreweryHouse$Run", "endsAllSides", "(II)Z"⟩, 21) := ⟨⟨by decide +kernel, by decide +kernel⟩, List.mem_of_getElem? (i := 417) (by decide +kernel), List.mem_of_getElem? (i := 1419) (by decide +kernel), List.mem_of_getElem? (i := 1420) (by decide +kernel)⟩
theorem lw_p81 : lw_okq (⟨"BreweryHouse$Run", "endsRounds", "(II)Z"⟩, 21) := ⟨⟨by decide +kernel, by decide +kernel⟩, List.mem_of_getElem? (i := 417) (by decide +kernel), List.mem_of_getElem? (i := 1423) (by decide +kernel), List.mem_of_getElem? (i := 1424) (by decide +kernel)⟩
theorem lw_p82 : lw_okq (⟨"BreweryHouse$Ways", "movesLitre", "(I)Z"⟩, 18) := ⟨⟨by decide +kernel, by decide +kernel⟩, List.mem_of_getElem? (i := 210) (by decide +kernel), List.mem_of_getElem? (i := 1431) (by decide +kernel), List.mem_of_getElem? (i := 1432) (by decide +kernel)⟩
theorem lw_p83 : lw_okq (⟨"BreweryHouse$Ways", "goesForth", "(I)Z"⟩, 18) := ⟨⟨by decide +kernel, by decide +kernel⟩, List.mem_of_getElem? (i := 210) (by decide +kernel), List.mem_of_getElem? (i := 1435) (by decide +kernel), List.mem_of_getElem? (i := 1436) (by decide +kernel)⟩
theorem lw_p84 : lw_okq (⟨"BreweryHouse$Stock", "leavingCell", "(IZ)I"⟩, 12) := ⟨⟨by decide +kernel, by decide +kernel⟩, List.mem_of_getElem? (i := 75) (by decide +kernel), List.mem_of_getElem? (i := 1443) (by decide +kernel), List.mem_of_getElem? (i := 1444) (by decide +kernel)⟩
theorem lw_p85 : lw_okq (⟨"BreweryHouse$Stock", "isFull", "(II)Z"⟩, 12) := ⟨⟨by decide +kernel, by decide +kernel⟩, List.mem_of_getElem? (i := 75) (by decide +kernel), List.mem_of_getElem? (i := 1447) (by decide +kernel), List.mem_of_getElem? (i := 1448) (by decide +kernel)⟩
theorem lw_p86 : lw_okq (⟨"BreweryHouse$Run", "seek", "(IZI)I"⟩, 21) := ⟨⟨by decide +kernel, by decide +kernel⟩, List.mem_of_getElem? (i := 417) (by decide +kernel), List.mem_of_getElem? (i := 1469) (by decide +kernel), List.mem_of_getElem? (i := 1470) (by decide +kernel)⟩
theorem lw_p87 : lw_okq (⟨"BreweryHouseModel", "readPlant", "()I"⟩, 87) := ⟨⟨by decide +kernel, by decide +kernel⟩, List.mem_of_getElem? (i := 1560) (by decide +kernel), List.mem_of_getElem? (i := 2057) (by decide +kernel), List.mem_of_getElem? (i := 2058) (by decide +kernel)⟩
theorem lw_p88 : lw_okq (⟨"BreweryHouseModel", "planLine", "()I"⟩, 87) := ⟨⟨by decide +kernel, by decide +kernel⟩, List.mem_of_getElem? (i := 1560) (by decide +kernel), List.mem_of_getElem? (i := 2061) (by decide +kernel), List.mem_of_getElem? (i := 2062) (by decide +kernel)⟩
theorem lw_p89 : lw_okq (⟨"BreweryHouseModel", "here", "()I"⟩, 87) := ⟨⟨by decide +kernel, by decide +kernel⟩, List.mem_of_getElem? (i := 1560) (by decide +kernel), List.mem_of_getElem? (i := 2065) (by decide +kernel), List.mem_of_getElem? (i := 2066) (by decide +kernel)⟩
theorem lw_p90 : lw_okq (⟨"BreweryHouseModel", "over", "(J)Z"⟩, 87) := ⟨⟨by decide +kernel, by decide +kernel⟩, List.mem_of_getElem? (i := 1560) (by decide +kernel), List.mem_of_getElem? (i := 2070) (by decide +kernel), List.mem_of_getElem? (i := 2071) (by decide +kernel)⟩
theorem lw_p91 : lw_okq (⟨"BreweryHouseModel", "number", "(Z)I"⟩, 87) := ⟨⟨by decide +kernel, by decide +kernel⟩, List.mem_of_getElem? (i := 1560) (by decide +kernel), List.mem_of_getElem? (i := 2079) (by decide +kernel), List.mem_of_getElem? (i := 2080) (by decide +kernel)⟩
theorem lw_p92 : lw_okq (⟨"BreweryHouseModel", "isNew", "(I)Z"⟩, 87) := ⟨⟨by decide +kernel, by decide +kernel⟩, List.mem_of_getElem? (i := 1560) (by decide +kernel), List.mem_of_getElem? (i := 2084) (by decide +kernel), List.mem_of_getElem? (i := 2085) (by decide +kernel)⟩
theorem lw_p93 : lw_okq (⟨"BreweryHouseModel", "build", "(I)V"⟩, 87) := ⟨⟨by decide +kernel, by decide +kernel⟩, List.mem_of_getElem? (i := 1560) (by decide +kernel), List.mem_of_getElem? (i := 2092) (by decide +kernel), List.mem_of_getElem? (i := 2093) (by decide +kernel)⟩
theorem lw_p94 : lw_okq (⟨"BreweryHouseModel", "forget", "(I)V"⟩, 87) := ⟨⟨by decide +kernel, by decide +kernel⟩, List.mem_of_getElem? (i := 1560) (by decide +kernel), List.mem_of_getElem? (i := 2096) (by decide +kernel), List.mem_of_getElem? (i := 2097) (by decide +kernel)⟩
theorem lw_p95 : lw_okq (⟨"BreweryHouseModel$Rows", "cut", "()V"⟩, 25) := ⟨⟨by decide +kernel, by decide +kernel⟩, List.mem_of_getElem? (i := 1699) (by decide +kernel), List.mem_of_getElem? (i := 2112) (by decide +kernel), List.mem_of_getElem? (i := 2113) (by decide +kernel)⟩
def lw_privs_6 : List (MethodName × Nat) := [(⟨"BreweryHouse$Run", "endsAllSides", "(II)Z"⟩, 21), (⟨"BreweryHouse$Run", "endsRounds", "(II)Z"⟩, 21), (⟨"BreweryHouse$Ways", "movesLitre", "(I)Z"⟩, 18), (⟨"BreweryHouse$Ways", "goesForth", "(I)Z"⟩, 18), (⟨"BreweryHouse$Stock", "leavingCell", "(IZ)I"⟩, 12), (⟨"BreweryHouse$Stock", "isFull", "(II)Z"⟩, 12), (⟨"BreweryHouse$Run", "seek", "(IZI)I"⟩, 21), (⟨"BreweryHouseModel", "readPlant", "()I"⟩, 87), (⟨"BreweryHouseModel", "planLine", "()I"⟩, 87), (⟨"BreweryHouseModel", "here", "()I"⟩, 87), (⟨"BreweryHouseModel", "over", "(J)Z"⟩, 87), (⟨"BreweryHouseModel", "number", "(Z)I"⟩, 87), (⟨"BreweryHouseModel", "isNew", "(I)Z"⟩, 87), (⟨"BreweryHouseModel", "build", "(I)V"⟩, 87), (⟨"BreweryHouseModel", "forget", "(I)V"⟩, 87), (⟨"BreweryHouseModel$Rows", "cut", "()V"⟩, 25)]
theorem lw_r6 : ∀ q ∈ lw_privs_6, lw_okq q := List.forall_mem_cons.mpr ⟨lw_p80, List.forall_mem_cons.mpr ⟨lw_p81, List.forall_mem_cons.mpr ⟨lw_p82, List.forall_mem_cons.mpr ⟨lw_p83, List.forall_mem_cons.mpr ⟨lw_p84, List.forall_mem_cons.mpr ⟨lw_p85, List.forall_mem_cons.mpr ⟨lw_p86, List.forall_mem_cons.mpr ⟨lw_p87, List.forall_mem_cons.mpr ⟨lw_p88, List.forall_mem_cons.mpr ⟨lw_p89, List.forall_mem_cons.mpr ⟨lw_p90, List.forall_mem_cons.mpr ⟨lw_p91, List.forall_mem_cons.mpr ⟨lw_p92, List.forall_mem_cons.mpr ⟨lw_p93, List.forall_mem_cons.mpr ⟨lw_p94, List.forall_mem_cons.mpr ⟨lw_p95, fun _ h => absurd h List.not_mem_nil⟩⟩⟩⟩⟩⟩⟩⟩⟩⟩⟩⟩⟩⟩⟩⟩
theorem lw_p96 : lw_okq (⟨"BreweryHouseModel$Rows", "is", "(IIIIIIII)Z"⟩, 25) := ⟨⟨by decide +kernel, by decide +kernel⟩, List.mem_of_getElem? (i := 1699) (by decide +kernel), List.mem_of_getElem? (i := 2119) (by decide +kernel), List.mem_of_getElem? (i := 2120) (by decide +kernel)⟩
theorem lw_p97 : lw_okq (⟨"BreweryHouseModel$Rows", "wide", "()I"⟩, 25) := ⟨⟨by decide +kernel, by decide +kernel⟩, List.mem_of_getElem? (i := 1699) (by decide +kernel), List.mem_of_getElem? (i := 2123) (by decide +kernel), List.mem_of_getElem? (i := 2124) (by decide +kernel)⟩
theorem lw_p98 : lw_okq (⟨"BreweryHouseModel$Rows", "at", "(I)I"⟩, 25) := ⟨⟨by decide +kernel, by decide +kernel⟩, List.mem_of_getElem? (i := 1699) (by decide +kernel), List.mem_of_getElem? (i := 2127) (by decide +kernel), List.mem_of_getElem? (i := 2128) (by decide +kernel)⟩
theorem lw_p99 : lw_okq (⟨"BreweryHouseModel$Rows", "readRow", "()Z"⟩, 25) := ⟨⟨by decide +kernel, by decide +kernel⟩, List.mem_of_getElem? (i := 1699) (by decide +kernel), List.mem_of_getElem? (i := 2131) (by decide +kernel), List.mem_of_getElem? (i := 2132) (by decide +kernel)⟩
theorem lw_p100 : lw_okq (⟨"BreweryHouseModel$Rows", "act", "()I"⟩, 25) := ⟨⟨by decide +kernel, by decide +kernel⟩, List.mem_of_getElem? (i := 1699) (by decide +kernel), List.mem_of_getElem? (i := 2135) (by decide +kernel), List.mem_of_getElem? (i := 2136) (by decide +kernel)⟩
theorem lw_p101 : lw_okq (⟨"BreweryHouseModel$Rows", "number", "(II)I"⟩, 25) := ⟨⟨by decide +kernel, by decide +kernel⟩, List.mem_of_getElem? (i := 1699) (by decide +kernel), List.mem_of_getElem? (i := 2139) (by decide +kernel), List.mem_of_getElem? (i := 2140) (by decide +kernel)⟩
theorem lw_p102 : lw_okq (⟨"BreweryHouseModel$Rows", "or", "()I"⟩, 25) := ⟨⟨by decide +kernel, by decide +kernel⟩, List.mem_of_getElem? (i := 1699) (by decide +kernel), List.mem_of_getElem? (i := 2143) (by decide +kernel), List.mem_of_getElem? (i := 2144) (by decide +kernel)⟩
theorem lw_p103 : lw_okq (⟨"BreweryHouseModel$Rows", "and", "()I"⟩, 25) := ⟨⟨by decide +kernel, by decide +kernel⟩, List.mem_of_getElem? (i := 1699) (by decide +kernel), List.mem_of_getElem? (i := 2147) (by decide +kernel), List.mem_of_getElem? (i := 2148) (by decide +kernel)⟩
theorem lw_p104 : lw_okq (⟨"BreweryHouseModel$Rows", "part", "()I"⟩, 25) := ⟨⟨by decide +kernel, by decide +kernel⟩, List.mem_of_getElem? (i := 1699) (by decide +kernel), List.mem_of_getElem? (i := 2151) (by decide +kernel), List.mem_of_getElem? (i := 2152) (by decide +kernel)⟩
theorem lw_p105 : lw_okq (⟨"BreweryHouseModel$Rows", "isOne", "(I)Z"⟩, 25) := ⟨⟨by decide +kernel, by decide +kernel⟩, List.mem_of_getElem? (i := 1699) (by decide +kernel), List.mem_of_getElem? (i := 2155) (by decide +kernel), List.mem_of_getElem? (i := 2156) (by decide +kernel)⟩
theorem lw_p106 : lw_okq (⟨"BreweryHouseModel$Rows", "node", "(III)I"⟩, 25) := ⟨⟨by decide +kernel, by decide +kernel⟩, List.mem_of_getElem? (i := 1699) (by decide +kernel), List.mem_of_getElem? (i := 2159) (by decide +kernel), List.mem_of_getElem? (i := 2160) (by decide +kernel)⟩
theorem lw_p107 : lw_okq (⟨"BreweryHouseModel$Rows", "conditionWord", "()I"⟩, 25) := ⟨⟨by decide +kernel, by decide +kernel⟩, List.mem_of_getElem? (i := 1699) (by decide +kernel), List.mem_of_getElem? (i := 2163) (by decide +kernel), List.mem_of_getElem? (i := 2164) (by decide +kernel)⟩
theorem lw_p108 : lw_okq (⟨"BreweryHouseModel$Text", "program", "()Z"⟩, 39) := ⟨⟨by decide +kernel, by decide +kernel⟩, List.mem_of_getElem? (i := 1566) (by decide +kernel), List.mem_of_getElem? (i := 2171) (by decide +kernel), List.mem_of_getElem? (i := 2172) (by decide +kernel)⟩
theorem lw_p109 : lw_okq (⟨"BreweryHouseModel$Text", "go", "()Z"⟩, 39) := ⟨⟨by decide +kernel, by decide +kernel⟩, List.mem_of_getElem? (i := 1566) (by decide +kernel), List.mem_of_getElem? (i := 2175) (by decide +kernel), List.mem_of_getElem? (i := 2176) (by decide +kernel)⟩
theorem lw_p110 : lw_okq (⟨"BreweryHouseModel$Text", "at", "(I)I"⟩, 39) := ⟨⟨by decide +kernel, by decide +kernel⟩, List.mem_of_getElem? (i := 1566) (by decide +kernel), List.mem_of_getElem? (i := 2179) (by decide +kernel), List.mem_of_getElem? (i := 2180) (by decide +kernel)⟩
theorem lw_p111 : lw_okq (⟨"BreweryHouseModel$Text", "digits", "()V"⟩, 39) := ⟨⟨by decide +kernel, by decide +kernel⟩, List.mem_of_getElem? (i := 1566) (by decide +kernel), List.mem_of_getElem? (i := 2189) (by decide +kernel), List.mem_of_getElem? (i := 2190) (by decide +kernel)⟩
def lw_privs_7 : List (MethodName × Nat) := [(⟨"BreweryHouseModel$Rows", "is", "(IIIIIIII)Z"⟩, 25), (⟨"BreweryHouseModel$Rows", "wide", "()I"⟩, 25), (⟨"BreweryHouseModel$Rows", "at", "(I)I"⟩, 25), (⟨"BreweryHouseModel$Rows", "readRow", "()Z"⟩, 25), (⟨"BreweryHouseModel$Rows", "act", "()I"⟩, 25), (⟨"BreweryHouseModel$Rows", "number", "(II)I"⟩, 25), (⟨"BreweryHouseModel$Rows", "or", "()I"⟩, 25), (⟨"BreweryHouseModel$Rows", "and", "()I"⟩, 25), (⟨"BreweryHouseModel$Rows", "part", "()I"⟩, 25), (⟨"BreweryHouseModel$Rows", "isOne", "(I)Z"⟩, 25), (⟨"BreweryHouseModel$Rows", "node", "(III)I"⟩, 25), (⟨"BreweryHouseModel$Rows", "conditionWord", "()I"⟩, 25), (⟨"BreweryHouseModel$Text", "program", "()Z"⟩, 39), (⟨"BreweryHouseModel$Text", "go", "()Z"⟩, 39), (⟨"BreweryHouseModel$Text", "at", "(I)I"⟩, 39), (⟨"BreweryHouseModel$Text", "digits", "()V"⟩, 39)]
theorem lw_r7 : ∀ q ∈ lw_privs_7, lw_okq q := List.forall_mem_cons.mpr ⟨lw_p96, List.forall_mem_cons.mpr ⟨lw_p97, List.forall_mem_cons.mpr ⟨lw_p98, List.forall_mem_cons.mpr ⟨lw_p99, List.forall_mem_cons.mpr ⟨lw_p100, List.forall_mem_cons.mpr ⟨lw_p101, List.forall_mem_cons.mpr ⟨lw_p102, List.forall_mem_cons.mpr ⟨lw_p103, List.forall_mem_cons.mpr ⟨lw_p104, List.forall_mem_cons.mpr ⟨lw_p105, List.forall_mem_cons.mpr ⟨lw_p106, List.forall_mem_cons.mpr ⟨lw_p107, List.forall_mem_cons.mpr ⟨lw_p108, List.forall_mem_cons.mpr ⟨lw_p109, List.forall_mem_cons.mpr ⟨lw_p110, List.forall_mem_cons.mpr ⟨lw_p111, fun _ h => absurd h List.not_mem_nil⟩⟩⟩⟩⟩⟩⟩⟩⟩⟩⟩⟩⟩⟩⟩⟩
theorem lw_p112 : lw_okq (⟨"BreweryHouseModel$Text", "meaning", "()I"⟩, 39) := ⟨⟨by decide +kernel, by decide +kernel⟩, List.mem_of_getElem? (i := 1566) (by decide +kernel), List.mem_of_getElem? (i := 2197) (by decide +kernel), List.mem_of_getElem? (i := 2198) (by decide +kernel)⟩
theorem lw_p113 : lw_okq (⟨"BreweryHouseModel$Text", "is", "(J)Z"⟩, 39) := ⟨⟨by decide +kernel, by decide +kernel⟩, List.mem_of_getElem? (i := 1566) (by decide +kernel), List.mem_of_getElem? (i := 2202) (by decide +kernel), List.mem_of_getElem? (i := 2203) (by decide +kernel)⟩
theorem lw_p114 : lw_okq (⟨"BreweryHouseModel$Text", "isWord", "(I)Z"⟩, 39) := ⟨⟨by decide +kernel, by decide +kernel⟩, List.mem_of_getElem? (i := 1566) (by decide +kernel), List.mem_of_getElem? (i := 2232) (by decide +kernel), List.mem_of_getElem? (i := 2233) (by decide +kernel)⟩
theorem lw_p115 : lw_okq (⟨"BreweryHouseModel$Text", "declaration", "()Z"⟩, 39) := ⟨⟨by decide +kernel, by decide +kernel⟩, List.mem_of_getElem? (i := 1566) (by decide +kernel), List.mem_of_getElem? (i := 2236) (by decide +kernel), List.mem_of_getElem? (i := 2237) (by decide +kernel)⟩
theorem lw_p116 : lw_okq (⟨"BreweryHouseModel$Text", "tell", "(I)I"⟩, 39) := ⟨⟨by decide +kernel, by decide +kernel⟩, List.mem_of_getElem? (i := 1566) (by decide +kernel), List.mem_of_getElem? (i := 2240) (by decide +kernel), List.mem_of_getElem? (i := 2241) (by decide +kernel)⟩
theorem lw_p117 : lw_okq (⟨"BreweryHouseModel$Text", "nameOf", "()I"⟩, 39) := ⟨⟨by decide +kernel, by decide +kernel⟩, List.mem_of_getElem? (i := 1566) (by decide +kernel), List.mem_of_getElem? (i := 2244) (by decide +kernel), List.mem_of_getElem? (i := 2245) (by decide +kernel)⟩
theorem lw_p118 : lw_okq (⟨"BreweryHouseModel$Text", "bad", "()I"⟩, 39) := ⟨⟨by decide +kernel, by decide +kernel⟩, List.mem_of_getElem? (i := 1566) (by decide +kernel), List.mem_of_getElem? (i := 2248) (by decide +kernel), List.mem_of_getElem? (i := 2249) (by decide +kernel)⟩
theorem lw_p119 : lw_okq (⟨"BreweryHouseModel$Text", "unitWord", "()I"⟩, 39) := ⟨⟨by decide +kernel, by decide +kernel⟩, List.mem_of_getElem? (i := 1566) (by decide +kernel), List.mem_of_getElem? (i := 2252) (by decide +kernel), List.mem_of_getElem? (i := 2253) (by decide +kernel)⟩
theorem lw_p120 : lw_okq (⟨"BreweryHouseModel$Text", "over", "(I)Z"⟩, 39) := ⟨⟨by decide +kernel, by decide +kernel⟩, List.mem_of_getElem? (i := 1566) (by decide +kernel), List.mem_of_getElem? (i := 2256) (by decide +kernel), List.mem_of_getElem? (i := 2257) (by decide +kernel)⟩
theorem lw_p121 : lw_okq (⟨"BreweryHouseModel$Text", "block", "()I"⟩, 39) := ⟨⟨by decide +kernel, by decide +kernel⟩, List.mem_of_getElem? (i := 1566) (by decide +kernel), List.mem_of_getElem? (i := 2260) (by decide +kernel), List.mem_of_getElem? (i := 2261) (by decide +kernel)⟩
theorem lw_p122 : lw_okq (⟨"BreweryHouseModel$Text", "statement", "()I"⟩, 39) := ⟨⟨by decide +kernel, by decide +kernel⟩, List.mem_of_getElem? (i := 1566) (by decide +kernel), List.mem_of_getElem? (i := 2264) (by decide +kernel), List.mem_of_getElem? (i := 2265) (by decide +kernel)⟩
theorem lw_p123 : lw_okq (⟨"BreweryHouseModel$Text", "known", "(I)I"⟩, 39) := ⟨⟨by decide +kernel, by decide +kernel⟩, List.mem_of_getElem? (i := 1566) (by decide +kernel), List.mem_of_getElem? (i := 2268) (by decide +kernel), List.mem_of_getElem? (i := 2269) (by decide +kernel)⟩
theorem lw_p124 : lw_okq (⟨"BreweryHouseModel$Text", "sumOf", "(I)Z"⟩, 39) := ⟨⟨by decide +kernel, by decide +kernel⟩, List.mem_of_getElem? (i := 1566) (by decide +kernel), List.mem_of_getElem? (i := 2272) (by decide +kernel), List.mem_of_getElem? (i := 2273) (by decide +kernel)⟩
theorem lw_p125 : lw_okq (⟨"BreweryHouseModel$Text", "sum", "()I"⟩, 39) := ⟨⟨by decide +kernel, by decide +kernel⟩, List.mem_of_getElem? (i := 1566) (by decide +kernel), List.mem_of_getElem? (i := 2276) (by decide +kernel), List.mem_of_getElem? (i := 2277) (by decide +kernel)⟩
theorem lw_p126 : lw_okq (⟨"BreweryHouseModel$Text", "product", "()I"⟩, 39) := ⟨⟨by decide +kernel, by decide +kernel⟩, List.mem_of_getElem? (i := 1566) (by decide +kernel), List.mem_of_getElem? (i := 2280) (by decide +kernel), List.mem_of_getElem? (i := 2281) (by decide +kernel)⟩
theorem lw_p127 : lw_okq (⟨"BreweryHouseModel$Text", "factor", "()I"⟩, 39) := ⟨⟨by decide +kernel, by decide +kernel⟩, List.mem_of_getElem? (i := 1566) (by decide +kernel), List.mem_of_getElem? (i := 2284) (by decide +kernel), List.mem_of_getElem? (i := 2285) (by decide +kernel)⟩
def lw_privs_8 : List (MethodName × Nat) := [(⟨"BreweryHouseModel$Text", "meaning", "()I"⟩, 39), (⟨"BreweryHouseModel$Text", "is", "(J)Z"⟩, 39), (⟨"BreweryHouseModel$Text", "isWord", "(I)Z"⟩, 39), (⟨"BreweryHouseModel$Text", "declaration", "()Z"⟩, 39), (⟨"BreweryHouseModel$Text", "tell", "(I)I"⟩, 39), (⟨"BreweryHouseModel$Text", "nameOf", "()I"⟩, 39), (⟨"BreweryHouseModel$Text", "bad", "()I"⟩, 39), (⟨"BreweryHouseModel$Text", "unitWord", "()I"⟩, 39), (⟨"BreweryHouseModel$Text", "over", "(I)Z"⟩, 39), (⟨"BreweryHouseModel$Text", "block", "()I"⟩, 39), (⟨"BreweryHouseModel$Text", "statement", "()I"⟩, 39), (⟨"BreweryHouseModel$Text", "known", "(I)I"⟩, 39), (⟨"BreweryHouseModel$Text", "sumOf", "(I)Z"⟩, 39), (⟨"BreweryHouseModel$Text", "sum", "()I"⟩, 39), (⟨"BreweryHouseModel$Text", "product", "()I"⟩, 39), (⟨"BreweryHouseModel$Text", "factor", "()I"⟩, 39)]
theorem lw_r8 : ∀ q ∈ lw_privs_8, lw_okq q := List.forall_mem_cons.mpr ⟨lw_p112, List.forall_mem_cons.mpr ⟨lw_p113, List.forall_mem_cons.mpr ⟨lw_p114, List.forall_mem_cons.mpr ⟨lw_p115, List.forall_mem_cons.mpr ⟨lw_p116, List.forall_mem_cons.mpr ⟨lw_p117, List.forall_mem_cons.mpr ⟨lw_p118, List.forall_mem_cons.mpr ⟨lw_p119, List.forall_mem_cons.mpr ⟨lw_p120, List.forall_mem_cons.mpr ⟨lw_p121, List.forall_mem_cons.mpr ⟨lw_p122, List.forall_mem_cons.mpr ⟨lw_p123, List.forall_mem_cons.mpr ⟨lw_p124, List.forall_mem_cons.mpr ⟨lw_p125, List.forall_mem_cons.mpr ⟨lw_p126, List.forall_mem_cons.mpr ⟨lw_p127, fun _ h => absurd h List.not_mem_nil⟩⟩⟩⟩⟩⟩⟩⟩⟩⟩⟩⟩⟩⟩⟩⟩
theorem lw_p128 : lw_okq (⟨"BreweryHouseModel$Text", "numberNode", "(I)I"⟩, 39) := ⟨⟨by decide +kernel, by decide +kernel⟩, List.mem_of_getElem? (i := 1566) (by decide +kernel), List.mem_of_getElem? (i := 2288) (by decide +kernel), List.mem_of_getElem? (i := 2289) (by decide +kernel)⟩
theorem lw_p129 : lw_okq (⟨"BreweryHouseModel$Text", "node", "(IJIII)I"⟩, 39) := ⟨⟨by decide +kernel, by decide +kernel⟩, List.mem_of_getElem? (i := 1566) (by decide +kernel), List.mem_of_getElem? (i := 2295) (by decide +kernel), List.mem_of_getElem? (i := 2296) (by decide +kernel)⟩
theorem lw_p130 : lw_okq (⟨"BreweryHouseModel$Text", "base", "()I"⟩, 39) := ⟨⟨by decide +kernel, by decide +kernel⟩, List.mem_of_getElem? (i := 1566) (by decide +kernel), List.mem_of_getElem? (i := 2299) (by decide +kernel), List.mem_of_getElem? (i := 2300) (by decide +kernel)⟩
theorem lw_p131 : lw_okq (⟨"BreweryHouseModel$Text", "push", "(I)V"⟩, 39) := ⟨⟨by decide +kernel, by decide +kernel⟩, List.mem_of_getElem? (i := 1566) (by decide +kernel), List.mem_of_getElem? (i := 2303) (by decide +kernel), List.mem_of_getElem? (i := 2304) (by decide +kernel)⟩
theorem lw_p132 : lw_okq (⟨"BreweryHouseModel$Text", "unitIn", "(I)I"⟩, 39) := ⟨⟨by decide +kernel, by decide +kernel⟩, List.mem_of_getElem? (i := 1566) (by decide +kernel), List.mem_of_getElem? (i := 2307) (by decide +kernel), List.mem_of_getElem? (i := 2308) (by decide +kernel)⟩
theorem lw_p133 : lw_okq (⟨"BreweryHouseModel$Text", "two", "(IIII)I"⟩, 39) := ⟨⟨by decide +kernel, by decide +kernel⟩, List.mem_of_getElem? (i := 1566) (by decide +kernel), List.mem_of_getElem? (i := 2311) (by decide +kernel), List.mem_of_getElem? (i := 2312) (by decide +kernel)⟩
theorem lw_p134 : lw_okq (⟨"BreweryHouseModel$Text", "test", "()I"⟩, 39) := ⟨⟨by decide +kernel, by decide +kernel⟩, List.mem_of_getElem? (i := 1566) (by decide +kernel), List.mem_of_getElem? (i := 2315) (by decide +kernel), List.mem_of_getElem? (i := 2316) (by decide +kernel)⟩
theorem lw_p135 : lw_okq (⟨"BreweryHouseModel$Text", "pushed", "(I)Z"⟩, 39) := ⟨⟨by decide +kernel, by decide +kernel⟩, List.mem_of_getElem? (i := 1566) (by decide +kernel), List.mem_of_getElem? (i := 2319) (by decide +kernel), List.mem_of_getElem? (i := 2320) (by decide +kernel)⟩
theorem lw_p136 : lw_okq (⟨"BreweryHouseModel$Text", "isSmall", "()Z"⟩, 39) := ⟨⟨by decide +kernel, by decide +kernel⟩, List.mem_of_getElem? (i := 1566) (by decide +kernel), List.mem_of_getElem? (i := 2324) (by decide +kernel), List.mem_of_getElem? (i := 2325) (by decide +kernel)⟩
theorem lw_p137 : lw_okq (⟨"BreweryHouseModel", "closeAll", "()V"⟩, 87) := ⟨⟨by decide +kernel, by decide +kernel⟩, List.mem_of_getElem? (i := 1560) (by decide +kernel), List.mem_of_getElem? (i := 2328) (by decide +kernel), List.mem_of_getElem? (i := 2329) (by decide +kernel)⟩
theorem lw_p138 : lw_okq (⟨"BreweryHouseModel", "close", "(I)V"⟩, 87) := ⟨⟨by decide +kernel, by decide +kernel⟩, List.mem_of_getElem? (i := 1560) (by decide +kernel), List.mem_of_getElem? (i := 2332) (by decide +kernel), List.mem_of_getElem? (i := 2333) (by decide +kernel)⟩
theorem lw_p139 : lw_okq (⟨"BreweryHouseModel", "held", "(I)I"⟩, 87) := ⟨⟨by decide +kernel, by decide +kernel⟩, List.mem_of_getElem? (i := 1560) (by decide +kernel), List.mem_of_getElem? (i := 2336) (by decide +kernel), List.mem_of_getElem? (i := 2337) (by decide +kernel)⟩
theorem lw_p140 : lw_okq (⟨"BreweryHouseModel", "say", "(J)V"⟩, 87) := ⟨⟨by decide +kernel, by decide +kernel⟩, List.mem_of_getElem? (i := 1560) (by decide +kernel), List.mem_of_getElem? (i := 2345) (by decide +kernel), List.mem_of_getElem? (i := 2346) (by decide +kernel)⟩
theorem lw_p141 : lw_okq (⟨"BreweryHouseModel", "letter", "(I)V"⟩, 87) := ⟨⟨by decide +kernel, by decide +kernel⟩, List.mem_of_getElem? (i := 1560) (by decide +kernel), List.mem_of_getElem? (i := 2349) (by decide +kernel), List.mem_of_getElem? (i := 2350) (by decide +kernel)⟩
theorem lw_p142 : lw_okq (⟨"BreweryHouseModel", "sayNumber", "(I)V"⟩, 87) := ⟨⟨by decide +kernel, by decide +kernel⟩, List.mem_of_getElem? (i := 1560) (by decide +kernel), List.mem_of_getElem? (i := 2353) (by decide +kernel), List.mem_of_getElem? (i := 2354) (by decide +kernel)⟩
theorem lw_p143 : lw_okq (⟨"BreweryHouseModel", "look", "()V"⟩, 87) := ⟨⟨by decide +kernel, by decide +kernel⟩, List.mem_of_getElem? (i := 1560) (by decide +kernel), List.mem_of_getElem? (i := 2362) (by decide +kernel), List.mem_of_getElem? (i := 2363) (by decide +kernel)⟩
def lw_privs_9 : List (MethodName × Nat) := [(⟨"BreweryHouseModel$Text", "numberNode", "(I)I"⟩, 39), (⟨"BreweryHouseModel$Text", "node", "(IJIII)I"⟩, 39), (⟨"BreweryHouseModel$Text", "base", "()I"⟩, 39), (⟨"BreweryHouseModel$Text", "push", "(I)V"⟩, 39), (⟨"BreweryHouseModel$Text", "unitIn", "(I)I"⟩, 39), (⟨"BreweryHouseModel$Text", "two", "(IIII)I"⟩, 39), (⟨"BreweryHouseModel$Text", "test", "()I"⟩, 39), (⟨"BreweryHouseModel$Text", "pushed", "(I)Z"⟩, 39), (⟨"BreweryHouseModel$Text", "isSmall", "()Z"⟩, 39), (⟨"BreweryHouseModel", "closeAll", "()V"⟩, 87), (⟨"BreweryHouseModel", "close", "(I)V"⟩, 87), (⟨"BreweryHouseModel", "held", "(I)I"⟩, 87), (⟨"BreweryHouseModel", "say", "(J)V"⟩, 87), (⟨"BreweryHouseModel", "letter", "(I)V"⟩, 87), (⟨"BreweryHouseModel", "sayNumber", "(I)V"⟩, 87), (⟨"BreweryHouseModel", "look", "()V"⟩, 87)]
theorem lw_r9 : ∀ q ∈ lw_privs_9, lw_okq q := List.forall_mem_cons.mpr ⟨lw_p128, List.forall_mem_cons.mpr ⟨lw_p129, List.forall_mem_cons.mpr ⟨lw_p130, List.forall_mem_cons.mpr ⟨lw_p131, List.forall_mem_cons.mpr ⟨lw_p132, List.forall_mem_cons.mpr ⟨lw_p133, List.forall_mem_cons.mpr ⟨lw_p134, List.forall_mem_cons.mpr ⟨lw_p135, List.forall_mem_cons.mpr ⟨lw_p136, List.forall_mem_cons.mpr ⟨lw_p137, List.forall_mem_cons.mpr ⟨lw_p138, List.forall_mem_cons.mpr ⟨lw_p139, List.forall_mem_cons.mpr ⟨lw_p140, List.forall_mem_cons.mpr ⟨lw_p141, List.forall_mem_cons.mpr ⟨lw_p142, List.forall_mem_cons.mpr ⟨lw_p143, fun _ h => absurd h List.not_mem_nil⟩⟩⟩⟩⟩⟩⟩⟩⟩⟩⟩⟩⟩⟩⟩⟩
theorem lw_p144 : lw_okq (⟨"BreweryHouseModel", "liquidIn", "(I)I"⟩, 87) := ⟨⟨by decide +kernel, by decide +kernel⟩, List.mem_of_getElem? (i := 1560) (by decide +kernel), List.mem_of_getElem? (i := 2366) (by decide +kernel), List.mem_of_getElem? (i := 2367) (by decide +kernel)⟩
theorem lw_p145 : lw_okq (⟨"BreweryHouseModel", "carry", "(II)V"⟩, 87) := ⟨⟨by decide +kernel, by decide +kernel⟩, List.mem_of_getElem? (i := 1560) (by decide +kernel), List.mem_of_getElem? (i := 2370) (by decide +kernel), List.mem_of_getElem? (i := 2371) (by decide +kernel)⟩
theorem lw_p146 : lw_okq (⟨"BreweryHouseModel", "isSafe", "()Z"⟩, 87) := ⟨⟨by decide +kernel, by decide +kernel⟩, List.mem_of_getElem? (i := 1560) (by decide +kernel), List.mem_of_getElem? (i := 2374) (by decide +kernel), List.mem_of_getElem? (i := 2375) (by decide +kernel)⟩
theorem lw_p147 : lw_okq (⟨"BreweryHouseModel", "isCalm", "(I)Z"⟩, 87) := ⟨⟨by decide +kernel, by decide +kernel⟩, List.mem_of_getElem? (i := 1560) (by decide +kernel), List.mem_of_getElem? (i := 2378) (by decide +kernel), List.mem_of_getElem? (i := 2379) (by decide +kernel)⟩
theorem lw_p148 : lw_okq (⟨"BreweryHouseModel", "join", "()V"⟩, 87) := ⟨⟨by decide +kernel, by decide +kernel⟩, List.mem_of_getElem? (i := 1560) (by decide +kernel), List.mem_of_getElem? (i := 2382) (by decide +kernel), List.mem_of_getElem? (i := 2383) (by decide +kernel)⟩
theorem lw_p149 : lw_okq (⟨"BreweryHouseModel", "flood", "(I)J"⟩, 87) := ⟨⟨by decide +kernel, by decide +kernel⟩, List.mem_of_getElem? (i := 1560) (by decide +kernel), List.mem_of_getElem? (i := 2389) (by decide +kernel), List.mem_of_getElem? (i := 2390) (by decide +kernel)⟩
theorem lw_p150 : lw_okq (⟨"BreweryHouseModel", "mayMeet", "(II)Z"⟩, 87) := ⟨⟨by decide +kernel, by decide +kernel⟩, List.mem_of_getElem? (i := 1560) (by decide +kernel), List.mem_of_getElem? (i := 2393) (by decide +kernel), List.mem_of_getElem? (i := 2394) (by decide +kernel)⟩
theorem lw_p151 : lw_okq (⟨"BreweryHouseModel", "isValve", "(I)Z"⟩, 87) := ⟨⟨by decide +kernel, by decide +kernel⟩, List.mem_of_getElem? (i := 1560) (by decide +kernel), List.mem_of_getElem? (i := 2405) (by decide +kernel), List.mem_of_getElem? (i := 2406) (by decide +kernel)⟩
theorem lw_p152 : lw_okq (⟨"BreweryHouseModel", "isThing", "(I)Z"⟩, 87) := ⟨⟨by decide +kernel, by decide +kernel⟩, List.mem_of_getElem? (i := 1560) (by decide +kernel), List.mem_of_getElem? (i := 2409) (by decide +kernel), List.mem_of_getElem? (i := 2410) (by decide +kernel)⟩
theorem lw_p153 : lw_okq (⟨"BreweryHouseModel", "holdsLiquid", "(I)Z"⟩, 87) := ⟨⟨by decide +kernel, by decide +kernel⟩, List.mem_of_getElem? (i := 1560) (by decide +kernel), List.mem_of_getElem? (i := 2413) (by decide +kernel), List.mem_of_getElem? (i := 2414) (by decide +kernel)⟩
theorem lw_p154 : lw_okq (⟨"BreweryHouseModel", "isTank", "(I)Z"⟩, 87) := ⟨⟨by decide +kernel, by decide +kernel⟩, List.mem_of_getElem? (i := 1560) (by decide +kernel), List.mem_of_getElem? (i := 2417) (by decide +kernel), List.mem_of_getElem? (i := 2418) (by decide +kernel)⟩
theorem lw_p155 : lw_okq (⟨"BreweryHouseModel", "isPipe", "(I)Z"⟩, 87) := ⟨⟨by decide +kernel, by decide +kernel⟩, List.mem_of_getElem? (i := 1560) (by decide +kernel), List.mem_of_getElem? (i := 2421) (by decide +kernel), List.mem_of_getElem? (i := 2422) (by decide +kernel)⟩
theorem lw_p156 : lw_okq (⟨"BreweryHouseModel", "litresIn", "(I)I"⟩, 87) := ⟨⟨by decide +kernel, by decide +kernel⟩, List.mem_of_getElem? (i := 1560) (by decide +kernel), List.mem_of_getElem? (i := 2425) (by decide +kernel), List.mem_of_getElem? (i := 2426) (by decide +kernel)⟩
theorem lw_p157 : lw_okq (⟨"BreweryHouseModel", "level", "(I)I"⟩, 87) := ⟨⟨by decide +kernel, by decide +kernel⟩, List.mem_of_getElem? (i := 1560) (by decide +kernel), List.mem_of_getElem? (i := 2429) (by decide +kernel), List.mem_of_getElem? (i := 2430) (by decide +kernel)⟩
theorem lw_p158 : lw_okq (⟨"BreweryHouseModel", "mayCome", "(II)Z"⟩, 87) := ⟨⟨by decide +kernel, by decide +kernel⟩, List.mem_of_getElem? (i := 1560) (by decide +kernel), List.mem_of_getElem? (i := 2438) (by decide +kernel), List.mem_of_getElem? (i := 2439) (by decide +kernel)⟩
theorem lw_p159 : lw_okq (⟨"BreweryHouseModel", "note", "(I)V"⟩, 87) := ⟨⟨by decide +kernel, by decide +kernel⟩, List.mem_of_getElem? (i := 1560) (by decide +kernel), List.mem_of_getElem? (i := 2442) (by decide +kernel), List.mem_of_getElem? (i := 2443) (by decide +kernel)⟩
def lw_privs_10 : List (MethodName × Nat) := [(⟨"BreweryHouseModel", "liquidIn", "(I)I"⟩, 87), (⟨"BreweryHouseModel", "carry", "(II)V"⟩, 87), (⟨"BreweryHouseModel", "isSafe", "()Z"⟩, 87), (⟨"BreweryHouseModel", "isCalm", "(I)Z"⟩, 87), (⟨"BreweryHouseModel", "join", "()V"⟩, 87), (⟨"BreweryHouseModel", "flood", "(I)J"⟩, 87), (⟨"BreweryHouseModel", "mayMeet", "(II)Z"⟩, 87), (⟨"BreweryHouseModel", "isValve", "(I)Z"⟩, 87), (⟨"BreweryHouseModel", "isThing", "(I)Z"⟩, 87), (⟨"BreweryHouseModel", "holdsLiquid", "(I)Z"⟩, 87), (⟨"BreweryHouseModel", "isTank", "(I)Z"⟩, 87), (⟨"BreweryHouseModel", "isPipe", "(I)Z"⟩, 87), (⟨"BreweryHouseModel", "litresIn", "(I)I"⟩, 87), (⟨"BreweryHouseModel", "level", "(I)I"⟩, 87), (⟨"BreweryHouseModel", "mayCome", "(II)Z"⟩, 87), (⟨"BreweryHouseModel", "note", "(I)V"⟩, 87)]
theorem lw_r10 : ∀ q ∈ lw_privs_10, lw_okq q := List.forall_mem_cons.mpr ⟨lw_p144, List.forall_mem_cons.mpr ⟨lw_p145, List.forall_mem_cons.mpr ⟨lw_p146, List.forall_mem_cons.mpr ⟨lw_p147, List.forall_mem_cons.mpr ⟨lw_p148, List.forall_mem_cons.mpr ⟨lw_p149, List.forall_mem_cons.mpr ⟨lw_p150, List.forall_mem_cons.mpr ⟨lw_p151, List.forall_mem_cons.mpr ⟨lw_p152, List.forall_mem_cons.mpr ⟨lw_p153, List.forall_mem_cons.mpr ⟨lw_p154, List.forall_mem_cons.mpr ⟨lw_p155, List.forall_mem_cons.mpr ⟨lw_p156, List.forall_mem_cons.mpr ⟨lw_p157, List.forall_mem_cons.mpr ⟨lw_p158, List.forall_mem_cons.mpr ⟨lw_p159, fun _ h => absurd h List.not_mem_nil⟩⟩⟩⟩⟩⟩⟩⟩⟩⟩⟩⟩⟩⟩⟩⟩
theorem lw_p160 : lw_okq (⟨"BreweryHouseModel", "perform", "(I)I"⟩, 87) := ⟨⟨by decide +kernel, by decide +kernel⟩, List.mem_of_getElem? (i := 1560) (by decide +kernel), List.mem_of_getElem? (i := 2467) (by decide +kernel), List.mem_of_getElem? (i := 2468) (by decide +kernel)⟩
theorem lw_p161 : lw_okq (⟨"BreweryHouseModel$Rows", "isOn", "(I)Z"⟩, 25) := ⟨⟨by decide +kernel, by decide +kernel⟩, List.mem_of_getElem? (i := 1699) (by decide +kernel), List.mem_of_getElem? (i := 2475) (by decide +kernel), List.mem_of_getElem? (i := 2476) (by decide +kernel)⟩
theorem lw_p162 : lw_okq (⟨"BreweryHouseModel$Rows", "value", "(I)Z"⟩, 25) := ⟨⟨by decide +kernel, by decide +kernel⟩, List.mem_of_getElem? (i := 1699) (by decide +kernel), List.mem_of_getElem? (i := 2479) (by decide +kernel), List.mem_of_getElem? (i := 2480) (by decide +kernel)⟩
theorem lw_p163 : lw_okq (⟨"BreweryHouseModel$Rows", "hasAct", "(II)Z"⟩, 25) := ⟨⟨by decide +kernel, by decide +kernel⟩, List.mem_of_getElem? (i := 1699) (by decide +kernel), List.mem_of_getElem? (i := 2483) (by decide +kernel), List.mem_of_getElem? (i := 2484) (by decide +kernel)⟩
theorem lw_p164 : lw_okq (⟨"BreweryHouseModel", "open", "(III)I"⟩, 87) := ⟨⟨by decide +kernel, by decide +kernel⟩, List.mem_of_getElem? (i := 1560) (by decide +kernel), List.mem_of_getElem? (i := 2487) (by decide +kernel), List.mem_of_getElem? (i := 2488) (by decide +kernel)⟩
theorem lw_p165 : lw_okq (⟨"BreweryHouseModel", "openWay", "(II)I"⟩, 87) := ⟨⟨by decide +kernel, by decide +kernel⟩, List.mem_of_getElem? (i := 1560) (by decide +kernel), List.mem_of_getElem? (i := 2491) (by decide +kernel), List.mem_of_getElem? (i := 2492) (by decide +kernel)⟩
theorem lw_p166 : lw_okq (⟨"BreweryHouseModel", "find", "(II)Z"⟩, 87) := ⟨⟨by decide +kernel, by decide +kernel⟩, List.mem_of_getElem? (i := 1560) (by decide +kernel), List.mem_of_getElem? (i := 2495) (by decide +kernel), List.mem_of_getElem? (i := 2496) (by decide +kernel)⟩
theorem lw_p167 : lw_okq (⟨"BreweryHouseModel", "measure", "(I)V"⟩, 87) := ⟨⟨by decide +kernel, by decide +kernel⟩, List.mem_of_getElem? (i := 1560) (by decide +kernel), List.mem_of_getElem? (i := 2499) (by decide +kernel), List.mem_of_getElem? (i := 2500) (by decide +kernel)⟩
theorem lw_p168 : lw_okq (⟨"BreweryHouseModel", "needOf", "(II)I"⟩, 87) := ⟨⟨by decide +kernel, by decide +kernel⟩, List.mem_of_getElem? (i := 1560) (by decide +kernel), List.mem_of_getElem? (i := 2503) (by decide +kernel), List.mem_of_getElem? (i := 2504) (by decide +kernel)⟩
theorem lw_p169 : lw_okq (⟨"BreweryHouseModel", "isOnWay", "(I)Z"⟩, 87) := ⟨⟨by decide +kernel, by decide +kernel⟩, List.mem_of_getElem? (i := 1560) (by decide +kernel), List.mem_of_getElem? (i := 2510) (by decide +kernel), List.mem_of_getElem? (i := 2511) (by decide +kernel)⟩
theorem lw_p170 : lw_okq (⟨"BreweryHouseModel", "raise", "(II)V"⟩, 87) := ⟨⟨by decide +kernel, by decide +kernel⟩, List.mem_of_getElem? (i := 1560) (by decide +kernel), List.mem_of_getElem? (i := 2514) (by decide +kernel), List.mem_of_getElem? (i := 2515) (by decide +kernel)⟩
theorem lw_p171 : lw_okq (⟨"BreweryHouseModel", "isRole", "(II)Z"⟩, 87) := ⟨⟨by decide +kernel, by decide +kernel⟩, List.mem_of_getElem? (i := 1560) (by decide +kernel), List.mem_of_getElem? (i := 2522) (by decide +kernel), List.mem_of_getElem? (i := 2523) (by decide +kernel)⟩
theorem lw_p172 : lw_okq (⟨"BreweryHouseModel$Rows", "isRow", "(I)Z"⟩, 25) := ⟨⟨by decide +kernel, by decide +kernel⟩, List.mem_of_getElem? (i := 1699) (by decide +kernel), List.mem_of_getElem? (i := 2546) (by decide +kernel), List.mem_of_getElem? (i := 2547) (by decide +kernel)⟩
theorem lw_p173 : lw_okq (⟨"BreweryHouseModel$Text", "node", "(I)I"⟩, 39) := ⟨⟨by decide +kernel, by decide +kernel⟩, List.mem_of_getElem? (i := 1566) (by decide +kernel), List.mem_of_getElem? (i := 2571) (by decide +kernel), List.mem_of_getElem? (i := 2572) (by decide +kernel)⟩
theorem lw_p174 : lw_okq (⟨"BreweryHouseModel", "lay", "(I)I"⟩, 87) := ⟨⟨by decide +kernel, by decide +kernel⟩, List.mem_of_getElem? (i := 1560) (by decide +kernel), List.mem_of_getElem? (i := 2575) (by decide +kernel), List.mem_of_getElem? (i := 2576) (by decide +kernel)⟩
theorem lw_p175 : lw_okq (⟨"BreweryHouseModel$Text", "kid", "(II)I"⟩, 39) := ⟨⟨by decide +kernel, by decide +kernel⟩, List.mem_of_getElem? (i := 1566) (by decide +kernel), List.mem_of_getElem? (i := 2579) (by decide +kernel), List.mem_of_getElem? (i := 2580) (by decide +kernel)⟩
def lw_privs_11 : List (MethodName × Nat) := [(⟨"BreweryHouseModel", "perform", "(I)I"⟩, 87), (⟨"BreweryHouseModel$Rows", "isOn", "(I)Z"⟩, 25), (⟨"BreweryHouseModel$Rows", "value", "(I)Z"⟩, 25), (⟨"BreweryHouseModel$Rows", "hasAct", "(II)Z"⟩, 25), (⟨"BreweryHouseModel", "open", "(III)I"⟩, 87), (⟨"BreweryHouseModel", "openWay", "(II)I"⟩, 87), (⟨"BreweryHouseModel", "find", "(II)Z"⟩, 87), (⟨"BreweryHouseModel", "measure", "(I)V"⟩, 87), (⟨"BreweryHouseModel", "needOf", "(II)I"⟩, 87), (⟨"BreweryHouseModel", "isOnWay", "(I)Z"⟩, 87), (⟨"BreweryHouseModel", "raise", "(II)V"⟩, 87), (⟨"BreweryHouseModel", "isRole", "(II)Z"⟩, 87), (⟨"BreweryHouseModel$Rows", "isRow", "(I)Z"⟩, 25), (⟨"BreweryHouseModel$Text", "node", "(I)I"⟩, 39), (⟨"BreweryHouseModel", "lay", "(I)I"⟩, 87), (⟨"BreweryHouseModel$Text", "kid", "(II)I"⟩, 39)]
theorem lw_r11 : ∀ q ∈ lw_privs_11, lw_okq q := List.forall_mem_cons.mpr ⟨lw_p160, List.forall_mem_cons.mpr ⟨lw_p161, List.forall_mem_cons.mpr ⟨lw_p162, List.forall_mem_cons.mpr ⟨lw_p163, List.forall_mem_cons.mpr ⟨lw_p164, List.forall_mem_cons.mpr ⟨lw_p165, List.forall_mem_cons.mpr ⟨lw_p166, List.forall_mem_cons.mpr ⟨lw_p167, List.forall_mem_cons.mpr ⟨lw_p168, List.forall_mem_cons.mpr ⟨lw_p169, List.forall_mem_cons.mpr ⟨lw_p170, List.forall_mem_cons.mpr ⟨lw_p171, List.forall_mem_cons.mpr ⟨lw_p172, List.forall_mem_cons.mpr ⟨lw_p173, List.forall_mem_cons.mpr ⟨lw_p174, List.forall_mem_cons.mpr ⟨lw_p175, fun _ h => absurd h List.not_mem_nil⟩⟩⟩⟩⟩⟩⟩⟩⟩⟩⟩⟩⟩⟩⟩⟩
theorem lw_p176 : lw_okq (⟨"BreweryHouseModel", "kids", "(I)I"⟩, 87) := ⟨⟨by decide +kernel, by decide +kernel⟩, List.mem_of_getElem? (i := 1560) (by decide +kernel), List.mem_of_getElem? (i := 2584) (by decide +kernel), List.mem_of_getElem? (i := 2585) (by decide +kernel)⟩
theorem lw_p177 : lw_okq (⟨"BreweryHouseModel", "hang", "(III)I"⟩, 87) := ⟨⟨by decide +kernel, by decide +kernel⟩, List.mem_of_getElem? (i := 1560) (by decide +kernel), List.mem_of_getElem? (i := 2588) (by decide +kernel), List.mem_of_getElem? (i := 2589) (by decide +kernel)⟩
theorem lw_p178 : lw_okq (⟨"BreweryHouseModel", "senseAll", "()V"⟩, 87) := ⟨⟨by decide +kernel, by decide +kernel⟩, List.mem_of_getElem? (i := 1560) (by decide +kernel), List.mem_of_getElem? (i := 2596) (by decide +kernel), List.mem_of_getElem? (i := 2597) (by decide +kernel)⟩
theorem lw_p179 : lw_okq (⟨"BreweryHouseModel", "sensed", "(II)J"⟩, 87) := ⟨⟨by decide +kernel, by decide +kernel⟩, List.mem_of_getElem? (i := 1560) (by decide +kernel), List.mem_of_getElem? (i := 2600) (by decide +kernel), List.mem_of_getElem? (i := 2601) (by decide +kernel)⟩
theorem lw_p180 : lw_okq (⟨"BreweryHouseModel", "walk", "()V"⟩, 87) := ⟨⟨by decide +kernel, by decide +kernel⟩, List.mem_of_getElem? (i := 1560) (by decide +kernel), List.mem_of_getElem? (i := 2612) (by decide +kernel), List.mem_of_getElem? (i := 2613) (by decide +kernel)⟩
theorem lw_p181 : lw_okq (⟨"BreweryHouseModel", "limits", "(I)Z"⟩, 87) := ⟨⟨by decide +kernel, by decide +kernel⟩, List.mem_of_getElem? (i := 1560) (by decide +kernel), List.mem_of_getElem? (i := 2616) (by decide +kernel), List.mem_of_getElem? (i := 2617) (by decide +kernel)⟩
theorem lw_p182 : lw_okq (⟨"BreweryHouseModel", "kind", "(I)I"⟩, 87) := ⟨⟨by decide +kernel, by decide +kernel⟩, List.mem_of_getElem? (i := 1560) (by decide +kernel), List.mem_of_getElem? (i := 2620) (by decide +kernel), List.mem_of_getElem? (i := 2621) (by decide +kernel)⟩
theorem lw_p183 : lw_okq (⟨"BreweryHouseModel", "reckon", "(I)J"⟩, 87) := ⟨⟨by decide +kernel, by decide +kernel⟩, List.mem_of_getElem? (i := 1560) (by decide +kernel), List.mem_of_getElem? (i := 2624) (by decide +kernel), List.mem_of_getElem? (i := 2625) (by decide +kernel)⟩
theorem lw_p184 : lw_okq (⟨"BreweryHouseModel", "isBad", "()Z"⟩, 87) := ⟨⟨by decide +kernel, by decide +kernel⟩, List.mem_of_getElem? (i := 1560) (by decide +kernel), List.mem_of_getElem? (i := 2628) (by decide +kernel), List.mem_of_getElem? (i := 2629) (by decide +kernel)⟩
theorem lw_p185 : lw_okq (⟨"BreweryHouseModel", "go", "(I)I"⟩, 87) := ⟨⟨by decide +kernel, by decide +kernel⟩, List.mem_of_getElem? (i := 1560) (by decide +kernel), List.mem_of_getElem? (i := 2632) (by decide +kernel), List.mem_of_getElem? (i := 2633) (by decide +kernel)⟩
theorem lw_p186 : lw_okq (⟨"BreweryHouseModel", "begin", "(I)Z"⟩, 87) := ⟨⟨by decide +kernel, by decide +kernel⟩, List.mem_of_getElem? (i := 1560) (by decide +kernel), List.mem_of_getElem? (i := 2636) (by decide +kernel), List.mem_of_getElem? (i := 2637) (by decide +kernel)⟩
theorem lw_p187 : lw_okq (⟨"BreweryHouseModel", "goUntil", "(I)I"⟩, 87) := ⟨⟨by decide +kernel, by decide +kernel⟩, List.mem_of_getElem? (i := 1560) (by decide +kernel), List.mem_of_getElem? (i := 2640) (by decide +kernel), List.mem_of_getElem? (i := 2641) (by decide +kernel)⟩
theorem lw_p188 : lw_okq (⟨"BreweryHouseModel", "goPar", "(I)I"⟩, 87) := ⟨⟨by decide +kernel, by decide +kernel⟩, List.mem_of_getElem? (i := 1560) (by decide +kernel), List.mem_of_getElem? (i := 2644) (by decide +kernel), List.mem_of_getElem? (i := 2645) (by decide +kernel)⟩
theorem lw_p189 : lw_okq (⟨"BreweryHouseModel", "goRamp", "(I)I"⟩, 87) := ⟨⟨by decide +kernel, by decide +kernel⟩, List.mem_of_getElem? (i := 1560) (by decide +kernel), List.mem_of_getElem? (i := 2648) (by decide +kernel), List.mem_of_getElem? (i := 2649) (by decide +kernel)⟩
theorem lw_p190 : lw_okq (⟨"BreweryHouseModel", "flow", "(I)V"⟩, 87) := ⟨⟨by decide +kernel, by decide +kernel⟩, List.mem_of_getElem? (i := 1560) (by decide +kernel), List.mem_of_getElem? (i := 2652) (by decide +kernel), List.mem_of_getElem? (i := 2653) (by decide +kernel)⟩
theorem lw_p191 : lw_okq (⟨"BreweryHouseModel", "come", "(II)V"⟩, 87) := ⟨⟨by decide +kernel, by decide +kernel⟩, List.mem_of_getElem? (i := 1560) (by decide +kernel), List.mem_of_getElem? (i := 2656) (by decide +kernel), List.mem_of_getElem? (i := 2657) (by decide +kernel)⟩
def lw_privs_12 : List (MethodName × Nat) := [(⟨"BreweryHouseModel", "kids", "(I)I"⟩, 87), (⟨"BreweryHouseModel", "hang", "(III)I"⟩, 87), (⟨"BreweryHouseModel", "senseAll", "()V"⟩, 87), (⟨"BreweryHouseModel", "sensed", "(II)J"⟩, 87), (⟨"BreweryHouseModel", "walk", "()V"⟩, 87), (⟨"BreweryHouseModel", "limits", "(I)Z"⟩, 87), (⟨"BreweryHouseModel", "kind", "(I)I"⟩, 87), (⟨"BreweryHouseModel", "reckon", "(I)J"⟩, 87), (⟨"BreweryHouseModel", "isBad", "()Z"⟩, 87), (⟨"BreweryHouseModel", "go", "(I)I"⟩, 87), (⟨"BreweryHouseModel", "begin", "(I)Z"⟩, 87), (⟨"BreweryHouseModel", "goUntil", "(I)I"⟩, 87), (⟨"BreweryHouseModel", "goPar", "(I)I"⟩, 87), (⟨"BreweryHouseModel", "goRamp", "(I)I"⟩, 87), (⟨"BreweryHouseModel", "flow", "(I)V"⟩, 87), (⟨"BreweryHouseModel", "come", "(II)V"⟩, 87)]
theorem lw_r12 : ∀ q ∈ lw_privs_12, lw_okq q := List.forall_mem_cons.mpr ⟨lw_p176, List.forall_mem_cons.mpr ⟨lw_p177, List.forall_mem_cons.mpr ⟨lw_p178, List.forall_mem_cons.mpr ⟨lw_p179, List.forall_mem_cons.mpr ⟨lw_p180, List.forall_mem_cons.mpr ⟨lw_p181, List.forall_mem_cons.mpr ⟨lw_p182, List.forall_mem_cons.mpr ⟨lw_p183, List.forall_mem_cons.mpr ⟨lw_p184, List.forall_mem_cons.mpr ⟨lw_p185, List.forall_mem_cons.mpr ⟨lw_p186, List.forall_mem_cons.mpr ⟨lw_p187, List.forall_mem_cons.mpr ⟨lw_p188, List.forall_mem_cons.mpr ⟨lw_p189, List.forall_mem_cons.mpr ⟨lw_p190, List.forall_mem_cons.mpr ⟨lw_p191, fun _ h => absurd h List.not_mem_nil⟩⟩⟩⟩⟩⟩⟩⟩⟩⟩⟩⟩⟩⟩⟩⟩
theorem lw_p192 : lw_okq (⟨"BreweryHouseModel", "stillAt", "(IZ)I"⟩, 87) := ⟨⟨by decide +kernel, by decide +kernel⟩, List.mem_of_getElem? (i := 1560) (by decide +kernel), List.mem_of_getElem? (i := 2664) (by decide +kernel), List.mem_of_getElem? (i := 2665) (by decide +kernel)⟩
def lw_privs_13 : List (MethodName × Nat) := [(⟨"BreweryHouseModel", "stillAt", "(IZ)I"⟩, 87)]
theorem lw_r13 : ∀ q ∈ lw_privs_13, lw_okq q := List.forall_mem_cons.mpr ⟨lw_p192, fun _ h => absurd h List.not_mem_nil⟩
def lw_privs : List (MethodName × Nat) := lw_privs_1 ++ (lw_privs_2 ++ (lw_privs_3 ++ (lw_privs_4 ++ (lw_privs_5 ++ (lw_privs_6 ++ (lw_privs_7 ++ (lw_privs_8 ++ (lw_privs_9 ++ (lw_privs_10 ++ (lw_privs_11 ++ (lw_privs_12 ++ (lw_privs_13))))))))))))
def lw_tbl : List Cond := k2_sels lw_privs ++ tables_1
theorem lw_privs_ok : ∀ q ∈ lw_privs, lw_okq q := by
  show ∀ q ∈ lw_privs_1 ++ (lw_privs_2 ++ (lw_privs_3 ++ (lw_privs_4 ++ (lw_privs_5 ++ (lw_privs_6 ++ (lw_privs_7 ++ (lw_privs_8 ++ (lw_privs_9 ++ (lw_privs_10 ++ (lw_privs_11 ++ (lw_privs_12 ++ (lw_privs_13)))))))))))), lw_okq q
  exact List.forall_mem_append.mpr ⟨lw_r1, List.forall_mem_append.mpr ⟨lw_r2, List.forall_mem_append.mpr ⟨lw_r3, List.forall_mem_append.mpr ⟨lw_r4, List.forall_mem_append.mpr ⟨lw_r5, List.forall_mem_append.mpr ⟨lw_r6, List.forall_mem_append.mpr ⟨lw_r7, List.forall_mem_append.mpr ⟨lw_r8, List.forall_mem_append.mpr ⟨lw_r9, List.forall_mem_append.mpr ⟨lw_r10, List.forall_mem_append.mpr ⟨lw_r11, List.forall_mem_append.mpr ⟨lw_r12, lw_r13⟩⟩⟩⟩⟩⟩⟩⟩⟩⟩⟩⟩
end
section
def lw_gd : List Cond := lw_tbl.filter goodWord
theorem tb_mem {w : Cond} {i : Nat} (h : tables_1[i]? = some w) (hg : goodWord w = true) : w ∈ lw_gd := List.mem_filter.mpr ⟨List.mem_append_right _ (List.mem_of_getElem? h), hg⟩
theorem tb_places {big ws : List Cond} (ps : List Nat) (hp : ws.map some = ps.map (fun i => big[i]?)) : ∀ w ∈ ws, w ∈ big := by
  intro w hw
  have h1 : some w ∈ ws.map some := List.mem_map.mpr ⟨w, hw, rfl⟩
  rw [hp] at h1
  obtain ⟨i, -, hi⟩ := List.mem_map.mp h1
  exact List.mem_of_getElem? hi
/-- one list of words for all methods: the tables' words that last, the own code ahead -/
theorem tb_inA {a : Cond} {ws : List Cond} (h : ∀ w ∈ ws, w ∈ lw_gd) : GoodIn (a :: lw_gd) ws := by
  intro w hw
  have hm := h w hw
  exact ⟨List.mem_cons_of_mem _ hm, good_of_word (List.mem_filter.mp hm).2⟩
theorem tb_in {a b : Cond} (h : b ∈ lw_gd) : GoodIn (a :: lw_gd) (b :: lw_gd) := tb_inA (fun w hw => (List.mem_cons.mp hw).elim (fun e => by rw [e]; exact h) id)
theorem tb_lay {C : String} {T : u_T} {N : Nat} (ps : List Nat) (hp : (u_ws C T N).map some = ps.map (fun i => tables_1[i]?)) (hg : (u_ws C T N).all goodWord = true) : ∀ w ∈ u_ws C T N, w ∈ lw_gd := fun w h => List.mem_filter.mpr ⟨List.mem_append_right _ (tb_places ps hp w h), List.all_eq_true.mp hg w h⟩
def R_Bh : String := "BreweryHouse"
def F_Bh : u_T := fun k => match k with
  | 0 => ("BreweryHouse", "tape", "LBreweryHouse$Tape;", true)
  | 1 => ("BreweryHouse", "alarms", "LBreweryHouse$Alarms;", true)
  | 2 => ("BreweryHouse", "stock", "LBreweryHouse$Stock;", true)
  | 3 => ("BreweryHouse", "ways", "LBreweryHouse$Ways;", true)
  | 4 => ("BreweryHouse", "safety", "LBreweryHouse$Safety;", true)
  | 5 => ("BreweryHouse", "acts", "LBreweryHouse$Acts;", true)
  | 6 => ("BreweryHouse", "run", "LBreweryHouse$Run;", true)
  | 7 => ("BreweryHouse", "reader", "LBreweryHouse$ProgramReader;", true)
  | 8 => ("BreweryHouse", "sparePlant", "LBreweryHouse$Plant;", false)
  | 9 => ("BreweryHouse", "spareRows", "LBreweryHouse$Rows;", false)
  | 10 => ("BreweryHouse", "spareProgram", "LBreweryHouse$Program;", false)
  | 11 => ("BreweryHouse", "plantText", "[B", true)
  | 12 => ("BreweryHouse", "plantTextLength", "I", false)
  | 13 => ("BreweryHouse", "watchWhat", "[I", true)
  | 14 => ("BreweryHouse", "watchX", "[I", true)
  | _ => ("BreweryHouse", "watchLeast", "[J", true)
def t_Bh : Nat → FieldType := fun k => match k with
  | 0 => (.object "BreweryHouse$Tape")
  | 1 => (.object "BreweryHouse$Alarms")
  | 2 => (.object "BreweryHouse$Stock")
  | 3 => (.object "BreweryHouse$Ways")
  | 4 => (.object "BreweryHouse$Safety")
  | 5 => (.object "BreweryHouse$Acts")
  | 6 => (.object "BreweryHouse$Run")
  | 7 => (.object "BreweryHouse$ProgramReader")
  | 8 => (.object "BreweryHouse$Plant")
  | 9 => (.object "BreweryHouse$Rows")
  | 10 => (.object "BreweryHouse$Program")
  | 11 => (.array .byte)
  | 12 => .int
  | 13 => (.array .int)
  | 14 => (.array .int)
  | _ => (.array .long)
theorem n_Bh : ∀ a, a < 16 → ∀ b, b < 16 → a ≠ b → (F_Bh a).2.1 ≠ (F_Bh b).2.1 := by decide +kernel
theorem t_Bh_ok : ∀ k, k < 16 → parseFieldDescriptor (F_Bh k).2.2.1 = some (t_Bh k) := by decide +kernel
theorem in_Bh : ∀ w ∈ u_ws R_Bh F_Bh 16, w ∈ lw_gd := tb_lay [700, 702, 704, 706, 708, 710, 712, 714, 716, 718, 720, 722, 724, 726, 728, 730] (by decide +kernel) (by decide +kernel)
def R_Tp : String := "BreweryHouse$Tape"
def F_Tp : u_T := fun k => match k with
  | 0 => ("BreweryHouse$Tape", "cells", "[I", true)
  | 1 => ("BreweryHouse$Tape", "length", "I", false)
  | _ => ("BreweryHouse$Tape", "end", "I", false)
def t_Tp : Nat → FieldType := fun k => match k with
  | 0 => (.array .int)
  | 1 => .int
  | _ => .int
theorem n_Tp : ∀ a, a < 3 → ∀ b, b < 3 → a ≠ b → (F_Tp a).2.1 ≠ (F_Tp b).2.1 := by decide +kernel
theorem t_Tp_ok : ∀ k, k < 3 → parseFieldDescriptor (F_Tp k).2.2.1 = some (t_Tp k) := by decide +kernel
theorem in_Tp : ∀ w ∈ u_ws R_Tp F_Tp 3, w ∈ lw_gd := tb_lay [46, 48, 50] (by decide +kernel) (by decide +kernel)
def R_Al : String := "BreweryHouse$Alarms"
def F_Al : u_T := fun k => match k with
  | 0 => ("BreweryHouse$Alarms", "count", "I", false)
  | 1 => ("BreweryHouse$Alarms", "seconds", "[I", true)
  | 2 => ("BreweryHouse$Alarms", "nodes", "[I", true)
  | _ => ("BreweryHouse$Alarms", "kinds", "[I", true)
def t_Al : Nat → FieldType := fun k => match k with
  | 0 => .int
  | 1 => (.array .int)
  | 2 => (.array .int)
  | _ => (.array .int)
theorem n_Al : ∀ a, a < 4 → ∀ b, b < 4 → a ≠ b → (F_Al a).2.1 ≠ (F_Al b).2.1 := by decide +kernel
theorem t_Al_ok : ∀ k, k < 4 → parseFieldDescriptor (F_Al k).2.2.1 = some (t_Al k) := by decide +kernel
theorem in_Al : ∀ w ∈ u_ws R_Al F_Al 4, w ∈ lw_gd := tb_lay [65, 67, 69, 71] (by decide +kernel) (by decide +kernel)
def R_Pl : String := "BreweryHouse$Plant"
def F_Pl : u_T := fun k => match k with
  | 0 => ("BreweryHouse$Plant", "things", "I", false)
  | 1 => ("BreweryHouse$Plant", "pipes", "I", false)
  | 2 => ("BreweryHouse$Plant", "kind", "[I", true)
  | 3 => ("BreweryHouse$Plant", "room", "[I", true)
  | 4 => ("BreweryHouse$Plant", "ports", "[I", true)
  | 5 => ("BreweryHouse$Plant", "pipeRoom", "[I", true)
  | 6 => ("BreweryHouse$Plant", "endThing", "[I", true)
  | 7 => ("BreweryHouse$Plant", "endPort", "[I", true)
  | 8 => ("BreweryHouse$Plant", "portEnd", "[I", true)
  | 9 => ("BreweryHouse$Plant", "tape", "LBreweryHouse$Tape;", false)
  | 10 => ("BreweryHouse$Plant", "at", "I", false)
  | _ => ("BreweryHouse$Plant", "number", "I", false)
def t_Pl : Nat → FieldType := fun k => match k with
  | 0 => .int
  | 1 => .int
  | 2 => (.array .int)
  | 3 => (.array .int)
  | 4 => (.array .int)
  | 5 => (.array .int)
  | 6 => (.array .int)
  | 7 => (.array .int)
  | 8 => (.array .int)
  | 9 => (.object "BreweryHouse$Tape")
  | 10 => .int
  | _ => .int
theorem n_Pl : ∀ a, a < 12 → ∀ b, b < 12 → a ≠ b → (F_Pl a).2.1 ≠ (F_Pl b).2.1 := by decide +kernel
theorem t_Pl_ok : ∀ k, k < 12 → parseFieldDescriptor (F_Pl k).2.2.1 = some (t_Pl k) := by decide +kernel
theorem in_Pl : ∀ w ∈ u_ws R_Pl F_Pl 12, w ∈ lw_gd := tb_lay [120, 122, 124, 126, 128, 130, 132, 134, 136, 138, 140, 142] (by decide +kernel) (by decide +kernel)
def R_St : String := "BreweryHouse$Stock"
def F_St : u_T := fun k => match k with
  | 0 => ("BreweryHouse$Stock", "plant", "LBreweryHouse$Plant;", false)
  | 1 => ("BreweryHouse$Stock", "now", "I", false)
  | 2 => ("BreweryHouse$Stock", "position", "[I", true)
  | 3 => ("BreweryHouse$Stock", "liquid", "[I", true)
  | 4 => ("BreweryHouse$Stock", "amount", "[I", true)
  | 5 => ("BreweryHouse$Stock", "last", "[I", true)
  | 6 => ("BreweryHouse$Stock", "cleaned", "[I", true)
  | 7 => ("BreweryHouse$Stock", "litres", "[J", true)
  | 8 => ("BreweryHouse$Stock", "start", "[I", true)
  | 9 => ("BreweryHouse$Stock", "meeting", "[I", true)
  | 10 => ("BreweryHouse$Stock", "needed", "[I", true)
  | _ => ("BreweryHouse$Stock", "lasting", "[I", true)
def t_St : Nat → FieldType := fun k => match k with
  | 0 => (.object "BreweryHouse$Plant")
  | 1 => .int
  | 2 => (.array .int)
  | 3 => (.array .int)
  | 4 => (.array .int)
  | 5 => (.array .int)
  | 6 => (.array .int)
  | 7 => (.array .long)
  | 8 => (.array .int)
  | 9 => (.array .int)
  | 10 => (.array .int)
  | _ => (.array .int)
theorem n_St : ∀ a, a < 12 → ∀ b, b < 12 → a ≠ b → (F_St a).2.1 ≠ (F_St b).2.1 := by decide +kernel
theorem t_St_ok : ∀ k, k < 12 → parseFieldDescriptor (F_St k).2.2.1 = some (t_St k) := by decide +kernel
theorem in_St : ∀ w ∈ u_ws R_St F_St 12, w ∈ lw_gd := tb_lay [183, 185, 187, 189, 191, 193, 195, 197, 199, 201, 203, 205] (by decide +kernel) (by decide +kernel)
def R_Wa : String := "BreweryHouse$Ways"
def F_Wa : u_T := fun k => match k with
  | 0 => ("BreweryHouse$Ways", "stock", "LBreweryHouse$Stock;", true)
  | 1 => ("BreweryHouse$Ways", "count", "I", false)
  | 2 => ("BreweryHouse$Ways", "from", "[I", true)
  | 3 => ("BreweryHouse$Ways", "to", "[I", true)
  | 4 => ("BreweryHouse$Ways", "rate", "[I", true)
  | 5 => ("BreweryHouse$Ways", "carried", "[I", true)
  | 6 => ("BreweryHouse$Ways", "length", "[I", true)
  | 7 => ("BreweryHouse$Ways", "firstPipe", "[I", true)
  | 8 => ("BreweryHouse$Ways", "lastPipe", "[I", true)
  | 9 => ("BreweryHouse$Ways", "exit", "[I", true)
  | 10 => ("BreweryHouse$Ways", "nextPipe", "[I", true)
  | 11 => ("BreweryHouse$Ways", "taken", "[Z", true)
  | 12 => ("BreweryHouse$Ways", "over", "[I", true)
  | 13 => ("BreweryHouse$Ways", "leg", "[I", true)
  | 14 => ("BreweryHouse$Ways", "path", "[I", true)
  | 15 => ("BreweryHouse$Ways", "pathLength", "I", false)
  | 16 => ("BreweryHouse$Ways", "before", "[I", true)
  | _ => ("BreweryHouse$Ways", "needed", "[I", true)
def t_Wa : Nat → FieldType := fun k => match k with
  | 0 => (.object "BreweryHouse$Stock")
  | 1 => .int
  | 2 => (.array .int)
  | 3 => (.array .int)
  | 4 => (.array .int)
  | 5 => (.array .int)
  | 6 => (.array .int)
  | 7 => (.array .int)
  | 8 => (.array .int)
  | 9 => (.array .int)
  | 10 => (.array .int)
  | 11 => (.array .boolean)
  | 12 => (.array .int)
  | 13 => (.array .int)
  | 14 => (.array .int)
  | 15 => .int
  | 16 => (.array .int)
  | _ => (.array .int)
theorem n_Wa : ∀ a, a < 18 → ∀ b, b < 18 → a ≠ b → (F_Wa a).2.1 ≠ (F_Wa b).2.1 := by decide +kernel
theorem t_Wa_ok : ∀ k, k < 18 → parseFieldDescriptor (F_Wa k).2.2.1 = some (t_Wa k) := by decide +kernel
theorem in_Wa : ∀ w ∈ u_ws R_Wa F_Wa 18, w ∈ lw_gd := tb_lay [238, 240, 242, 244, 246, 248, 250, 252, 254, 256, 258, 260, 262, 264, 266, 268, 270, 272] (by decide +kernel) (by decide +kernel)
def R_Sf : String := "BreweryHouse$Safety"
def F_Sf : u_T := fun k => match k with
  | 0 => ("BreweryHouse$Safety", "stock", "LBreweryHouse$Stock;", true)
  | 1 => ("BreweryHouse$Safety", "ways", "LBreweryHouse$Ways;", true)
  | 2 => ("BreweryHouse$Safety", "sources", "[J", true)
  | 3 => ("BreweryHouse$Safety", "rivals", "[I", true)
  | 4 => ("BreweryHouse$Safety", "flooded", "[J", true)
  | 5 => ("BreweryHouse$Safety", "reach", "[J", true)
  | 6 => ("BreweryHouse$Safety", "failure", "I", false)
  | 7 => ("BreweryHouse$Safety", "where", "I", false)
  | 8 => ("BreweryHouse$Safety", "firstLiquid", "I", false)
  | _ => ("BreweryHouse$Safety", "secondLiquid", "I", false)
def t_Sf : Nat → FieldType := fun k => match k with
  | 0 => (.object "BreweryHouse$Stock")
  | 1 => (.object "BreweryHouse$Ways")
  | 2 => (.array .long)
  | 3 => (.array .int)
  | 4 => (.array .long)
  | 5 => (.array .long)
  | 6 => .int
  | 7 => .int
  | 8 => .int
  | _ => .int
theorem n_Sf : ∀ a, a < 10 → ∀ b, b < 10 → a ≠ b → (F_Sf a).2.1 ≠ (F_Sf b).2.1 := by decide +kernel
theorem t_Sf_ok : ∀ k, k < 10 → parseFieldDescriptor (F_Sf k).2.2.1 = some (t_Sf k) := by decide +kernel
theorem in_Sf : ∀ w ∈ u_ws R_Sf F_Sf 10, w ∈ lw_gd := tb_lay [296, 298, 300, 302, 304, 306, 308, 310, 312, 314] (by decide +kernel) (by decide +kernel)
def R_Ro : String := "BreweryHouse$Rows"
def F_Ro : u_T := fun k => match k with
  | 0 => ("BreweryHouse$Rows", "count", "I", false)
  | 1 => ("BreweryHouse$Rows", "conditions", "I", false)
  | 2 => ("BreweryHouse$Rows", "counts", "[I", true)
  | 3 => ("BreweryHouse$Rows", "latched", "[Z", true)
  | 4 => ("BreweryHouse$Rows", "passed", "[I", true)
  | 5 => ("BreweryHouse$Rows", "barred", "[I", true)
  | 6 => ("BreweryHouse$Rows", "least", "[I", true)
  | 7 => ("BreweryHouse$Rows", "latching", "[Z", true)
  | 8 => ("BreweryHouse$Rows", "start", "[I", true)
  | 9 => ("BreweryHouse$Rows", "codes", "[I", true)
  | 10 => ("BreweryHouse$Rows", "used", "I", false)
  | 11 => ("BreweryHouse$Rows", "tape", "LBreweryHouse$Tape;", false)
  | 12 => ("BreweryHouse$Rows", "wordAt", "I", false)
  | 13 => ("BreweryHouse$Rows", "wordEnd", "I", false)
  | 14 => ("BreweryHouse$Rows", "word", "I", false)
  | 15 => ("BreweryHouse$Rows", "open", "I", false)
  | 16 => ("BreweryHouse$Rows", "told", "I", false)
  | _ => ("BreweryHouse$Rows", "wrong", "I", false)
def t_Ro : Nat → FieldType := fun k => match k with
  | 0 => .int
  | 1 => .int
  | 2 => (.array .int)
  | 3 => (.array .boolean)
  | 4 => (.array .int)
  | 5 => (.array .int)
  | 6 => (.array .int)
  | 7 => (.array .boolean)
  | 8 => (.array .int)
  | 9 => (.array .int)
  | 10 => .int
  | 11 => (.object "BreweryHouse$Tape")
  | 12 => .int
  | 13 => .int
  | 14 => .int
  | 15 => .int
  | 16 => .int
  | _ => .int
theorem n_Ro : ∀ a, a < 18 → ∀ b, b < 18 → a ≠ b → (F_Ro a).2.1 ≠ (F_Ro b).2.1 := by decide +kernel
theorem t_Ro_ok : ∀ k, k < 18 → parseFieldDescriptor (F_Ro k).2.2.1 = some (t_Ro k) := by decide +kernel
theorem in_Ro : ∀ w ∈ u_ws R_Ro F_Ro 18, w ∈ lw_gd := tb_lay [352, 354, 356, 358, 360, 362, 364, 366, 368, 370, 372, 374, 376, 378, 380, 382, 384, 386] (by decide +kernel) (by decide +kernel)
def R_Pr : String := "BreweryHouse$Program"
def F_Pr : u_T := fun k => match k with
  | 0 => ("BreweryHouse$Program", "statements", "I", false)
  | 1 => ("BreweryHouse$Program", "nodes", "I", false)
  | 2 => ("BreweryHouse$Program", "opening", "I", false)
  | 3 => ("BreweryHouse$Program", "kind", "[I", true)
  | 4 => ("BreweryHouse$Program", "arg", "[I", true)
  | 5 => ("BreweryHouse$Program", "from", "[I", true)
  | 6 => ("BreweryHouse$Program", "to", "[I", true)
  | 7 => ("BreweryHouse$Program", "first", "[I", true)
  | 8 => ("BreweryHouse$Program", "next", "[I", true)
  | 9 => ("BreweryHouse$Program", "number", "[J", true)
  | 10 => ("BreweryHouse$Program", "names", "I", false)
  | 11 => ("BreweryHouse$Program", "nameCode", "[J", true)
  | 12 => ("BreweryHouse$Program", "nameKind", "[I", true)
  | 13 => ("BreweryHouse$Program", "nameUnit", "[I", true)
  | 14 => ("BreweryHouse$Program", "nameBlock", "[I", true)
  | 15 => ("BreweryHouse$Program", "worth", "[J", true)
  | 16 => ("BreweryHouse$Program", "senseWhat", "[I", true)
  | _ => ("BreweryHouse$Program", "senseX", "[I", true)
def t_Pr : Nat → FieldType := fun k => match k with
  | 0 => .int
  | 1 => .int
  | 2 => .int
  | 3 => (.array .int)
  | 4 => (.array .int)
  | 5 => (.array .int)
  | 6 => (.array .int)
  | 7 => (.array .int)
  | 8 => (.array .int)
  | 9 => (.array .long)
  | 10 => .int
  | 11 => (.array .long)
  | 12 => (.array .int)
  | 13 => (.array .int)
  | 14 => (.array .int)
  | 15 => (.array .long)
  | 16 => (.array .int)
  | _ => (.array .int)
theorem n_Pr : ∀ a, a < 18 → ∀ b, b < 18 → a ≠ b → (F_Pr a).2.1 ≠ (F_Pr b).2.1 := by decide +kernel
theorem t_Pr_ok : ∀ k, k < 18 → parseFieldDescriptor (F_Pr k).2.2.1 = some (t_Pr k) := by decide +kernel
theorem in_Pr : ∀ w ∈ u_ws R_Pr F_Pr 18, w ∈ lw_gd := tb_lay [474, 476, 478, 480, 482, 484, 486, 488, 490, 492, 494, 496, 498, 500, 502, 504, 506, 508] (by decide +kernel) (by decide +kernel)
def R_Rd : String := "BreweryHouse$ProgramReader"
def F_Rd : u_T := fun k => match k with
  | 0 => ("BreweryHouse$ProgramReader", "tape", "LBreweryHouse$Tape;", false)
  | 1 => ("BreweryHouse$ProgramReader", "program", "LBreweryHouse$Program;", false)
  | 2 => ("BreweryHouse$ProgramReader", "at", "I", false)
  | 3 => ("BreweryHouse$ProgramReader", "word", "I", false)
  | 4 => ("BreweryHouse$ProgramReader", "place", "I", false)
  | 5 => ("BreweryHouse$ProgramReader", "code", "J", false)
  | 6 => ("BreweryHouse$ProgramReader", "number", "J", false)
  | 7 => ("BreweryHouse$ProgramReader", "pointed", "Z", false)
  | 8 => ("BreweryHouse$ProgramReader", "open", "I", false)
  | 9 => ("BreweryHouse$ProgramReader", "wrong", "I", false)
  | 10 => ("BreweryHouse$ProgramReader", "size", "[I", true)
  | 11 => ("BreweryHouse$ProgramReader", "deep", "[I", true)
  | _ => ("BreweryHouse$ProgramReader", "keywordCode", "[J", true)
def t_Rd : Nat → FieldType := fun k => match k with
  | 0 => (.object "BreweryHouse$Tape")
  | 1 => (.object "BreweryHouse$Program")
  | 2 => .int
  | 3 => .int
  | 4 => .int
  | 5 => .long
  | 6 => .long
  | 7 => .boolean
  | 8 => .int
  | 9 => .int
  | 10 => (.array .int)
  | 11 => (.array .int)
  | _ => (.array .long)
theorem n_Rd : ∀ a, a < 13 → ∀ b, b < 13 → a ≠ b → (F_Rd a).2.1 ≠ (F_Rd b).2.1 := by decide +kernel
theorem t_Rd_ok : ∀ k, k < 13 → parseFieldDescriptor (F_Rd k).2.2.1 = some (t_Rd k) := by decide +kernel
theorem in_Rd : ∀ w ∈ u_ws R_Rd F_Rd 13, w ∈ lw_gd := tb_lay [649, 651, 653, 655, 657, 659, 661, 663, 665, 667, 669, 671, 673] (by decide +kernel) (by decide +kernel)
def R_Ru : String := "BreweryHouse$Run"
def F_Ru : u_T := fun k => match k with
  | 0 => ("BreweryHouse$Run", "acts", "LBreweryHouse$Acts;", true)
  | 1 => ("BreweryHouse$Run", "alarms", "LBreweryHouse$Alarms;", true)
  | 2 => ("BreweryHouse$Run", "stock", "LBreweryHouse$Stock;", true)
  | 3 => ("BreweryHouse$Run", "program", "LBreweryHouse$Program;", false)
  | 4 => ("BreweryHouse$Run", "state", "I", false)
  | 5 => ("BreweryHouse$Run", "parts", "I", false)
  | 6 => ("BreweryHouse$Run", "node", "[I", true)
  | 7 => ("BreweryHouse$Run", "first", "[I", true)
  | 8 => ("BreweryHouse$Run", "next", "[I", true)
  | 9 => ("BreweryHouse$Run", "stage", "[I", true)
  | 10 => ("BreweryHouse$Run", "current", "[I", true)
  | 11 => ("BreweryHouse$Run", "count", "[J", true)
  | 12 => ("BreweryHouse$Run", "length", "[J", true)
  | 13 => ("BreweryHouse$Run", "base", "[J", true)
  | 14 => ("BreweryHouse$Run", "goal", "[J", true)
  | 15 => ("BreweryHouse$Run", "skipped", "I", false)
  | 16 => ("BreweryHouse$Run", "stack", "[J", true)
  | 17 => ("BreweryHouse$Run", "over", "Z", false)
  | 18 => ("BreweryHouse$Run", "holding", "Z", false)
  | 19 => ("BreweryHouse$Run", "begun", "I", false)
  | _ => ("BreweryHouse$Run", "actsBegun", "I", false)
def t_Ru : Nat → FieldType := fun k => match k with
  | 0 => (.object "BreweryHouse$Acts")
  | 1 => (.object "BreweryHouse$Alarms")
  | 2 => (.object "BreweryHouse$Stock")
  | 3 => (.object "BreweryHouse$Program")
  | 4 => .int
  | 5 => .int
  | 6 => (.array .int)
  | 7 => (.array .int)
  | 8 => (.array .int)
  | 9 => (.array .int)
  | 10 => (.array .int)
  | 11 => (.array .long)
  | 12 => (.array .long)
  | 13 => (.array .long)
  | 14 => (.array .long)
  | 15 => .int
  | 16 => (.array .long)
  | 17 => .boolean
  | 18 => .boolean
  | 19 => .int
  | _ => .int
theorem n_Ru : ∀ a, a < 21 → ∀ b, b < 21 → a ≠ b → (F_Ru a).2.1 ≠ (F_Ru b).2.1 := by decide +kernel
theorem t_Ru_ok : ∀ k, k < 21 → parseFieldDescriptor (F_Ru k).2.2.1 = some (t_Ru k) := by decide +kernel
theorem in_Ru : ∀ w ∈ u_ws R_Ru F_Ru 21, w ∈ lw_gd := tb_lay [534, 536, 538, 540, 542, 544, 546, 548, 550, 552, 554, 556, 558, 560, 562, 564, 566, 568, 570, 572, 574] (by decide +kernel) (by decide +kernel)
def R_Ac : String := "BreweryHouse$Acts"
def F_Ac : u_T := fun k => match k with
  | 0 => ("BreweryHouse$Acts", "stock", "LBreweryHouse$Stock;", true)
  | 1 => ("BreweryHouse$Acts", "ways", "LBreweryHouse$Ways;", true)
  | 2 => ("BreweryHouse$Acts", "safety", "LBreweryHouse$Safety;", true)
  | 3 => ("BreweryHouse$Acts", "rows", "LBreweryHouse$Rows;", false)
  | 4 => ("BreweryHouse$Acts", "what", "[I", true)
  | 5 => ("BreweryHouse$Acts", "x", "[I", true)
  | 6 => ("BreweryHouse$Acts", "y", "[I", true)
  | _ => ("BreweryHouse$Acts", "z", "[I", true)
def t_Ac : Nat → FieldType := fun k => match k with
  | 0 => (.object "BreweryHouse$Stock")
  | 1 => (.object "BreweryHouse$Ways")
  | 2 => (.object "BreweryHouse$Safety")
  | 3 => (.object "BreweryHouse$Rows")
  | 4 => (.array .int)
  | 5 => (.array .int)
  | 6 => (.array .int)
  | _ => (.array .int)
theorem n_Ac : ∀ a, a < 8 → ∀ b, b < 8 → a ≠ b → (F_Ac a).2.1 ≠ (F_Ac b).2.1 := by decide +kernel
theorem t_Ac_ok : ∀ k, k < 8 → parseFieldDescriptor (F_Ac k).2.2.1 = some (t_Ac k) := by decide +kernel
theorem in_Ac : ∀ w ∈ u_ws R_Ac F_Ac 8, w ∈ lw_gd := tb_lay [399, 401, 403, 405, 407, 409, 411, 413] (by decide +kernel) (by decide +kernel)
def R_Mo : String := "BreweryHouseModel"
def F_Mo : u_T := fun k => match k with
  | 0 => ("BreweryHouseModel", "tape", "[B", true)
  | 1 => ("BreweryHouseModel", "taped", "I", false)
  | 2 => ("BreweryHouseModel", "program", "LBreweryHouseModel$Text;", true)
  | 3 => ("BreweryHouseModel", "interlocks", "LBreweryHouseModel$Rows;", true)
  | 4 => ("BreweryHouseModel", "things", "I", false)
  | 5 => ("BreweryHouseModel", "kinds", "[I", true)
  | 6 => ("BreweryHouseModel", "rooms", "[I", true)
  | 7 => ("BreweryHouseModel", "litres", "[I", true)
  | 8 => ("BreweryHouseModel", "liquids", "[I", true)
  | 9 => ("BreweryHouseModel", "positions", "[I", true)
  | 10 => ("BreweryHouseModel", "taken", "[I", true)
  | 11 => ("BreweryHouseModel", "pipes", "I", false)
  | 12 => ("BreweryHouseModel", "sizes", "[I", true)
  | 13 => ("BreweryHouseModel", "at", "[I", true)
  | 14 => ("BreweryHouseModel", "ports", "[I", true)
  | 15 => ("BreweryHouseModel", "contents", "[B", true)
  | 16 => ("BreweryHouseModel", "lasts", "[I", true)
  | 17 => ("BreweryHouseModel", "cleaned", "[I", true)
  | 18 => ("BreweryHouseModel", "meet", "[Z", true)
  | 19 => ("BreweryHouseModel", "needs", "[I", true)
  | 20 => ("BreweryHouseModel", "lasting", "[I", true)
  | 21 => ("BreweryHouseModel", "place", "I", false)
  | 22 => ("BreweryHouseModel", "limit", "I", false)
  | 23 => ("BreweryHouseModel", "words", "[I", true)
  | 24 => ("BreweryHouseModel", "newKinds", "[I", true)
  | 25 => ("BreweryHouseModel", "newTaken", "[I", true)
  | 26 => ("BreweryHouseModel", "ways", "I", false)
  | 27 => ("BreweryHouseModel", "froms", "[I", true)
  | 28 => ("BreweryHouseModel", "tos", "[I", true)
  | 29 => ("BreweryHouseModel", "carried", "[I", true)
  | 30 => ("BreweryHouseModel", "rates", "[I", true)
  | 31 => ("BreweryHouseModel", "lengths", "[I", true)
  | 32 => ("BreweryHouseModel", "entries", "[I", true)
  | 33 => ("BreweryHouseModel", "heldAt", "[I", true)
  | 34 => ("BreweryHouseModel", "leftLitres", "[I", true)
  | 35 => ("BreweryHouseModel", "leftPipes", "[I", true)
  | 36 => ("BreweryHouseModel", "before", "[I", true)
  | 37 => ("BreweryHouseModel", "best", "[I", true)
  | 38 => ("BreweryHouseModel", "bestWanted", "[I", true)
  | 39 => ("BreweryHouseModel", "bestCount", "I", false)
  | 40 => ("BreweryHouseModel", "busy", "J", false)
  | 41 => ("BreweryHouseModel", "line", "[B", true)
  | 42 => ("BreweryHouseModel", "inside", "[I", true)
  | 43 => ("BreweryHouseModel", "next", "[J", true)
  | 44 => ("BreweryHouseModel", "floods", "[J", true)
  | 45 => ("BreweryHouseModel", "dangerFailure", "I", false)
  | 46 => ("BreweryHouseModel", "dangerSpace", "I", false)
  | 47 => ("BreweryHouseModel", "dangerFirst", "I", false)
  | 48 => ("BreweryHouseModel", "dangerSecond", "I", false)
  | 49 => ("BreweryHouseModel", "does", "[I", true)
  | 50 => ("BreweryHouseModel", "xs", "[I", true)
  | 51 => ("BreweryHouseModel", "ys", "[I", true)
  | 52 => ("BreweryHouseModel", "zs", "[I", true)
  | 53 => ("BreweryHouseModel", "senseWhat", "[I", true)
  | 54 => ("BreweryHouseModel", "senseOf", "[I", true)
  | 55 => ("BreweryHouseModel", "watchWhat", "[I", true)
  | 56 => ("BreweryHouseModel", "watchOf", "[I", true)
  | 57 => ("BreweryHouseModel", "watchLeast", "[J", true)
  | 58 => ("BreweryHouseModel", "values", "[J", true)
  | 59 => ("BreweryHouseModel", "state", "I", false)
  | 60 => ("BreweryHouseModel", "places", "I", false)
  | 61 => ("BreweryHouseModel", "of", "[I", true)
  | 62 => ("BreweryHouseModel", "firstKid", "[I", true)
  | 63 => ("BreweryHouseModel", "nextKid", "[I", true)
  | 64 => ("BreweryHouseModel", "begun", "[Z", true)
  | 65 => ("BreweryHouseModel", "done", "[Z", true)
  | 66 => ("BreweryHouseModel", "over", "[Z", true)
  | 67 => ("BreweryHouseModel", "current", "[I", true)
  | 68 => ("BreweryHouseModel", "since", "[I", true)
  | 69 => ("BreweryHouseModel", "many", "[J", true)
  | 70 => ("BreweryHouseModel", "goals", "[J", true)
  | 71 => ("BreweryHouseModel", "starts", "[J", true)
  | 72 => ("BreweryHouseModel", "begins", "I", false)
  | 73 => ("BreweryHouseModel", "actsBegun", "I", false)
  | 74 => ("BreweryHouseModel", "walked", "I", false)
  | 75 => ("BreweryHouseModel", "asksHold", "Z", false)
  | 76 => ("BreweryHouseModel", "bad", "I", false)
  | 77 => ("BreweryHouseModel", "left", "I", false)
  | 78 => ("BreweryHouseModel", "now", "I", false)
  | 79 => ("BreweryHouseModel", "alarms", "I", false)
  | 80 => ("BreweryHouseModel", "alarmSeconds", "[I", true)
  | 81 => ("BreweryHouseModel", "alarmNodes", "[I", true)
  | 82 => ("BreweryHouseModel", "alarmKinds", "[I", true)
  | 83 => ("BreweryHouseModel", "wish", "I", false)
  | 84 => ("BreweryHouseModel", "found", "I", false)
  | 85 => ("BreweryHouseModel", "newThings", "I", false)
  | _ => ("BreweryHouseModel", "newPipes", "I", false)
def t_Mo : Nat → FieldType := fun k => match k with
  | 0 => (.array .byte)
  | 1 => .int
  | 2 => (.object "BreweryHouseModel$Text")
  | 3 => (.object "BreweryHouseModel$Rows")
  | 4 => .int
  | 5 => (.array .int)
  | 6 => (.array .int)
  | 7 => (.array .int)
  | 8 => (.array .int)
  | 9 => (.array .int)
  | 10 => (.array .int)
  | 11 => .int
  | 12 => (.array .int)
  | 13 => (.array .int)
  | 14 => (.array .int)
  | 15 => (.array .byte)
  | 16 => (.array .int)
  | 17 => (.array .int)
  | 18 => (.array .boolean)
  | 19 => (.array .int)
  | 20 => (.array .int)
  | 21 => .int
  | 22 => .int
  | 23 => (.array .int)
  | 24 => (.array .int)
  | 25 => (.array .int)
  | 26 => .int
  | 27 => (.array .int)
  | 28 => (.array .int)
  | 29 => (.array .int)
  | 30 => (.array .int)
  | 31 => (.array .int)
  | 32 => (.array .int)
  | 33 => (.array .int)
  | 34 => (.array .int)
  | 35 => (.array .int)
  | 36 => (.array .int)
  | 37 => (.array .int)
  | 38 => (.array .int)
  | 39 => .int
  | 40 => .long
  | 41 => (.array .byte)
  | 42 => (.array .int)
  | 43 => (.array .long)
  | 44 => (.array .long)
  | 45 => .int
  | 46 => .int
  | 47 => .int
  | 48 => .int
  | 49 => (.array .int)
  | 50 => (.array .int)
  | 51 => (.array .int)
  | 52 => (.array .int)
  | 53 => (.array .int)
  | 54 => (.array .int)
  | 55 => (.array .int)
  | 56 => (.array .int)
  | 57 => (.array .long)
  | 58 => (.array .long)
  | 59 => .int
  | 60 => .int
  | 61 => (.array .int)
  | 62 => (.array .int)
  | 63 => (.array .int)
  | 64 => (.array .boolean)
  | 65 => (.array .boolean)
  | 66 => (.array .boolean)
  | 67 => (.array .int)
  | 68 => (.array .int)
  | 69 => (.array .long)
  | 70 => (.array .long)
  | 71 => (.array .long)
  | 72 => .int
  | 73 => .int
  | 74 => .int
  | 75 => .boolean
  | 76 => .int
  | 77 => .int
  | 78 => .int
  | 79 => .int
  | 80 => (.array .int)
  | 81 => (.array .int)
  | 82 => (.array .int)
  | 83 => .int
  | 84 => .int
  | 85 => .int
  | _ => .int
theorem n_Mo : ∀ a, a < 87 → ∀ b, b < 87 → a ≠ b → (F_Mo a).2.1 ≠ (F_Mo b).2.1 := by decide +kernel
theorem t_Mo_ok : ∀ k, k < 87 → parseFieldDescriptor (F_Mo k).2.2.1 = some (t_Mo k) := by decide +kernel
theorem in_Mo : ∀ w ∈ u_ws R_Mo F_Mo 87, w ∈ lw_gd := tb_lay [1873, 1875, 1877, 1879, 1881, 1883, 1885, 1887, 1889, 1891, 1893, 1895, 1897, 1899, 1901, 1903, 1905, 1907, 1909, 1911, 1913, 1915, 1917, 1919, 1921, 1923, 1925, 1927, 1929, 1931, 1933, 1935, 1937, 1939, 1941, 1943, 1945, 1947, 1949, 1951, 1953, 1955, 1957, 1959, 1961, 1963, 1965, 1967, 1969, 1971, 1973, 1975, 1977, 1979, 1981, 1983, 1985, 1987, 1989, 1991, 1993, 1995, 1997, 1999, 2001, 2003, 2005, 2007, 2009, 2011, 2013, 2015, 2017, 2019, 2021, 2023, 2025, 2027, 2029, 2031, 2033, 2035, 2037, 2039, 2041, 2043, 2045] (by decide +kernel) (by decide +kernel)
def R_Tx : String := "BreweryHouseModel$Text"
def F_Tx : u_T := fun k => match k with
  | 0 => ("BreweryHouseModel$Text", "text", "[B", true)
  | 1 => ("BreweryHouseModel$Text", "size", "I", false)
  | 2 => ("BreweryHouseModel$Text", "place", "I", false)
  | 3 => ("BreweryHouseModel$Text", "nowLine", "I", false)
  | 4 => ("BreweryHouseModel$Text", "token", "I", false)
  | 5 => ("BreweryHouseModel$Text", "begin", "I", false)
  | 6 => ("BreweryHouseModel$Text", "end", "I", false)
  | 7 => ("BreweryHouseModel$Text", "tokenLine", "I", false)
  | 8 => ("BreweryHouseModel$Text", "value", "J", false)
  | 9 => ("BreweryHouseModel$Text", "pointed", "Z", false)
  | 10 => ("BreweryHouseModel$Text", "wrong", "I", false)
  | 11 => ("BreweryHouseModel$Text", "open", "I", false)
  | 12 => ("BreweryHouseModel$Text", "half", "I", false)
  | 13 => ("BreweryHouseModel$Text", "nodes", "I", false)
  | 14 => ("BreweryHouseModel$Text", "whats", "[I", true)
  | 15 => ("BreweryHouseModel$Text", "numbers", "[J", true)
  | 16 => ("BreweryHouseModel$Text", "lines", "[I", true)
  | 17 => ("BreweryHouseModel$Text", "units", "[I", true)
  | 18 => ("BreweryHouseModel$Text", "kidAt", "[I", true)
  | 19 => ("BreweryHouseModel$Text", "kidCount", "[I", true)
  | 20 => ("BreweryHouseModel$Text", "kids", "[I", true)
  | 21 => ("BreweryHouseModel$Text", "kidsMade", "I", false)
  | 22 => ("BreweryHouseModel$Text", "tops", "[I", true)
  | 23 => ("BreweryHouseModel$Text", "topsMade", "I", false)
  | 24 => ("BreweryHouseModel$Text", "names", "I", false)
  | 25 => ("BreweryHouseModel$Text", "letters", "[B", true)
  | 26 => ("BreweryHouseModel$Text", "lengths", "[I", true)
  | 27 => ("BreweryHouseModel$Text", "roles", "[I", true)
  | 28 => ("BreweryHouseModel$Text", "nameUnits", "[I", true)
  | 29 => ("BreweryHouseModel$Text", "stepNodes", "[I", true)
  | 30 => ("BreweryHouseModel$Text", "nodeCount", "I", false)
  | 31 => ("BreweryHouseModel$Text", "topCount", "I", false)
  | 32 => ("BreweryHouseModel$Text", "nameCount", "I", false)
  | 33 => ("BreweryHouseModel$Text", "statements", "I", false)
  | 34 => ("BreweryHouseModel$Text", "pile", "[I", true)
  | 35 => ("BreweryHouseModel$Text", "high", "I", false)
  | 36 => ("BreweryHouseModel$Text", "costs", "[I", true)
  | 37 => ("BreweryHouseModel$Text", "deeps", "[I", true)
  | _ => ("BreweryHouseModel$Text", "made", "I", false)
def t_Tx : Nat → FieldType := fun k => match k with
  | 0 => (.array .byte)
  | 1 => .int
  | 2 => .int
  | 3 => .int
  | 4 => .int
  | 5 => .int
  | 6 => .int
  | 7 => .int
  | 8 => .long
  | 9 => .boolean
  | 10 => .int
  | 11 => .int
  | 12 => .int
  | 13 => .int
  | 14 => (.array .int)
  | 15 => (.array .long)
  | 16 => (.array .int)
  | 17 => (.array .int)
  | 18 => (.array .int)
  | 19 => (.array .int)
  | 20 => (.array .int)
  | 21 => .int
  | 22 => (.array .int)
  | 23 => .int
  | 24 => .int
  | 25 => (.array .byte)
  | 26 => (.array .int)
  | 27 => (.array .int)
  | 28 => (.array .int)
  | 29 => (.array .int)
  | 30 => .int
  | 31 => .int
  | 32 => .int
  | 33 => .int
  | 34 => (.array .int)
  | 35 => .int
  | 36 => (.array .int)
  | 37 => (.array .int)
  | _ => .int
theorem n_Tx : ∀ a, a < 39 → ∀ b, b < 39 → a ≠ b → (F_Tx a).2.1 ≠ (F_Tx b).2.1 := by decide +kernel
theorem t_Tx_ok : ∀ k, k < 39 → parseFieldDescriptor (F_Tx k).2.2.1 = some (t_Tx k) := by decide +kernel
theorem in_Tx : ∀ w ∈ u_ws R_Tx F_Tx 39, w ∈ lw_gd := tb_lay [1619, 1621, 1623, 1625, 1627, 1629, 1631, 1633, 1635, 1637, 1639, 1641, 1643, 1645, 1647, 1649, 1651, 1653, 1655, 1657, 1659, 1661, 1663, 1665, 1667, 1669, 1671, 1673, 1675, 1677, 1679, 1681, 1683, 1685, 1687, 1689, 1691, 1693, 1695] (by decide +kernel) (by decide +kernel)
def R_Mr : String := "BreweryHouseModel$Rows"
def F_Mr : u_T := fun k => match k with
  | 0 => ("BreweryHouseModel$Rows", "text", "[B", true)
  | 1 => ("BreweryHouseModel$Rows", "size", "I", false)
  | 2 => ("BreweryHouseModel$Rows", "begins", "[I", true)
  | 3 => ("BreweryHouseModel$Rows", "ends", "[I", true)
  | 4 => ("BreweryHouseModel$Rows", "words", "I", false)
  | 5 => ("BreweryHouseModel$Rows", "next", "I", false)
  | 6 => ("BreweryHouseModel$Rows", "open", "I", false)
  | 7 => ("BreweryHouseModel$Rows", "stood", "I", false)
  | 8 => ("BreweryHouseModel$Rows", "whats", "[I", true)
  | 9 => ("BreweryHouseModel$Rows", "firsts", "[I", true)
  | 10 => ("BreweryHouseModel$Rows", "seconds", "[I", true)
  | 11 => ("BreweryHouseModel$Rows", "nodes", "I", false)
  | 12 => ("BreweryHouseModel$Rows", "half", "I", false)
  | 13 => ("BreweryHouseModel$Rows", "made", "I", false)
  | 14 => ("BreweryHouseModel$Rows", "tops", "[I", true)
  | 15 => ("BreweryHouseModel$Rows", "actCounts", "[I", true)
  | 16 => ("BreweryHouseModel$Rows", "acts", "[I", true)
  | 17 => ("BreweryHouseModel$Rows", "numbers", "[I", true)
  | 18 => ("BreweryHouseModel$Rows", "latches", "[Z", true)
  | 19 => ("BreweryHouseModel$Rows", "conditions", "[I", true)
  | 20 => ("BreweryHouseModel$Rows", "rows", "I", false)
  | 21 => ("BreweryHouseModel$Rows", "counts", "[I", true)
  | 22 => ("BreweryHouseModel$Rows", "latched", "[Z", true)
  | 23 => ("BreweryHouseModel$Rows", "passes", "[I", true)
  | _ => ("BreweryHouseModel$Rows", "state", "I", false)
def t_Mr : Nat → FieldType := fun k => match k with
  | 0 => (.array .byte)
  | 1 => .int
  | 2 => (.array .int)
  | 3 => (.array .int)
  | 4 => .int
  | 5 => .int
  | 6 => .int
  | 7 => .int
  | 8 => (.array .int)
  | 9 => (.array .int)
  | 10 => (.array .int)
  | 11 => .int
  | 12 => .int
  | 13 => .int
  | 14 => (.array .int)
  | 15 => (.array .int)
  | 16 => (.array .int)
  | 17 => (.array .int)
  | 18 => (.array .boolean)
  | 19 => (.array .int)
  | 20 => .int
  | 21 => (.array .int)
  | 22 => (.array .boolean)
  | 23 => (.array .int)
  | _ => .int
theorem n_Mr : ∀ a, a < 25 → ∀ b, b < 25 → a ≠ b → (F_Mr a).2.1 ≠ (F_Mr b).2.1 := by decide +kernel
theorem t_Mr_ok : ∀ k, k < 25 → parseFieldDescriptor (F_Mr k).2.2.1 = some (t_Mr k) := by decide +kernel
theorem in_Mr : ∀ w ∈ u_ws R_Mr F_Mr 25, w ∈ lw_gd := tb_lay [1734, 1736, 1738, 1740, 1742, 1744, 1746, 1748, 1750, 1752, 1754, 1756, 1758, 1760, 1762, 1764, 1766, 1768, 1770, 1772, 1774, 1776, 1778, 1780, 1782] (by decide +kernel) (by decide +kernel)
abbrev classes : List vw_C := [(R_Bh, F_Bh, 16), (R_Tp, F_Tp, 3), (R_Al, F_Al, 4), (R_Pl, F_Pl, 12), (R_St, F_St, 12), (R_Wa, F_Wa, 18), (R_Sf, F_Sf, 10), (R_Ro, F_Ro, 18), (R_Pr, F_Pr, 18), (R_Rd, F_Rd, 13), (R_Ru, F_Ru, 21), (R_Ac, F_Ac, 8), (R_Mo, F_Mo, 87), (R_Tx, F_Tx, 39), (R_Mr, F_Mr, 25)]
abbrev tys4 (cI cB cZ cJ : ClassId) : List (ClassId × FieldType) := [(cI, .int), (cB, .byte), (cZ, .boolean), (cJ, .long)]
theorem ka_eq {U : State} {a b : ClassId} {ty : FieldType} (h1 : va_RA U a ty) (h2 : va_RA U b ty) : a = b := by
  cases ty with
  | object C =>
    obtain ⟨_, _, _, _, _, h3⟩ := h1
    obtain ⟨_, _, _, _, _, h4⟩ := h2
    exact Option.some.inj (h3.symm.trans h4)
  | _ => exact Option.some.inj (Eq.trans (Eq.symm h1) h2)
section KA
variable {p : Program} {l : Launch} {e : Env} {R : Room} {s : State} {m : MethodId} {args : Array Value} {below : List Frame} {meth : Method} {c : Code} {H : Heap} {locs : List Loc} {cells slots : Nat} {Q : State → Prop}
variable {pc : Nat} {ls : Array Slot} {rest : List Value} {D : va_G} {cl : List vw_C} {tys : List (ClassId × FieldType)} {ws : va_W} {A : Nat → Prop} {H0 : Heap} {cc : ByteArray}
/-- a new array of a kind whose class is known -/
theorem ka_newa (hexec : p.tables.exec = Jvm.exec) (hb : c.code = cc) {atype : ArrayType} (harr : (Cond.arrayClass (newarray.typeOf atype)).before args s = true) {ty : FieldType} (hty : newarray.typeOf atype = ty) (hK : va_K D cl tys s) (hP : va_P D cl ws H) (hD : va_D A ws) (hS : va_S A H0 H locs) (hA : ∀ q, H0.size ≤ q → A q)
    (t0 : Nat) {cA : ClassId} (ht : tys[t0]? = some (cA, ty)) {n : Int32} {N' : Nat} {a0 : vp_A} (ha : ∀ cA : ClassId, vp_cell cA a0 = arrV cA N' (fun _ => defaultValue ty)) (hn : ¬ n < 0) (hN : n.toNatClampNeg = N') (hbytes : N' * componentBytes ty ≤ 536870912) (hcells : cells + 1 ≤ R.cells) (hslots : slots + N' ≤ R.slots) (hdg : decode cc pc = .ok (.newarray atype, 2))
    (kk : ∀ (q : Nat) (H1 : Heap), va_P D cl (ws ++ [(q, .inl (cA, a0))]) H1 → va_D A (ws ++ [(q, .inl (cA, a0))]) → va_S A H0 H1 locs →
      W p l e R s m args below meth c H1 locs (cells + 1) (slots + N') Q (F0 m (pc + 2) ls (.ref q :: rest))) : W p l e R s m args below meth c H locs cells slots Q (F0 m pc ls (.int n :: rest)) := by
  refine va_newa hexec hb harr hty hK hP hD hS hA ha hn hN hbytes hcells hslots hdg (fun q cB H1 hK1 hP1 hD1 hS1 => ?_)
  have h2 := (hK1.2 tys.length (cB, ty) (by simp)).2
  have h3 := (hK.2 t0 _ ht).2
  have h4 : cB = cA := ka_eq h2 h3
  subst h4
  exact kk q H1 hP1 hD1 hS1
end KA
end
section
def nw_is : Cond → Bool
  | .fieldLinkNest .. | .methodLinkNest .. => true
  | _ => false
def lw_nest : List Cond := tables_1.filter nw_is
theorem nw_mem {w : Cond} {i : Nat} (h : tables_1[i]? = some w) (hg : nw_is w = true) : w ∈ lw_nest := List.mem_filter.mpr ⟨List.mem_of_getElem? h, hg⟩
/-- the classes, the array classes, and the links between nest mates, as a state has them -/
def KK (dC : Nat → ClassId) (dI : Nat → Nat → Nat) (cI cB cZ cJ : ClassId) (U : State) : Prop := va_K (dC, dI) classes (tys4 cI cB cZ cJ) U ∧ ∀ w ∈ lw_nest, va_Nw w U
theorem KK.same {dC : Nat → ClassId} {dI : Nat → Nat → Nat} {cI cB cZ cJ : ClassId} {u U : State} (h : u.vm = U.vm) (hK : KK dC dI cI cB cZ cJ u) : KK dC dI cI cB cZ cJ U := by
  refine ⟨va_K.moved (h ▸ Vm.Alike.refl u.vm) hK.1, fun w hw => ?_⟩
  have h1 := hK.2 w hw
  have h2 : nw_is w = true := (List.mem_filter.mp hw).2
  cases w <;> first | (cases h2; done) | exact va_Nw.same rfl h h1
theorem KK.warm {dC : Nat → ClassId} {dI : Nat → Nat → Nat} {cI cB cZ cJ : ClassId} {s U : State} (hW : s.WarmedH U.vm) (hK : KK dC dI cI cB cZ cJ s) : KK dC dI cI cB cZ cJ U := by
  refine ⟨va_K.moved hW.alike hK.1, fun w hw => ?_⟩
  have h1 := hK.2 w hw
  have h2 : nw_is w = true := (List.mem_filter.mp hw).2
  cases w <;> first | (cases h2; done) | exact va_Nw.warmF hW h1 | exact va_Nw.warmM hW h1
def PW (dC : Nat → ClassId) (dI : Nat → Nat → Nat) (cI cB cZ cJ : ClassId) (ws : va_W) (sz : Nat) : State → Prop := fun U => U.heap.size = sz ∧ va_P (dC, dI) classes ws U.heap ∧ KK dC dI cI cB cZ cJ U ∧ va_D (fun _ => True) ws
theorem pw_blind {dC : Nat → ClassId} {dI : Nat → Nat → Nat} {cI cB cZ cJ : ClassId} {ws : va_W} {sz : Nat} {av : List Value} : FrameBlind (va_Pc av (PW dC dI cI cB cZ cJ ws sz)) := fun a U g mk q => by
  obtain ⟨q0, q1, qP, qK, qD⟩ := q
  exact ⟨q0, q1, qP, KK.same (u := U) (U := U.calling g mk a) rfl qK, qD⟩
theorem pw_pre {dC : Nat → ClassId} {dI : Nat → Nat → Nat} {cI cB cZ cJ : ClassId} {ws : va_W} {av : List Value} {s : State} {H : Heap} {A : Nat → Prop} (hP : va_P (dC, dI) classes ws H) (hK : KK dC dI cI cB cZ cJ s) (hD : va_D A ws) : ∀ U : State, U.heap = H → s.WarmedH U.vm → va_Pc av (PW dC dI cI cB cZ cJ ws H.size) av.toArray U := fun U hU hW => ⟨rfl, by rw [hU], by rw [hU]; exact hP, hK.warm hW, hD.weaken (fun _ _ _ _ => trivial)⟩
theorem pu_free {A : Nat → Prop} {H0 H : Heap} {locs : List Loc} (hS : va_S A H0 H locs) (hA : ∀ q, H0.size ≤ q → A q) : ∀ q, va_A [] H.size q → A q := fun q h => hA q (Nat.le_trans hS.1 (h.elim (fun ⟨k, e, hk⟩ => by simp at hk) id))
theorem pu_kept {D : va_G} {ws : va_W} {H H1 : Heap} (hP : va_P D classes ws H) (hk : ∀ q : Nat, q < H.size → ¬ va_A [] H.size q → H1[q]? = H[q]?) : va_P D classes ws H1 := hP.kept (fun k x hx => hk x.1 (hP k x hx).lt (fun h => h.elim (fun ⟨k, e, hk⟩ => by simp at hk) (fun h => Nat.lt_irrefl _ (Nat.lt_of_lt_of_le (hP k x hx).lt h))))
theorem st_ne {fs : List Value} {j k : Nat} {x v : Value} (h : fs[j]? = some x) (hne : k ≠ j) : (fs.set k v)[j]? = some x := by rw [List.getElem?_set_ne hne]; exact h
theorem st_lt {fs : List Value} {k : Nat} {x : Value} (h : fs[k]? = some x) : k < fs.length := (List.getElem?_eq_some_iff.mp h).1
theorem st_eq {fs : List Value} {k : Nat} {x v : Value} (h : fs[k]? = some x) : (fs.set k v)[k]? = some v := by rw [List.getElem?_set_self (st_lt h)]
theorem tb_V {a : Cond} {own C : String} {idx n : Nat} {y : MethodName} {b : ByteArray} {r : Option FieldType} (h1 : Cond.methodLink own idx y ∈ lw_gd) (h2 : Cond.instanceMethod y ∈ lw_gd) (h3 : Cond.selects C y y ∈ lw_gd) (h4 : Cond.initialized C ∈ lw_gd) (h5 : Cond.code y b n r ∈ lw_gd) : GoodIn (a :: lw_gd) (wsV own idx C y (.code y b n r :: lw_gd)) := tb_inA (fun w hw => by
  rcases List.mem_append.mp hw with hw | hw
  · simp only [List.mem_cons, List.not_mem_nil, or_false] at hw
    rcases hw with e | e | e | e <;> rw [e] <;> assumption
  · rcases List.mem_cons.mp hw with e | hw
    · rw [e]; exact h5
    · exact hw)
theorem tb_S {a : Cond} {own : String} {idx n : Nat} {y : MethodName} {b : ByteArray} {r : Option FieldType} (h1 : Cond.methodLink own idx y ∈ lw_gd) (h2 : Cond.static y ∈ lw_gd) (h4 : Cond.initialized own ∈ lw_gd) (h5 : Cond.code y b n r ∈ lw_gd) : GoodIn (a :: lw_gd) (wsS own idx y (.code y b n r :: lw_gd)) := tb_inA (fun w hw => by
  rcases List.mem_append.mp hw with hw | hw
  · simp only [List.mem_cons, List.not_mem_nil, or_false] at hw
    rcases hw with e | e | e <;> rw [e] <;> assumption
  · rcases List.mem_cons.mp hw with e | hw
    · rw [e]; exact h5
    · exact hw)
theorem nd_lt {x a b : Int32} (h : ¬ x < a) (hab : b < a) : b < x := by
  simp only [Int32.lt_iff_toInt_lt] at *; omega
theorem nd_le {x a b : Int32} (h : ¬ x < a) (hab : b ≤ a) : b ≤ x := by
  simp only [Int32.lt_iff_toInt_lt, Int32.le_iff_toInt_le] at *; omega
theorem nu_lt {x a b : Int32} (h : ¬ a < x) (hab : a < b) : x < b := by
  simp only [Int32.lt_iff_toInt_lt] at *; omega
theorem nu_le {x a b : Int32} (h : ¬ a < x) (hab : a ≤ b) : x ≤ b := by
  simp only [Int32.lt_iff_toInt_lt, Int32.le_iff_toInt_le] at *; omega
theorem nv_lt {x a b : Int32} (h : ¬ x < a) (hab : b ≤ a) : ¬ x < b := by
  simp only [Int32.lt_iff_toInt_lt, Int32.le_iff_toInt_le] at *; omega
theorem nv_le {x a b : Int32} (h : ¬ x < a) (hab : b < a) : ¬ x ≤ b := by
  simp only [Int32.lt_iff_toInt_lt, Int32.le_iff_toInt_le] at *; omega
theorem ir_in {x a b : Int32} {n : Nat} (h : ¬ x < a) (h2 : ¬ b < x) (ha : 0 ≤ a.toInt) (hb : b.toInt < n) : vp_in x n := by
  rw [vp_in_iff]; simp only [Int32.lt_iff_toInt_lt] at *; omega
theorem ir_16 {x y : Int32} (h1 : ¬ x < 1) (h2 : ¬ 14 < x) (h3 : ¬ y < 1) (h4 : ¬ 14 < y) : vp_in (16 * x + y) 256 := by
  have a1 : ¬ x < 0 := nv_lt h1 (by decide)
  have a2 : ¬ y < 0 := nv_lt h3 (by decide)
  obtain ⟨i, hi, rfl⟩ := nI_of2 (M := 14) (n := 14) (by decide) a1 (Int32.not_lt.mp h2)
  obtain ⟨j, hj, rfl⟩ := nI_of2 (M := 14) (n := 14) (by decide) a2 (Int32.not_lt.mp h4)
  have e : (16 : Int32) * nI i + nI j = nI (16 * i + j) := by
    rw [show (16 : Int32) = nI 16 from rfl, pk_mul, nI_add]
  rw [e]
  exact vp_in_nI (by omega) (by omega)
theorem wn_P {D : va_G} {cl : List vw_C} {H : Heap} : va_P D cl [] H := fun k q h => by simp at h
theorem wn_D {A : Nat → Prop} : va_D A [] := ⟨fun i j p q h => by simp at h, fun k q h => by simp at h⟩
end
section
abbrev b_Mo_isThing : ByteArray := prog_14_method_16_code
def y_Mo_isThing : MethodName := ⟨R_Mo, "isThing", "(I)Z"⟩
abbrev w_Mo_isThing : List Cond := .code y_Mo_isThing b_Mo_isThing 2 (some .boolean) :: lw_gd
abbrev b_Mo_second : ByteArray := prog_14_method_91_code
def y_Mo_second : MethodName := ⟨R_Mo, "second", "()I"⟩
abbrev w_Mo_second : List Cond := .code y_Mo_second b_Mo_second 1 (some .int) :: lw_gd
abbrev b_Mo_state : ByteArray := prog_14_method_88_code
def y_Mo_state : MethodName := ⟨R_Mo, "state", "()I"⟩
abbrev w_Mo_state : List Cond := .code y_Mo_state b_Mo_state 1 (some .int) :: lw_gd
abbrev b_Mo_isTank : ByteArray := prog_14_method_17_code
def y_Mo_isTank : MethodName := ⟨R_Mo, "isTank", "(I)Z"⟩
abbrev w_Mo_isTank : List Cond := .code y_Mo_isTank b_Mo_isTank 2 (some .boolean) :: lw_gd
abbrev b_Mo_isValve : ByteArray := prog_14_method_18_code
def y_Mo_isValve : MethodName := ⟨R_Mo, "isValve", "(I)Z"⟩
abbrev w_Mo_isValve : List Cond := .code y_Mo_isValve b_Mo_isValve 2 (some .boolean) :: lw_gd
abbrev b_Mo_isPipe : ByteArray := prog_14_method_19_code
def y_Mo_isPipe : MethodName := ⟨R_Mo, "isPipe", "(I)Z"⟩
abbrev w_Mo_isPipe : List Cond := .code y_Mo_isPipe b_Mo_isPipe 2 (some .boolean) :: lw_gd
abbrev b_Mo_holdsLiquid : ByteArray := prog_14_method_20_code
def y_Mo_holdsLiquid : MethodName := ⟨R_Mo, "holdsLiquid", "(I)Z"⟩
abbrev w_Mo_holdsLiquid : List Cond := .code y_Mo_holdsLiquid b_Mo_holdsLiquid 2 (some .boolean) :: lw_gd
abbrev b_Mo_isRole : ByteArray := prog_14_method_58_code
def y_Mo_isRole : MethodName := ⟨R_Mo, "isRole", "(II)Z"⟩
abbrev w_Mo_isRole : List Cond := .code y_Mo_isRole b_Mo_isRole 3 (some .boolean) :: lw_gd
abbrev b_Mo_sense : ByteArray := prog_14_method_59_code
def y_Mo_sense : MethodName := ⟨R_Mo, "sense", "(III)Z"⟩
abbrev w_Mo_sense : List Cond := .code y_Mo_sense b_Mo_sense 4 (some .boolean) :: lw_gd
abbrev b_Mo_signal : ByteArray := prog_14_method_61_code
def y_Mo_signal : MethodName := ⟨R_Mo, "signal", "(IJ)Z"⟩
abbrev w_Mo_signal : List Cond := .code y_Mo_signal b_Mo_signal 4 (some .boolean) :: lw_gd
abbrev b_Mo_value : ByteArray := prog_14_method_62_code
def y_Mo_value : MethodName := ⟨R_Mo, "value", "(I)J"⟩
abbrev w_Mo_value : List Cond := .code y_Mo_value b_Mo_value 2 (some .long) :: lw_gd
abbrev b_Mo_fill : ByteArray := prog_14_method_50_code
def y_Mo_fill : MethodName := ⟨R_Mo, "fill", "(IIJ)Z"⟩
abbrev w_Mo_fill : List Cond := .code y_Mo_fill b_Mo_fill 5 (some .boolean) :: lw_gd
abbrev b_Mo_space : ByteArray := prog_14_method_49_code
def y_Mo_space : MethodName := ⟨R_Mo, "space", "(II)I"⟩
abbrev w_Mo_space : List Cond := .code y_Mo_space b_Mo_space 3 (some .int) :: lw_gd
abbrev b_Mo_way : ByteArray := prog_14_method_48_code
def y_Mo_way : MethodName := ⟨R_Mo, "way", "(II)I"⟩
abbrev w_Mo_way : List Cond := .code y_Mo_way b_Mo_way 3 (some .int) :: lw_gd
abbrev b_Mo_alarm : ByteArray := prog_14_method_90_code
def y_Mo_alarm : MethodName := ⟨R_Mo, "alarm", "(II)I"⟩
abbrev w_Mo_alarm : List Cond := .code y_Mo_alarm b_Mo_alarm 3 (some .int) :: lw_gd
abbrev b_Mo_hold : ByteArray := prog_14_method_86_code
def y_Mo_hold : MethodName := ⟨R_Mo, "hold", "(Z)Z"⟩
abbrev w_Mo_hold : List Cond := .code y_Mo_hold b_Mo_hold 2 (some .boolean) :: lw_gd
abbrev b_Mo_stop : ByteArray := prog_14_method_87_code
def y_Mo_stop : MethodName := ⟨R_Mo, "stop", "()Z"⟩
abbrev w_Mo_stop : List Cond := .code y_Mo_stop b_Mo_stop 1 (some .boolean) :: lw_gd
abbrev b_Mo_start : ByteArray := prog_14_method_73_code
def y_Mo_start : MethodName := ⟨R_Mo, "start", "()Z"⟩
abbrev w_Mo_start : List Cond := .code y_Mo_start b_Mo_start 5 (some .boolean) :: lw_gd
abbrev b_Mr_isRow : ByteArray := prog_15_method_24_code
def y_Mr_isRow : MethodName := ⟨R_Mr, "isRow", "(I)Z"⟩
abbrev w_Mr_isRow : List Cond := .code y_Mr_isRow b_Mr_isRow 2 (some .boolean) :: lw_gd
abbrev b_Mr_pass : ByteArray := prog_15_method_25_code
def y_Mr_pass : MethodName := ⟨R_Mr, "pass", "(IIII)I"⟩
abbrev w_Mr_pass : List Cond := .code y_Mr_pass b_Mr_pass 5 (some .int) :: lw_gd
abbrev b_Mr_reset : ByteArray := prog_15_method_27_code
def y_Mr_reset : MethodName := ⟨R_Mr, "reset", "(I)Z"⟩
abbrev w_Mr_reset : List Cond := .code y_Mr_reset b_Mr_reset 2 (some .boolean) :: lw_gd
abbrev b_Mr_act1 : ByteArray := prog_15_method_22_code
def y_Mr_act1 : MethodName := ⟨R_Mr, "act", "(I)I"⟩
abbrev w_Mr_act1 : List Cond := .code y_Mr_act1 b_Mr_act1 4 (some .int) :: lw_gd
abbrev b_Mo_pass : ByteArray := prog_14_method_65_code
def y_Mo_pass : MethodName := ⟨R_Mo, "pass", "(IIII)I"⟩
abbrev w_Mo_pass : List Cond := .code y_Mo_pass b_Mo_pass 5 (some .int) :: lw_gd
abbrev b_Mo_reset : ByteArray := prog_14_method_66_code
def y_Mo_reset : MethodName := ⟨R_Mo, "reset", "(I)Z"⟩
abbrev w_Mo_reset : List Cond := .code y_Mo_reset b_Mo_reset 2 (some .boolean) :: lw_gd
abbrev b_Mo_bars : ByteArray := prog_14_method_67_code
def y_Mo_bars : MethodName := ⟨R_Mo, "bars", "(I)I"⟩
abbrev w_Mo_bars : List Cond := .code y_Mo_bars b_Mo_bars 2 (some .int) :: lw_gd
abbrev b_Mo_row : ByteArray := prog_14_method_68_code
def y_Mo_row : MethodName := ⟨R_Mo, "row", "(II)I"⟩
abbrev w_Mo_row : List Cond := .code y_Mo_row b_Mo_row 3 (some .int) :: lw_gd
theorem mw_18 : (.initialized "BreweryHouseModel" : Cond) ∈ lw_gd := tb_mem (i := 18) (by decide +kernel) (by decide +kernel)
theorem mw_20 : (.initialized "BreweryHouseModel$Rows" : Cond) ∈ lw_gd := tb_mem (i := 20) (by decide +kernel) (by decide +kernel)
theorem mw_1724 : (.fieldLink "BreweryHouseModel$Rows" 133 "BreweryHouseModel$Rows" "rows" "I" : Cond) ∈ lw_gd := tb_mem (i := 1724) (by decide +kernel) (by decide +kernel)
theorem mw_1788 : (.fieldLink "BreweryHouseModel" 16 "BreweryHouseModel" "program" "LBreweryHouseModel$Text;" : Cond) ∈ lw_gd := tb_mem (i := 1788) (by decide +kernel) (by decide +kernel)
theorem mw_1789 : (.fieldLink "BreweryHouseModel" 23 "BreweryHouseModel" "interlocks" "LBreweryHouseModel$Rows;" : Cond) ∈ lw_gd := tb_mem (i := 1789) (by decide +kernel) (by decide +kernel)
theorem mw_1790 : (.fieldLink "BreweryHouseModel" 278 "BreweryHouseModel" "things" "I" : Cond) ∈ lw_gd := tb_mem (i := 1790) (by decide +kernel) (by decide +kernel)
theorem mw_1797 : (.fieldLink "BreweryHouseModel" 281 "BreweryHouseModel" "pipes" "I" : Cond) ∈ lw_gd := tb_mem (i := 1797) (by decide +kernel) (by decide +kernel)
theorem mw_1812 : (.fieldLink "BreweryHouseModel" 284 "BreweryHouseModel" "ways" "I" : Cond) ∈ lw_gd := tb_mem (i := 1812) (by decide +kernel) (by decide +kernel)
theorem mw_1845 : (.fieldLink "BreweryHouseModel" 162 "BreweryHouseModel" "state" "I" : Cond) ∈ lw_gd := tb_mem (i := 1845) (by decide +kernel) (by decide +kernel)
theorem mw_1864 : (.fieldLink "BreweryHouseModel" 326 "BreweryHouseModel" "now" "I" : Cond) ∈ lw_gd := tb_mem (i := 1864) (by decide +kernel) (by decide +kernel)
theorem mw_1865 : (.fieldLink "BreweryHouseModel" 433 "BreweryHouseModel" "alarms" "I" : Cond) ∈ lw_gd := tb_mem (i := 1865) (by decide +kernel) (by decide +kernel)
theorem mw_2404 : (.methodLink "BreweryHouseModel" 412 y_Mo_isValve : Cond) ∈ lw_gd := tb_mem (i := 2404) (by decide +kernel) (by decide +kernel)
theorem mw_2406 : (.instanceMethod y_Mo_isValve : Cond) ∈ lw_gd := tb_mem (i := 2406) (by decide +kernel) (by decide +kernel)
theorem mw_2407 : (.code y_Mo_isValve b_Mo_isValve 2 (some .boolean) : Cond) ∈ lw_gd := tb_mem (i := 2407) (by decide +kernel) (by decide +kernel)
theorem mw_2408 : (.methodLink "BreweryHouseModel" 314 y_Mo_isThing : Cond) ∈ lw_gd := tb_mem (i := 2408) (by decide +kernel) (by decide +kernel)
theorem mw_2410 : (.instanceMethod y_Mo_isThing : Cond) ∈ lw_gd := tb_mem (i := 2410) (by decide +kernel) (by decide +kernel)
theorem mw_2411 : (.code y_Mo_isThing b_Mo_isThing 2 (some .boolean) : Cond) ∈ lw_gd := tb_mem (i := 2411) (by decide +kernel) (by decide +kernel)
theorem mw_2412 : (.methodLink "BreweryHouseModel" 415 y_Mo_holdsLiquid : Cond) ∈ lw_gd := tb_mem (i := 2412) (by decide +kernel) (by decide +kernel)
theorem mw_2414 : (.instanceMethod y_Mo_holdsLiquid : Cond) ∈ lw_gd := tb_mem (i := 2414) (by decide +kernel) (by decide +kernel)
theorem mw_2415 : (.code y_Mo_holdsLiquid b_Mo_holdsLiquid 2 (some .boolean) : Cond) ∈ lw_gd := tb_mem (i := 2415) (by decide +kernel) (by decide +kernel)
theorem mw_2416 : (.methodLink "BreweryHouseModel" 317 y_Mo_isTank : Cond) ∈ lw_gd := tb_mem (i := 2416) (by decide +kernel) (by decide +kernel)
theorem mw_2418 : (.instanceMethod y_Mo_isTank : Cond) ∈ lw_gd := tb_mem (i := 2418) (by decide +kernel) (by decide +kernel)
theorem mw_2419 : (.code y_Mo_isTank b_Mo_isTank 2 (some .boolean) : Cond) ∈ lw_gd := tb_mem (i := 2419) (by decide +kernel) (by decide +kernel)
theorem mw_2420 : (.methodLink "BreweryHouseModel" 320 y_Mo_isPipe : Cond) ∈ lw_gd := tb_mem (i := 2420) (by decide +kernel) (by decide +kernel)
theorem mw_2422 : (.instanceMethod y_Mo_isPipe : Cond) ∈ lw_gd := tb_mem (i := 2422) (by decide +kernel) (by decide +kernel)
theorem mw_2423 : (.code y_Mo_isPipe b_Mo_isPipe 2 (some .boolean) : Cond) ∈ lw_gd := tb_mem (i := 2423) (by decide +kernel) (by decide +kernel)
theorem mw_2470 : (.methodLink "BreweryHouseModel" 424 y_Mr_act1 : Cond) ∈ lw_gd := tb_mem (i := 2470) (by decide +kernel) (by decide +kernel)
theorem mw_2471 : (.instanceMethod y_Mr_act1 : Cond) ∈ lw_gd := tb_mem (i := 2471) (by decide +kernel) (by decide +kernel)
theorem mw_2472 : (.selects "BreweryHouseModel$Rows" y_Mr_act1 y_Mr_act1 : Cond) ∈ lw_gd := tb_mem (i := 2472) (by decide +kernel) (by decide +kernel)
theorem mw_2473 : (.code y_Mr_act1 b_Mr_act1 4 (some .int) : Cond) ∈ lw_gd := tb_mem (i := 2473) (by decide +kernel) (by decide +kernel)
theorem mw_2521 : (.methodLink "BreweryHouseModel" 451 y_Mo_isRole : Cond) ∈ lw_gd := tb_mem (i := 2521) (by decide +kernel) (by decide +kernel)
theorem mw_2523 : (.instanceMethod y_Mo_isRole : Cond) ∈ lw_gd := tb_mem (i := 2523) (by decide +kernel) (by decide +kernel)
theorem mw_2524 : (.code y_Mo_isRole b_Mo_isRole 3 (some .boolean) : Cond) ∈ lw_gd := tb_mem (i := 2524) (by decide +kernel) (by decide +kernel)
theorem mw_2541 : (.methodLink "BreweryHouseModel" 463 y_Mr_pass : Cond) ∈ lw_gd := tb_mem (i := 2541) (by decide +kernel) (by decide +kernel)
theorem mw_2542 : (.instanceMethod y_Mr_pass : Cond) ∈ lw_gd := tb_mem (i := 2542) (by decide +kernel) (by decide +kernel)
theorem mw_2543 : (.selects "BreweryHouseModel$Rows" y_Mr_pass y_Mr_pass : Cond) ∈ lw_gd := tb_mem (i := 2543) (by decide +kernel) (by decide +kernel)
theorem mw_2544 : (.code y_Mr_pass b_Mr_pass 5 (some .int) : Cond) ∈ lw_gd := tb_mem (i := 2544) (by decide +kernel) (by decide +kernel)
theorem mw_2545 : (.methodLink "BreweryHouseModel$Rows" 151 y_Mr_isRow : Cond) ∈ lw_gd := tb_mem (i := 2545) (by decide +kernel) (by decide +kernel)
theorem mw_2547 : (.instanceMethod y_Mr_isRow : Cond) ∈ lw_gd := tb_mem (i := 2547) (by decide +kernel) (by decide +kernel)
theorem mw_2548 : (.code y_Mr_isRow b_Mr_isRow 2 (some .boolean) : Cond) ∈ lw_gd := tb_mem (i := 2548) (by decide +kernel) (by decide +kernel)
theorem mw_2553 : (.methodLink "BreweryHouseModel" 467 y_Mr_reset : Cond) ∈ lw_gd := tb_mem (i := 2553) (by decide +kernel) (by decide +kernel)
theorem mw_2554 : (.instanceMethod y_Mr_reset : Cond) ∈ lw_gd := tb_mem (i := 2554) (by decide +kernel) (by decide +kernel)
theorem mw_2555 : (.selects "BreweryHouseModel$Rows" y_Mr_reset y_Mr_reset : Cond) ∈ lw_gd := tb_mem (i := 2555) (by decide +kernel) (by decide +kernel)
theorem mw_2556 : (.code y_Mr_reset b_Mr_reset 2 (some .boolean) : Cond) ∈ lw_gd := tb_mem (i := 2556) (by decide +kernel) (by decide +kernel)
theorem nw_1610 : (.fieldLinkNest "BreweryHouseModel" 514 "BreweryHouseModel$Text" "topCount" "I" "BreweryHouseModel" : Cond) ∈ lw_nest := nw_mem (i := 1610) (by decide +kernel) rfl
theorem nw_1612 : (.fieldLinkNest "BreweryHouseModel" 442 "BreweryHouseModel$Text" "nameCount" "I" "BreweryHouseModel" : Cond) ∈ lw_nest := nw_mem (i := 1612) (by decide +kernel) rfl
theorem nw_1725 : (.fieldLinkNest "BreweryHouseModel" 470 "BreweryHouseModel$Rows" "rows" "I" "BreweryHouseModel" : Cond) ∈ lw_nest := nw_mem (i := 1725) (by decide +kernel) rfl
theorem sl_151 : (.selects "BreweryHouseModel" y_Mo_isValve y_Mo_isValve : Cond) ∈ lw_gd := List.mem_filter.mpr ⟨List.mem_append_left _ (List.mem_of_getElem? (i := 151) (by decide +kernel)), by decide +kernel⟩
theorem sl_152 : (.selects "BreweryHouseModel" y_Mo_isThing y_Mo_isThing : Cond) ∈ lw_gd := List.mem_filter.mpr ⟨List.mem_append_left _ (List.mem_of_getElem? (i := 152) (by decide +kernel)), by decide +kernel⟩
theorem sl_153 : (.selects "BreweryHouseModel" y_Mo_holdsLiquid y_Mo_holdsLiquid : Cond) ∈ lw_gd := List.mem_filter.mpr ⟨List.mem_append_left _ (List.mem_of_getElem? (i := 153) (by decide +kernel)), by decide +kernel⟩
theorem sl_154 : (.selects "BreweryHouseModel" y_Mo_isTank y_Mo_isTank : Cond) ∈ lw_gd := List.mem_filter.mpr ⟨List.mem_append_left _ (List.mem_of_getElem? (i := 154) (by decide +kernel)), by decide +kernel⟩
theorem sl_155 : (.selects "BreweryHouseModel" y_Mo_isPipe y_Mo_isPipe : Cond) ∈ lw_gd := List.mem_filter.mpr ⟨List.mem_append_left _ (List.mem_of_getElem? (i := 155) (by decide +kernel)), by decide +kernel⟩
theorem sl_171 : (.selects "BreweryHouseModel" y_Mo_isRole y_Mo_isRole : Cond) ∈ lw_gd := List.mem_filter.mpr ⟨List.mem_append_left _ (List.mem_of_getElem? (i := 171) (by decide +kernel)), by decide +kernel⟩
theorem sl_172 : (.selects "BreweryHouseModel$Rows" y_Mr_isRow y_Mr_isRow : Cond) ∈ lw_gd := List.mem_filter.mpr ⟨List.mem_append_left _ (List.mem_of_getElem? (i := 172) (by decide +kernel)), by decide +kernel⟩
theorem d_Mo_isThing_0 : decode b_Mo_isThing 0 = .ok (.iload_n 1, 1) := by decide +kernel
theorem d_Mo_isThing_1 : decode b_Mo_isThing 1 = .ok (.ifCond .lt 15, 3) := by decide +kernel
theorem d_Mo_isThing_4 : decode b_Mo_isThing 4 = .ok (.iload_n 1, 1) := by decide +kernel
theorem d_Mo_isThing_5 : decode b_Mo_isThing 5 = .ok (.aload_n 0, 1) := by decide +kernel
theorem d_Mo_isThing_6 : decode b_Mo_isThing 6 = .ok (.getfield 278, 3) := by decide +kernel
theorem d_Mo_isThing_9 : decode b_Mo_isThing 9 = .ok (.if_icmp .ge 7, 3) := by decide +kernel
theorem d_Mo_isThing_16 : decode b_Mo_isThing 16 = .ok (.iconst 0, 1) := by decide +kernel
theorem d_Mo_isThing_17 : decode b_Mo_isThing 17 = .ok (.ireturn, 1) := by decide +kernel
set_option maxHeartbeats 4000000 in
set_option maxRecDepth 100000 in
theorem c_Mo_isThing (l : Launch) (dC : Nat → ClassId) (dI : Nat → Nat → Nat) (cI cB cZ cJ : ClassId) (th : Int32) (oM : Nat) (fm : List Value) (hm_things : fm[4]? = some (.int 0)) (sz : Nat) : Met l y_Mo_isThing w_Mo_isThing ({ frames := 0, cells := 0, slots := 0, locals := 0 }) (va_Pc [.ref oM, .int th] (PW dC dI cI cB cZ cJ [(oM, .inr (12, fm))] sz)) (va_Qi (fun (r : Int32) (_ : Unit) => r = 0) (fun _ _ => True) (va_A [] sz)) 0 0 (va_A [] sz) := by
  refine Met.ofW (cc := b_Mo_isThing) (maxL := 2) (ret := (some .boolean)) (by decide) rfl ?_
  intro p e s m args below meth c s₁ B hml hv
  obtain ⟨rfl, hsz, hP, hK, hD⟩ := hv
  have hx := B.exec
  have hb := B.bytes
  have hr := B.returns
  have hts := atoms_spec (ws := w_Mo_isThing) B.pre
  have hown : s.vm.findClass R_Mo = some m.cls := findClass_of_methodNamed B.named
  have hlocks := B.notSynchronized
  subst hsz
  generalize hAe : va_A [] s.heap.size = A at ⊢
  have hA : ∀ q : Nat, s.heap.size ≤ q → A q := fun q h => by rw [← hAe]; exact Or.inr h
  have hS : va_S A s.heap s.heap [] := va_S.rf
  have hP : va_P (dC, dI) classes [(oM, .inr (12, fm))] s.heap := hP
  have hl := lv_entry ([.ref oM, .int th]) (n := 2) (Nat.le_of_ble_eq_true rfl)
  rw [lg_entry_eq]
  generalize (lg_sl ([.ref oM, .int th]) ++ List.replicate (2 - (lg_sl ([.ref oM, .int th])).length) Slot.unset).toArray = ls at hl ⊢
  have hl : lv_has ls 2 [(0, .ref oM), (1, .int th)] := hl
  refine lv_iload_n hx hb d_Mo_isThing_0 rfl (lv_at hl 1 rfl) ?_
  refine lv_if_lt (tgt := 16) hx hb d_Mo_isThing_1 (by decide) (fun h1 => ?_) (fun h1 => ?_)
  · refine lv_iconst (v := 0) hx hb d_Mo_isThing_16 (by decide) ?_
    exact W.zret (v := 0) (ty := .boolean) hx hb hr (by decide) (fun t ht hW => ⟨⟨_, (), rfl, (rfl), trivial⟩, hS.F ht⟩) hS.2.2 d_Mo_isThing_17
  · refine lv_iload_n hx hb d_Mo_isThing_4 rfl (lv_at hl 1 rfl) ?_
    refine lv_aload_n hx hb d_Mo_isThing_5 rfl (lv_at hl 0 rfl) ?_
    refine va_get (D := (dC, dI)) (ci := 12) (v := .int 0) (C := R_Mo) (T := F_Mo) (N := 87) hx hb hts (fun w h => List.mem_cons_of_mem _ (in_Mo w h)) hown hK.1 hP 0 rfl rfl 4 (by decide) (hts _ (List.mem_cons_of_mem _ mw_1790)) (fun _ h9 => h9) hm_things d_Mo_isThing_6 ?_
    refine lv_icmp_ge (tgt := 16) hx hb d_Mo_isThing_9 (by decide) (fun _ => ?_) (fun h => absurd (nd_le h1 (by decide)) h)
    refine lv_iconst (v := 0) hx hb d_Mo_isThing_16 (by decide) ?_
    exact W.zret (v := 0) (ty := .boolean) hx hb hr (by decide) (fun t ht hW => ⟨⟨_, (), rfl, (rfl), trivial⟩, hS.F ht⟩) hS.2.2 d_Mo_isThing_17
theorem d_Mo_second_0 : decode b_Mo_second 0 = .ok (.aload_n 0, 1) := by decide +kernel
theorem d_Mo_second_1 : decode b_Mo_second 1 = .ok (.getfield 326, 3) := by decide +kernel
theorem d_Mo_second_4 : decode b_Mo_second 4 = .ok (.ireturn, 1) := by decide +kernel
set_option maxHeartbeats 4000000 in
set_option maxRecDepth 100000 in
theorem c_Mo_second (l : Launch) (dC : Nat → ClassId) (dI : Nat → Nat → Nat) (cI cB cZ cJ : ClassId) (oM : Nat) (fm : List Value) (hm_now : fm[78]? = some (.int 0)) (sz : Nat) : Met l y_Mo_second w_Mo_second ({ frames := 0, cells := 0, slots := 0, locals := 0 }) (va_Pc [.ref oM] (PW dC dI cI cB cZ cJ [(oM, .inr (12, fm))] sz)) (va_Qi (fun (r : Int32) (_ : Unit) => r = 0) (fun _ _ => True) (va_A [] sz)) 0 0 (va_A [] sz) := by
  refine Met.ofW (cc := b_Mo_second) (maxL := 1) (ret := (some .int)) (by decide) rfl ?_
  intro p e s m args below meth c s₁ B hml hv
  obtain ⟨rfl, hsz, hP, hK, hD⟩ := hv
  have hx := B.exec
  have hb := B.bytes
  have hr := B.returns
  have hts := atoms_spec (ws := w_Mo_second) B.pre
  have hown : s.vm.findClass R_Mo = some m.cls := findClass_of_methodNamed B.named
  have hlocks := B.notSynchronized
  subst hsz
  generalize hAe : va_A [] s.heap.size = A at ⊢
  have hA : ∀ q : Nat, s.heap.size ≤ q → A q := fun q h => by rw [← hAe]; exact Or.inr h
  have hS : va_S A s.heap s.heap [] := va_S.rf
  have hP : va_P (dC, dI) classes [(oM, .inr (12, fm))] s.heap := hP
  have hl := lv_entry ([.ref oM]) (n := 1) (Nat.le_of_ble_eq_true rfl)
  rw [lg_entry_eq]
  generalize (lg_sl ([.ref oM]) ++ List.replicate (1 - (lg_sl ([.ref oM])).length) Slot.unset).toArray = ls at hl ⊢
  have hl : lv_has ls 1 [(0, .ref oM)] := hl
  refine lv_aload_n hx hb d_Mo_second_0 rfl (lv_at hl 0 rfl) ?_
  refine va_get (D := (dC, dI)) (ci := 12) (v := .int 0) (C := R_Mo) (T := F_Mo) (N := 87) hx hb hts (fun w h => List.mem_cons_of_mem _ (in_Mo w h)) hown hK.1 hP 0 rfl rfl 78 (by decide) (hts _ (List.mem_cons_of_mem _ mw_1864)) (fun _ h9 => h9) hm_now d_Mo_second_1 ?_
  exact W.iret (v := 0) hx hb hr (fun t ht hW => ⟨⟨_, (), rfl, (rfl), trivial⟩, hS.F ht⟩) hS.2.2 d_Mo_second_4
theorem d_Mo_state_0 : decode b_Mo_state 0 = .ok (.aload_n 0, 1) := by decide +kernel
theorem d_Mo_state_1 : decode b_Mo_state 1 = .ok (.getfield 162, 3) := by decide +kernel
theorem d_Mo_state_4 : decode b_Mo_state 4 = .ok (.ireturn, 1) := by decide +kernel
set_option maxHeartbeats 4000000 in
set_option maxRecDepth 100000 in
theorem c_Mo_state (l : Launch) (dC : Nat → ClassId) (dI : Nat → Nat → Nat) (cI cB cZ cJ : ClassId) (oM : Nat) (fm : List Value) (hm_state : fm[59]? = some (.int 4)) (sz : Nat) : Met l y_Mo_state w_Mo_state ({ frames := 0, cells := 0, slots := 0, locals := 0 }) (va_Pc [.ref oM] (PW dC dI cI cB cZ cJ [(oM, .inr (12, fm))] sz)) (va_Qi (fun (r : Int32) (_ : Unit) => r = 4) (fun _ _ => True) (va_A [] sz)) 0 0 (va_A [] sz) := by
  refine Met.ofW (cc := b_Mo_state) (maxL := 1) (ret := (some .int)) (by decide) rfl ?_
  intro p e s m args below meth c s₁ B hml hv
  obtain ⟨rfl, hsz, hP, hK, hD⟩ := hv
  have hx := B.exec
  have hb := B.bytes
  have hr := B.returns
  have hts := atoms_spec (ws := w_Mo_state) B.pre
  have hown : s.vm.findClass R_Mo = some m.cls := findClass_of_methodNamed B.named
  have hlocks := B.notSynchronized
  subst hsz
  generalize hAe : va_A [] s.heap.size = A at ⊢
  have hA : ∀ q : Nat, s.heap.size ≤ q → A q := fun q h => by rw [← hAe]; exact Or.inr h
  have hS : va_S A s.heap s.heap [] := va_S.rf
  have hP : va_P (dC, dI) classes [(oM, .inr (12, fm))] s.heap := hP
  have hl := lv_entry ([.ref oM]) (n := 1) (Nat.le_of_ble_eq_true rfl)
  rw [lg_entry_eq]
  generalize (lg_sl ([.ref oM]) ++ List.replicate (1 - (lg_sl ([.ref oM])).length) Slot.unset).toArray = ls at hl ⊢
  have hl : lv_has ls 1 [(0, .ref oM)] := hl
  refine lv_aload_n hx hb d_Mo_state_0 rfl (lv_at hl 0 rfl) ?_
  refine va_get (D := (dC, dI)) (ci := 12) (v := .int 4) (C := R_Mo) (T := F_Mo) (N := 87) hx hb hts (fun w h => List.mem_cons_of_mem _ (in_Mo w h)) hown hK.1 hP 0 rfl rfl 59 (by decide) (hts _ (List.mem_cons_of_mem _ mw_1845)) (fun _ h9 => h9) hm_state d_Mo_state_1 ?_
  exact W.iret (v := 4) hx hb hr (fun t ht hW => ⟨⟨_, (), rfl, (rfl), trivial⟩, hS.F ht⟩) hS.2.2 d_Mo_state_4
theorem d_Mo_isTank_0 : decode b_Mo_isTank 0 = .ok (.aload_n 0, 1) := by decide +kernel
theorem d_Mo_isTank_1 : decode b_Mo_isTank 1 = .ok (.iload_n 1, 1) := by decide +kernel
theorem d_Mo_isTank_2 : decode b_Mo_isTank 2 = .ok (.invokevirtual 314, 3) := by decide +kernel
theorem d_Mo_isTank_5 : decode b_Mo_isTank 5 = .ok (.ifCond .eq 16, 3) := by decide +kernel
theorem d_Mo_isTank_21 : decode b_Mo_isTank 21 = .ok (.iconst 0, 1) := by decide +kernel
theorem d_Mo_isTank_22 : decode b_Mo_isTank 22 = .ok (.ireturn, 1) := by decide +kernel
set_option maxHeartbeats 4000000 in
set_option maxRecDepth 100000 in
theorem c_Mo_isTank (l : Launch) (dC : Nat → ClassId) (dI : Nat → Nat → Nat) (cI cB cZ cJ : ClassId) (th : Int32) (oM : Nat) (fm : List Value) (hm_things : fm[4]? = some (.int 0)) (sz : Nat) : Met l y_Mo_isTank w_Mo_isTank ({ frames := 1, cells := 0, slots := 0, locals := 21 }) (va_Pc [.ref oM, .int th] (PW dC dI cI cB cZ cJ [(oM, .inr (12, fm))] sz)) (va_Qi (fun (r : Int32) (_ : Unit) => r = 0) (fun _ _ => True) (va_A [] sz)) 0 0 (va_A [] sz) := by
  refine Met.ofW (cc := b_Mo_isTank) (maxL := 2) (ret := (some .boolean)) (by decide) rfl ?_
  intro p e s m args below meth c s₁ B hml hv
  obtain ⟨rfl, hsz, hP, hK, hD⟩ := hv
  have hx := B.exec
  have hb := B.bytes
  have hr := B.returns
  have hts := atoms_spec (ws := w_Mo_isTank) B.pre
  have hown : s.vm.findClass R_Mo = some m.cls := findClass_of_methodNamed B.named
  have hlocks := B.notSynchronized
  subst hsz
  generalize hAe : va_A [] s.heap.size = A at ⊢
  have hA : ∀ q : Nat, s.heap.size ≤ q → A q := fun q h => by rw [← hAe]; exact Or.inr h
  have hS : va_S A s.heap s.heap [] := va_S.rf
  have hP : va_P (dC, dI) classes [(oM, .inr (12, fm))] s.heap := hP
  have hl := lv_entry ([.ref oM, .int th]) (n := 2) (Nat.le_of_ble_eq_true rfl)
  rw [lg_entry_eq]
  generalize (lg_sl ([.ref oM, .int th]) ++ List.replicate (2 - (lg_sl ([.ref oM, .int th])).length) Slot.unset).toArray = ls at hl ⊢
  have hl : lv_has ls 2 [(0, .ref oM), (1, .int th)] := hl
  refine lv_aload_n hx hb d_Mo_isTank_0 rfl (lv_at hl 0 rfl) ?_
  refine lv_iload_n hx hb d_Mo_isTank_1 rfl (lv_at hl 1 rfl) ?_
  have hPc := hP.sub (ws' := [(oM, .inr (12, fm))]) [0] rfl
  have hDc := hD.sub (ws' := [(oM, .inr (12, fm))]) [0] (by decide) rfl
  have hFc := pu_free hS hA
  refine va_calli (va_runV (C := R_Mo) (As := [.int th]) (rest := []) ⟨hx, hb, hml, hown, hts⟩ (c_Mo_isThing l dC dI cI cB cZ cJ th oM fm hm_things s.heap.size) (cwV 1 hts (tb_V mw_2408 mw_2410 sl_152 mw_18 mw_2411) rfl rfl rfl ⟨rfl, by decide +kernel, by decide +kernel, by decide +kernel⟩ ⟨(Nat.le_of_ble_eq_true rfl), (Nat.le_of_ble_eq_true rfl)⟩) ⟨pw_blind, va_recv (q := (R_Mo, F_Mo, 87)) hK.1 hP (ci := 12) (q0 := 0) rfl rfl, pw_pre hPc hK hDc⟩ rfl rfl hl.1 rfl (lv_room (Nat.le_of_ble_eq_true rfl)) d_Mo_isTank_2 ⟨(Nat.le_of_ble_eq_true rfl), (Nat.le_of_ble_eq_true rfl)⟩) hS (fun q _ h => hFc q h) hFc (fun r u t H locs ht hvm hw hB hz1 hk1 hS => ?_)
  have hP := pu_kept hP hk1
  obtain rfl : r = 0 := hw
  refine lv_if_eq (tgt := 21) hx hb d_Mo_isTank_5 (by decide) (fun _ => ?_) (fun h => absurd (by decide) h)
  refine lv_iconst (v := 0) hx hb d_Mo_isTank_21 (by decide) ?_
  exact W.zret (v := 0) (ty := .boolean) hx hb hr (by decide) (fun t ht hW => ⟨⟨_, (), rfl, (rfl), trivial⟩, hS.F ht⟩) hS.2.2 d_Mo_isTank_22
theorem d_Mo_isValve_0 : decode b_Mo_isValve 0 = .ok (.aload_n 0, 1) := by decide +kernel
theorem d_Mo_isValve_1 : decode b_Mo_isValve 1 = .ok (.iload_n 1, 1) := by decide +kernel
theorem d_Mo_isValve_2 : decode b_Mo_isValve 2 = .ok (.invokevirtual 314, 3) := by decide +kernel
theorem d_Mo_isValve_5 : decode b_Mo_isValve 5 = .ok (.ifCond .eq 17, 3) := by decide +kernel
theorem d_Mo_isValve_22 : decode b_Mo_isValve 22 = .ok (.iconst 0, 1) := by decide +kernel
theorem d_Mo_isValve_23 : decode b_Mo_isValve 23 = .ok (.ireturn, 1) := by decide +kernel
set_option maxHeartbeats 4000000 in
set_option maxRecDepth 100000 in
theorem c_Mo_isValve (l : Launch) (dC : Nat → ClassId) (dI : Nat → Nat → Nat) (cI cB cZ cJ : ClassId) (th : Int32) (oM : Nat) (fm : List Value) (hm_things : fm[4]? = some (.int 0)) (sz : Nat) : Met l y_Mo_isValve w_Mo_isValve ({ frames := 1, cells := 0, slots := 0, locals := 21 }) (va_Pc [.ref oM, .int th] (PW dC dI cI cB cZ cJ [(oM, .inr (12, fm))] sz)) (va_Qi (fun (r : Int32) (_ : Unit) => r = 0) (fun _ _ => True) (va_A [] sz)) 0 0 (va_A [] sz) := by
  refine Met.ofW (cc := b_Mo_isValve) (maxL := 2) (ret := (some .boolean)) (by decide) rfl ?_
  intro p e s m args below meth c s₁ B hml hv
  obtain ⟨rfl, hsz, hP, hK, hD⟩ := hv
  have hx := B.exec
  have hb := B.bytes
  have hr := B.returns
  have hts := atoms_spec (ws := w_Mo_isValve) B.pre
  have hown : s.vm.findClass R_Mo = some m.cls := findClass_of_methodNamed B.named
  have hlocks := B.notSynchronized
  subst hsz
  generalize hAe : va_A [] s.heap.size = A at ⊢
  have hA : ∀ q : Nat, s.heap.size ≤ q → A q := fun q h => by rw [← hAe]; exact Or.inr h
  have hS : va_S A s.heap s.heap [] := va_S.rf
  have hP : va_P (dC, dI) classes [(oM, .inr (12, fm))] s.heap := hP
  have hl := lv_entry ([.ref oM, .int th]) (n := 2) (Nat.le_of_ble_eq_true rfl)
  rw [lg_entry_eq]
  generalize (lg_sl ([.ref oM, .int th]) ++ List.replicate (2 - (lg_sl ([.ref oM, .int th])).length) Slot.unset).toArray = ls at hl ⊢
  have hl : lv_has ls 2 [(0, .ref oM), (1, .int th)] := hl
  refine lv_aload_n hx hb d_Mo_isValve_0 rfl (lv_at hl 0 rfl) ?_
  refine lv_iload_n hx hb d_Mo_isValve_1 rfl (lv_at hl 1 rfl) ?_
  have hPc := hP.sub (ws' := [(oM, .inr (12, fm))]) [0] rfl
  have hDc := hD.sub (ws' := [(oM, .inr (12, fm))]) [0] (by decide) rfl
  have hFc := pu_free hS hA
  refine va_calli (va_runV (C := R_Mo) (As := [.int th]) (rest := []) ⟨hx, hb, hml, hown, hts⟩ (c_Mo_isThing l dC dI cI cB cZ cJ th oM fm hm_things s.heap.size) (cwV 1 hts (tb_V mw_2408 mw_2410 sl_152 mw_18 mw_2411) rfl rfl rfl ⟨rfl, by decide +kernel, by decide +kernel, by decide +kernel⟩ ⟨(Nat.le_of_ble_eq_true rfl), (Nat.le_of_ble_eq_true rfl)⟩) ⟨pw_blind, va_recv (q := (R_Mo, F_Mo, 87)) hK.1 hP (ci := 12) (q0 := 0) rfl rfl, pw_pre hPc hK hDc⟩ rfl rfl hl.1 rfl (lv_room (Nat.le_of_ble_eq_true rfl)) d_Mo_isValve_2 ⟨(Nat.le_of_ble_eq_true rfl), (Nat.le_of_ble_eq_true rfl)⟩) hS (fun q _ h => hFc q h) hFc (fun r u t H locs ht hvm hw hB hz1 hk1 hS => ?_)
  have hP := pu_kept hP hk1
  obtain rfl : r = 0 := hw
  refine lv_if_eq (tgt := 22) hx hb d_Mo_isValve_5 (by decide) (fun _ => ?_) (fun h => absurd (by decide) h)
  refine lv_iconst (v := 0) hx hb d_Mo_isValve_22 (by decide) ?_
  exact W.zret (v := 0) (ty := .boolean) hx hb hr (by decide) (fun t ht hW => ⟨⟨_, (), rfl, (rfl), trivial⟩, hS.F ht⟩) hS.2.2 d_Mo_isValve_23
theorem d_Mo_isPipe_0 : decode b_Mo_isPipe 0 = .ok (.iload_n 1, 1) := by decide +kernel
theorem d_Mo_isPipe_1 : decode b_Mo_isPipe 1 = .ok (.aload_n 0, 1) := by decide +kernel
theorem d_Mo_isPipe_2 : decode b_Mo_isPipe 2 = .ok (.getfield 278, 3) := by decide +kernel
theorem d_Mo_isPipe_5 : decode b_Mo_isPipe 5 = .ok (.if_icmp .lt 20, 3) := by decide +kernel
theorem d_Mo_isPipe_8 : decode b_Mo_isPipe 8 = .ok (.iload_n 1, 1) := by decide +kernel
theorem d_Mo_isPipe_9 : decode b_Mo_isPipe 9 = .ok (.aload_n 0, 1) := by decide +kernel
theorem d_Mo_isPipe_10 : decode b_Mo_isPipe 10 = .ok (.getfield 278, 3) := by decide +kernel
theorem d_Mo_isPipe_13 : decode b_Mo_isPipe 13 = .ok (.aload_n 0, 1) := by decide +kernel
theorem d_Mo_isPipe_14 : decode b_Mo_isPipe 14 = .ok (.getfield 281, 3) := by decide +kernel
theorem d_Mo_isPipe_17 : decode b_Mo_isPipe 17 = .ok (.iadd, 1) := by decide +kernel
theorem d_Mo_isPipe_18 : decode b_Mo_isPipe 18 = .ok (.if_icmp .ge 7, 3) := by decide +kernel
theorem d_Mo_isPipe_25 : decode b_Mo_isPipe 25 = .ok (.iconst 0, 1) := by decide +kernel
theorem d_Mo_isPipe_26 : decode b_Mo_isPipe 26 = .ok (.ireturn, 1) := by decide +kernel
set_option maxHeartbeats 4000000 in
set_option maxRecDepth 100000 in
theorem c_Mo_isPipe (l : Launch) (dC : Nat → ClassId) (dI : Nat → Nat → Nat) (cI cB cZ cJ : ClassId) (th : Int32) (oM : Nat) (fm : List Value) (hm_things : fm[4]? = some (.int 0)) (hm_pipes : fm[11]? = some (.int 0)) (sz : Nat) : Met l y_Mo_isPipe w_Mo_isPipe ({ frames := 0, cells := 0, slots := 0, locals := 0 }) (va_Pc [.ref oM, .int th] (PW dC dI cI cB cZ cJ [(oM, .inr (12, fm))] sz)) (va_Qi (fun (r : Int32) (_ : Unit) => r = 0) (fun _ _ => True) (va_A [] sz)) 0 0 (va_A [] sz) := by
  refine Met.ofW (cc := b_Mo_isPipe) (maxL := 2) (ret := (some .boolean)) (by decide) rfl ?_
  intro p e s m args below meth c s₁ B hml hv
  obtain ⟨rfl, hsz, hP, hK, hD⟩ := hv
  have hx := B.exec
  have hb := B.bytes
  have hr := B.returns
  have hts := atoms_spec (ws := w_Mo_isPipe) B.pre
  have hown : s.vm.findClass R_Mo = some m.cls := findClass_of_methodNamed B.named
  have hlocks := B.notSynchronized
  subst hsz
  generalize hAe : va_A [] s.heap.size = A at ⊢
  have hA : ∀ q : Nat, s.heap.size ≤ q → A q := fun q h => by rw [← hAe]; exact Or.inr h
  have hS : va_S A s.heap s.heap [] := va_S.rf
  have hP : va_P (dC, dI) classes [(oM, .inr (12, fm))] s.heap := hP
  have hl := lv_entry ([.ref oM, .int th]) (n := 2) (Nat.le_of_ble_eq_true rfl)
  rw [lg_entry_eq]
  generalize (lg_sl ([.ref oM, .int th]) ++ List.replicate (2 - (lg_sl ([.ref oM, .int th])).length) Slot.unset).toArray = ls at hl ⊢
  have hl : lv_has ls 2 [(0, .ref oM), (1, .int th)] := hl
  refine lv_iload_n hx hb d_Mo_isPipe_0 rfl (lv_at hl 1 rfl) ?_
  refine lv_aload_n hx hb d_Mo_isPipe_1 rfl (lv_at hl 0 rfl) ?_
  refine va_get (D := (dC, dI)) (ci := 12) (v := .int 0) (C := R_Mo) (T := F_Mo) (N := 87) hx hb hts (fun w h => List.mem_cons_of_mem _ (in_Mo w h)) hown hK.1 hP 0 rfl rfl 4 (by decide) (hts _ (List.mem_cons_of_mem _ mw_1790)) (fun _ h9 => h9) hm_things d_Mo_isPipe_2 ?_
  refine lv_icmp_lt (tgt := 25) hx hb d_Mo_isPipe_5 (by decide) (fun h5 => ?_) (fun h5 => ?_)
  · refine lv_iconst (v := 0) hx hb d_Mo_isPipe_25 (by decide) ?_
    exact W.zret (v := 0) (ty := .boolean) hx hb hr (by decide) (fun t ht hW => ⟨⟨_, (), rfl, (rfl), trivial⟩, hS.F ht⟩) hS.2.2 d_Mo_isPipe_26
  · refine lv_iload_n hx hb d_Mo_isPipe_8 rfl (lv_at hl 1 rfl) ?_
    refine lv_aload_n hx hb d_Mo_isPipe_9 rfl (lv_at hl 0 rfl) ?_
    refine va_get (D := (dC, dI)) (ci := 12) (v := .int 0) (C := R_Mo) (T := F_Mo) (N := 87) hx hb hts (fun w h => List.mem_cons_of_mem _ (in_Mo w h)) hown hK.1 hP 0 rfl rfl 4 (by decide) (hts _ (List.mem_cons_of_mem _ mw_1790)) (fun _ h9 => h9) hm_things d_Mo_isPipe_10 ?_
    refine lv_aload_n hx hb d_Mo_isPipe_13 rfl (lv_at hl 0 rfl) ?_
    refine va_get (D := (dC, dI)) (ci := 12) (v := .int 0) (C := R_Mo) (T := F_Mo) (N := 87) hx hb hts (fun w h => List.mem_cons_of_mem _ (in_Mo w h)) hown hK.1 hP 0 rfl rfl 11 (by decide) (hts _ (List.mem_cons_of_mem _ mw_1797)) (fun _ h9 => h9) hm_pipes d_Mo_isPipe_14 ?_
    refine lv_iadd hx hb d_Mo_isPipe_17 ?_
    refine lv_topi (fun x0 e0 => ?_)
    obtain rfl : x0 = 0 := e0.trans (by decide)
    refine lv_icmp_ge (tgt := 25) hx hb d_Mo_isPipe_18 (by decide) (fun _ => ?_) (fun h => absurd (nd_le h5 (by decide)) h)
    refine lv_iconst (v := 0) hx hb d_Mo_isPipe_25 (by decide) ?_
    exact W.zret (v := 0) (ty := .boolean) hx hb hr (by decide) (fun t ht hW => ⟨⟨_, (), rfl, (rfl), trivial⟩, hS.F ht⟩) hS.2.2 d_Mo_isPipe_26
theorem d_Mo_holdsLiquid_0 : decode b_Mo_holdsLiquid 0 = .ok (.aload_n 0, 1) := by decide +kernel
theorem d_Mo_holdsLiquid_1 : decode b_Mo_holdsLiquid 1 = .ok (.iload_n 1, 1) := by decide +kernel
theorem d_Mo_holdsLiquid_2 : decode b_Mo_holdsLiquid 2 = .ok (.invokevirtual 317, 3) := by decide +kernel
theorem d_Mo_holdsLiquid_5 : decode b_Mo_holdsLiquid 5 = .ok (.ifCond .ne 11, 3) := by decide +kernel
theorem d_Mo_holdsLiquid_8 : decode b_Mo_holdsLiquid 8 = .ok (.aload_n 0, 1) := by decide +kernel
theorem d_Mo_holdsLiquid_9 : decode b_Mo_holdsLiquid 9 = .ok (.iload_n 1, 1) := by decide +kernel
theorem d_Mo_holdsLiquid_10 : decode b_Mo_holdsLiquid 10 = .ok (.invokevirtual 320, 3) := by decide +kernel
theorem d_Mo_holdsLiquid_13 : decode b_Mo_holdsLiquid 13 = .ok (.ifCond .eq 7, 3) := by decide +kernel
theorem d_Mo_holdsLiquid_20 : decode b_Mo_holdsLiquid 20 = .ok (.iconst 0, 1) := by decide +kernel
theorem d_Mo_holdsLiquid_21 : decode b_Mo_holdsLiquid 21 = .ok (.ireturn, 1) := by decide +kernel
set_option maxHeartbeats 4000000 in
set_option maxRecDepth 100000 in
theorem c_Mo_holdsLiquid (l : Launch) (dC : Nat → ClassId) (dI : Nat → Nat → Nat) (cI cB cZ cJ : ClassId) (th : Int32) (oM : Nat) (fm : List Value) (hm_things : fm[4]? = some (.int 0)) (hm_pipes : fm[11]? = some (.int 0)) (sz : Nat) : Met l y_Mo_holdsLiquid w_Mo_holdsLiquid ({ frames := 2, cells := 0, slots := 0, locals := 42 }) (va_Pc [.ref oM, .int th] (PW dC dI cI cB cZ cJ [(oM, .inr (12, fm))] sz)) (va_Qi (fun (r : Int32) (_ : Unit) => r = 0) (fun _ _ => True) (va_A [] sz)) 0 0 (va_A [] sz) := by
  refine Met.ofW (cc := b_Mo_holdsLiquid) (maxL := 2) (ret := (some .boolean)) (by decide) rfl ?_
  intro p e s m args below meth c s₁ B hml hv
  obtain ⟨rfl, hsz, hP, hK, hD⟩ := hv
  have hx := B.exec
  have hb := B.bytes
  have hr := B.returns
  have hts := atoms_spec (ws := w_Mo_holdsLiquid) B.pre
  have hown : s.vm.findClass R_Mo = some m.cls := findClass_of_methodNamed B.named
  have hlocks := B.notSynchronized
  subst hsz
  generalize hAe : va_A [] s.heap.size = A at ⊢
  have hA : ∀ q : Nat, s.heap.size ≤ q → A q := fun q h => by rw [← hAe]; exact Or.inr h
  have hS : va_S A s.heap s.heap [] := va_S.rf
  have hP : va_P (dC, dI) classes [(oM, .inr (12, fm))] s.heap := hP
  have hl := lv_entry ([.ref oM, .int th]) (n := 2) (Nat.le_of_ble_eq_true rfl)
  rw [lg_entry_eq]
  generalize (lg_sl ([.ref oM, .int th]) ++ List.replicate (2 - (lg_sl ([.ref oM, .int th])).length) Slot.unset).toArray = ls at hl ⊢
  have hl : lv_has ls 2 [(0, .ref oM), (1, .int th)] := hl
  refine lv_aload_n hx hb d_Mo_holdsLiquid_0 rfl (lv_at hl 0 rfl) ?_
  refine lv_iload_n hx hb d_Mo_holdsLiquid_1 rfl (lv_at hl 1 rfl) ?_
  have hPc := hP.sub (ws' := [(oM, .inr (12, fm))]) [0] rfl
  have hDc := hD.sub (ws' := [(oM, .inr (12, fm))]) [0] (by decide) rfl
  have hFc := pu_free hS hA
  refine va_calli (va_runV (C := R_Mo) (As := [.int th]) (rest := []) ⟨hx, hb, hml, hown, hts⟩ (c_Mo_isTank l dC dI cI cB cZ cJ th oM fm hm_things s.heap.size) (cwV 1 hts (tb_V mw_2416 mw_2418 sl_154 mw_18 mw_2419) rfl rfl rfl ⟨rfl, by decide +kernel, by decide +kernel, by decide +kernel⟩ ⟨(Nat.le_of_ble_eq_true rfl), (Nat.le_of_ble_eq_true rfl)⟩) ⟨pw_blind, va_recv (q := (R_Mo, F_Mo, 87)) hK.1 hP (ci := 12) (q0 := 0) rfl rfl, pw_pre hPc hK hDc⟩ rfl rfl hl.1 rfl (lv_room (Nat.le_of_ble_eq_true rfl)) d_Mo_holdsLiquid_2 ⟨(Nat.le_of_ble_eq_true rfl), (Nat.le_of_ble_eq_true rfl)⟩) hS (fun q _ h => hFc q h) hFc (fun r u t H locs ht hvm hw hB hz1 hk1 hS => ?_)
  have hP := pu_kept hP hk1
  obtain rfl : r = 0 := hw
  refine lv_if_ne (tgt := 16) hx hb d_Mo_holdsLiquid_5 (by decide) (fun h => absurd rfl h) (fun _ => ?_)
  refine lv_aload_n hx hb d_Mo_holdsLiquid_8 rfl (lv_at hl 0 rfl) ?_
  refine lv_iload_n hx hb d_Mo_holdsLiquid_9 rfl (lv_at hl 1 rfl) ?_
  have hPc := hP.sub (ws' := [(oM, .inr (12, fm))]) [0] rfl
  have hDc := hD.sub (ws' := [(oM, .inr (12, fm))]) [0] (by decide) rfl
  have hFc := pu_free hS hA
  refine va_calli (va_runV (C := R_Mo) (As := [.int th]) (rest := []) ⟨hx, hb, hml, hown, hts⟩ (c_Mo_isPipe l dC dI cI cB cZ cJ th oM fm hm_things hm_pipes H.size) (cwV 1 hts (tb_V mw_2420 mw_2422 sl_155 mw_18 mw_2423) rfl rfl rfl ⟨rfl, by decide +kernel, by decide +kernel, by decide +kernel⟩ ⟨(Nat.le_of_ble_eq_true rfl), (Nat.le_of_ble_eq_true rfl)⟩) ⟨pw_blind, va_recv (q := (R_Mo, F_Mo, 87)) hK.1 hP (ci := 12) (q0 := 0) rfl rfl, pw_pre hPc hK hDc⟩ rfl rfl hl.1 rfl (lv_room (Nat.le_of_ble_eq_true rfl)) d_Mo_holdsLiquid_10 ⟨(Nat.le_of_ble_eq_true rfl), (Nat.le_of_ble_eq_true rfl)⟩) hS (fun q _ h => hFc q h) hFc (fun r u t H locs ht hvm hw hB hz1 hk1 hS => ?_)
  have hP := pu_kept hP hk1
  obtain rfl : r = 0 := hw
  refine lv_if_eq (tgt := 20) hx hb d_Mo_holdsLiquid_13 (by decide) (fun _ => ?_) (fun h => absurd (by decide) h)
  refine lv_iconst (v := 0) hx hb d_Mo_holdsLiquid_20 (by decide) ?_
  exact W.zret (v := 0) (ty := .boolean) hx hb hr (by decide) (fun t ht hW => ⟨⟨_, (), rfl, (rfl), trivial⟩, hS.F ht⟩) hS.2.2 d_Mo_holdsLiquid_21
theorem d_Mo_isRole_0 : decode b_Mo_isRole 0 = .ok (.iload_n 1, 1) := by decide +kernel
theorem d_Mo_isRole_1 : decode b_Mo_isRole 1 = .ok (.ifCond .lt 42, 3) := by decide +kernel
theorem d_Mo_isRole_4 : decode b_Mo_isRole 4 = .ok (.iload_n 1, 1) := by decide +kernel
theorem d_Mo_isRole_5 : decode b_Mo_isRole 5 = .ok (.aload_n 0, 1) := by decide +kernel
theorem d_Mo_isRole_6 : decode b_Mo_isRole 6 = .ok (.getfield 16, 3) := by decide +kernel
theorem d_Mo_isRole_9 : decode b_Mo_isRole 9 = .ok (.getfield 442, 3) := by decide +kernel
theorem d_Mo_isRole_12 : decode b_Mo_isRole 12 = .ok (.if_icmp .ge 31, 3) := by decide +kernel
theorem d_Mo_isRole_43 : decode b_Mo_isRole 43 = .ok (.iconst 0, 1) := by decide +kernel
theorem d_Mo_isRole_44 : decode b_Mo_isRole 44 = .ok (.ireturn, 1) := by decide +kernel
set_option maxHeartbeats 4000000 in
set_option maxRecDepth 100000 in
theorem c_Mo_isRole (l : Launch) (dC : Nat → ClassId) (dI : Nat → Nat → Nat) (cI cB cZ cJ : ClassId) (na : Int32) (ro : Int32) (oM : Nat) (oT : Nat) (fm : List Value) (hm_program : fm[2]? = some (.ref oT)) (ft : List Value) (ht_nameCount : ft[32]? = some (.int 0)) (sz : Nat) : Met l y_Mo_isRole w_Mo_isRole ({ frames := 0, cells := 0, slots := 0, locals := 0 }) (va_Pc [.ref oM, .int na, .int ro] (PW dC dI cI cB cZ cJ [(oM, .inr (12, fm)), (oT, .inr (13, ft))] sz)) (va_Qi (fun (r : Int32) (_ : Unit) => r = 0) (fun _ _ => True) (va_A [] sz)) 0 0 (va_A [] sz) := by
  refine Met.ofW (cc := b_Mo_isRole) (maxL := 3) (ret := (some .boolean)) (by decide) rfl ?_
  intro p e s m args below meth c s₁ B hml hv
  obtain ⟨rfl, hsz, hP, hK, hD⟩ := hv
  have hx := B.exec
  have hb := B.bytes
  have hr := B.returns
  have hts := atoms_spec (ws := w_Mo_isRole) B.pre
  have hown : s.vm.findClass R_Mo = some m.cls := findClass_of_methodNamed B.named
  have hlocks := B.notSynchronized
  subst hsz
  generalize hAe : va_A [] s.heap.size = A at ⊢
  have hA : ∀ q : Nat, s.heap.size ≤ q → A q := fun q h => by rw [← hAe]; exact Or.inr h
  have hS : va_S A s.heap s.heap [] := va_S.rf
  have hP : va_P (dC, dI) classes [(oM, .inr (12, fm)), (oT, .inr (13, ft))] s.heap := hP
  have hl := lv_entry ([.ref oM, .int na, .int ro]) (n := 3) (Nat.le_of_ble_eq_true rfl)
  rw [lg_entry_eq]
  generalize (lg_sl ([.ref oM, .int na, .int ro]) ++ List.replicate (3 - (lg_sl ([.ref oM, .int na, .int ro])).length) Slot.unset).toArray = ls at hl ⊢
  have hl : lv_has ls 3 [(0, .ref oM), (1, .int na), (2, .int ro)] := hl
  refine lv_iload_n hx hb d_Mo_isRole_0 rfl (lv_at hl 1 rfl) ?_
  refine lv_if_lt (tgt := 43) hx hb d_Mo_isRole_1 (by decide) (fun h1 => ?_) (fun h1 => ?_)
  · refine lv_iconst (v := 0) hx hb d_Mo_isRole_43 (by decide) ?_
    exact W.zret (v := 0) (ty := .boolean) hx hb hr (by decide) (fun t ht hW => ⟨⟨_, (), rfl, (rfl), trivial⟩, hS.F ht⟩) hS.2.2 d_Mo_isRole_44
  · refine lv_iload_n hx hb d_Mo_isRole_4 rfl (lv_at hl 1 rfl) ?_
    refine lv_aload_n hx hb d_Mo_isRole_5 rfl (lv_at hl 0 rfl) ?_
    refine va_get (D := (dC, dI)) (ci := 12) (v := .ref oT) (C := R_Mo) (T := F_Mo) (N := 87) hx hb hts (fun w h => List.mem_cons_of_mem _ (in_Mo w h)) hown hK.1 hP 0 rfl rfl 2 (by decide) (hts _ (List.mem_cons_of_mem _ mw_1788)) (fun _ h9 => h9) hm_program d_Mo_isRole_6 ?_
    refine va_getN (D := (dC, dI)) (ci := 13) (v := .int 0) (C := R_Tx) (T := F_Tx) (N := 39) hx hb hts (fun w h => List.mem_cons_of_mem _ (in_Tx w h)) hown hK.1 hP 1 rfl rfl 32 (by decide) (va_Nw.use rfl (hK.2 _ nw_1612)) (fun _ h9 => h9) ht_nameCount d_Mo_isRole_9 ?_
    refine lv_icmp_ge (tgt := 43) hx hb d_Mo_isRole_12 (by decide) (fun _ => ?_) (fun h => absurd (nd_le h1 (by decide)) h)
    refine lv_iconst (v := 0) hx hb d_Mo_isRole_43 (by decide) ?_
    exact W.zret (v := 0) (ty := .boolean) hx hb hr (by decide) (fun t ht hW => ⟨⟨_, (), rfl, (rfl), trivial⟩, hS.F ht⟩) hS.2.2 d_Mo_isRole_44
theorem d_Mo_sense_0 : decode b_Mo_sense 0 = .ok (.aload_n 0, 1) := by decide +kernel
theorem d_Mo_sense_1 : decode b_Mo_sense 1 = .ok (.iload_n 1, 1) := by decide +kernel
theorem d_Mo_sense_2 : decode b_Mo_sense 2 = .ok (.bipush 30, 2) := by decide +kernel
theorem d_Mo_sense_4 : decode b_Mo_sense 4 = .ok (.invokevirtual 451, 3) := by decide +kernel
theorem d_Mo_sense_7 : decode b_Mo_sense 7 = .ok (.ifCond .eq 12, 3) := by decide +kernel
theorem d_Mo_sense_19 : decode b_Mo_sense 19 = .ok (.iconst 0, 1) := by decide +kernel
theorem d_Mo_sense_20 : decode b_Mo_sense 20 = .ok (.ireturn, 1) := by decide +kernel
set_option maxHeartbeats 4000000 in
set_option maxRecDepth 100000 in
theorem c_Mo_sense (l : Launch) (dC : Nat → ClassId) (dI : Nat → Nat → Nat) (cI cB cZ cJ : ClassId) (na : Int32) (wh : Int32) (xx : Int32) (oM : Nat) (oT : Nat) (fm : List Value) (hm_program : fm[2]? = some (.ref oT)) (ft : List Value) (ht_nameCount : ft[32]? = some (.int 0)) (sz : Nat) : Met l y_Mo_sense w_Mo_sense ({ frames := 1, cells := 0, slots := 0, locals := 22 }) (va_Pc [.ref oM, .int na, .int wh, .int xx] (PW dC dI cI cB cZ cJ [(oM, .inr (12, fm)), (oT, .inr (13, ft))] sz)) (va_Qi (fun (r : Int32) (_ : Unit) => r = 0) (fun _ _ => True) (va_A [] sz)) 0 0 (va_A [] sz) := by
  refine Met.ofW (cc := b_Mo_sense) (maxL := 4) (ret := (some .boolean)) (by decide) rfl ?_
  intro p e s m args below meth c s₁ B hml hv
  obtain ⟨rfl, hsz, hP, hK, hD⟩ := hv
  have hx := B.exec
  have hb := B.bytes
  have hr := B.returns
  have hts := atoms_spec (ws := w_Mo_sense) B.pre
  have hown : s.vm.findClass R_Mo = some m.cls := findClass_of_methodNamed B.named
  have hlocks := B.notSynchronized
  subst hsz
  generalize hAe : va_A [] s.heap.size = A at ⊢
  have hA : ∀ q : Nat, s.heap.size ≤ q → A q := fun q h => by rw [← hAe]; exact Or.inr h
  have hS : va_S A s.heap s.heap [] := va_S.rf
  have hP : va_P (dC, dI) classes [(oM, .inr (12, fm)), (oT, .inr (13, ft))] s.heap := hP
  have hl := lv_entry ([.ref oM, .int na, .int wh, .int xx]) (n := 4) (Nat.le_of_ble_eq_true rfl)
  rw [lg_entry_eq]
  generalize (lg_sl ([.ref oM, .int na, .int wh, .int xx]) ++ List.replicate (4 - (lg_sl ([.ref oM, .int na, .int wh, .int xx])).length) Slot.unset).toArray = ls at hl ⊢
  have hl : lv_has ls 4 [(0, .ref oM), (1, .int na), (2, .int wh), (3, .int xx)] := hl
  refine lv_aload_n hx hb d_Mo_sense_0 rfl (lv_at hl 0 rfl) ?_
  refine lv_iload_n hx hb d_Mo_sense_1 rfl (lv_at hl 1 rfl) ?_
  refine lv_bipush (v := 30) hx hb d_Mo_sense_2 (by decide) ?_
  have hPc := hP.sub (ws' := [(oM, .inr (12, fm)), (oT, .inr (13, ft))]) [0, 1] rfl
  have hDc := hD.sub (ws' := [(oM, .inr (12, fm)), (oT, .inr (13, ft))]) [0, 1] (by decide) rfl
  have hFc := pu_free hS hA
  refine va_calli (va_runV (C := R_Mo) (As := [.int na, .int 30]) (rest := []) ⟨hx, hb, hml, hown, hts⟩ (c_Mo_isRole l dC dI cI cB cZ cJ na 30 oM oT fm hm_program ft ht_nameCount s.heap.size) (cwV 2 hts (tb_V mw_2521 mw_2523 sl_171 mw_18 mw_2524) rfl rfl rfl ⟨rfl, by decide +kernel, by decide +kernel, by decide +kernel⟩ ⟨(Nat.le_of_ble_eq_true rfl), (Nat.le_of_ble_eq_true rfl)⟩) ⟨pw_blind, va_recv (q := (R_Mo, F_Mo, 87)) hK.1 hP (ci := 12) (q0 := 0) rfl rfl, pw_pre hPc hK hDc⟩ rfl rfl hl.1 rfl (lv_room (Nat.le_of_ble_eq_true rfl)) d_Mo_sense_4 ⟨(Nat.le_of_ble_eq_true rfl), (Nat.le_of_ble_eq_true rfl)⟩) hS (fun q _ h => hFc q h) hFc (fun r u t H locs ht hvm hw hB hz1 hk1 hS => ?_)
  have hP := pu_kept hP hk1
  obtain rfl : r = 0 := hw
  refine lv_if_eq (tgt := 19) hx hb d_Mo_sense_7 (by decide) (fun _ => ?_) (fun h => absurd (by decide) h)
  refine lv_iconst (v := 0) hx hb d_Mo_sense_19 (by decide) ?_
  exact W.zret (v := 0) (ty := .boolean) hx hb hr (by decide) (fun t ht hW => ⟨⟨_, (), rfl, (rfl), trivial⟩, hS.F ht⟩) hS.2.2 d_Mo_sense_20
theorem d_Mo_signal_0 : decode b_Mo_signal 0 = .ok (.aload_n 0, 1) := by decide +kernel
theorem d_Mo_signal_1 : decode b_Mo_signal 1 = .ok (.iload_n 1, 1) := by decide +kernel
theorem d_Mo_signal_2 : decode b_Mo_signal 2 = .ok (.bipush 30, 2) := by decide +kernel
theorem d_Mo_signal_4 : decode b_Mo_signal 4 = .ok (.invokevirtual 451, 3) := by decide +kernel
theorem d_Mo_signal_7 : decode b_Mo_signal 7 = .ok (.ifCond .ne 5, 3) := by decide +kernel
theorem d_Mo_signal_10 : decode b_Mo_signal 10 = .ok (.iconst 0, 1) := by decide +kernel
theorem d_Mo_signal_11 : decode b_Mo_signal 11 = .ok (.ireturn, 1) := by decide +kernel
set_option maxHeartbeats 4000000 in
set_option maxRecDepth 100000 in
theorem c_Mo_signal (l : Launch) (dC : Nat → ClassId) (dI : Nat → Nat → Nat) (cI cB cZ cJ : ClassId) (na : Int32) (vv : Int64) (oM : Nat) (oT : Nat) (fm : List Value) (hm_program : fm[2]? = some (.ref oT)) (ft : List Value) (ht_nameCount : ft[32]? = some (.int 0)) (sz : Nat) : Met l y_Mo_signal w_Mo_signal ({ frames := 1, cells := 0, slots := 0, locals := 22 }) (va_Pc [.ref oM, .int na, .long vv] (PW dC dI cI cB cZ cJ [(oM, .inr (12, fm)), (oT, .inr (13, ft))] sz)) (va_Qi (fun (r : Int32) (_ : Unit) => r = 0) (fun _ _ => True) (va_A [] sz)) 0 0 (va_A [] sz) := by
  refine Met.ofW (cc := b_Mo_signal) (maxL := 4) (ret := (some .boolean)) (by decide) rfl ?_
  intro p e s m args below meth c s₁ B hml hv
  obtain ⟨rfl, hsz, hP, hK, hD⟩ := hv
  have hx := B.exec
  have hb := B.bytes
  have hr := B.returns
  have hts := atoms_spec (ws := w_Mo_signal) B.pre
  have hown : s.vm.findClass R_Mo = some m.cls := findClass_of_methodNamed B.named
  have hlocks := B.notSynchronized
  subst hsz
  generalize hAe : va_A [] s.heap.size = A at ⊢
  have hA : ∀ q : Nat, s.heap.size ≤ q → A q := fun q h => by rw [← hAe]; exact Or.inr h
  have hS : va_S A s.heap s.heap [] := va_S.rf
  have hP : va_P (dC, dI) classes [(oM, .inr (12, fm)), (oT, .inr (13, ft))] s.heap := hP
  have hl := lv_entry ([.ref oM, .int na, .long vv]) (n := 4) (Nat.le_of_ble_eq_true rfl)
  rw [lg_entry_eq]
  generalize (lg_sl ([.ref oM, .int na, .long vv]) ++ List.replicate (4 - (lg_sl ([.ref oM, .int na, .long vv])).length) Slot.unset).toArray = ls at hl ⊢
  have hl : lv_has ls 4 [(0, .ref oM), (1, .int na), (2, .long vv)] := hl
  refine lv_aload_n hx hb d_Mo_signal_0 rfl (lv_at hl 0 rfl) ?_
  refine lv_iload_n hx hb d_Mo_signal_1 rfl (lv_at hl 1 rfl) ?_
  refine lv_bipush (v := 30) hx hb d_Mo_signal_2 (by decide) ?_
  have hPc := hP.sub (ws' := [(oM, .inr (12, fm)), (oT, .inr (13, ft))]) [0, 1] rfl
  have hDc := hD.sub (ws' := [(oM, .inr (12, fm)), (oT, .inr (13, ft))]) [0, 1] (by decide) rfl
  have hFc := pu_free hS hA
  refine va_calli (va_runV (C := R_Mo) (As := [.int na, .int 30]) (rest := []) ⟨hx, hb, hml, hown, hts⟩ (c_Mo_isRole l dC dI cI cB cZ cJ na 30 oM oT fm hm_program ft ht_nameCount s.heap.size) (cwV 2 hts (tb_V mw_2521 mw_2523 sl_171 mw_18 mw_2524) rfl rfl rfl ⟨rfl, by decide +kernel, by decide +kernel, by decide +kernel⟩ ⟨(Nat.le_of_ble_eq_true rfl), (Nat.le_of_ble_eq_true rfl)⟩) ⟨pw_blind, va_recv (q := (R_Mo, F_Mo, 87)) hK.1 hP (ci := 12) (q0 := 0) rfl rfl, pw_pre hPc hK hDc⟩ rfl rfl hl.1 rfl (lv_room (Nat.le_of_ble_eq_true rfl)) d_Mo_signal_4 ⟨(Nat.le_of_ble_eq_true rfl), (Nat.le_of_ble_eq_true rfl)⟩) hS (fun q _ h => hFc q h) hFc (fun r u t H locs ht hvm hw hB hz1 hk1 hS => ?_)
  have hP := pu_kept hP hk1
  obtain rfl : r = 0 := hw
  refine lv_if_ne (tgt := 12) hx hb d_Mo_signal_7 (by decide) (fun h => absurd rfl h) (fun _ => ?_)
  refine lv_iconst (v := 0) hx hb d_Mo_signal_10 (by decide) ?_
  exact W.zret (v := 0) (ty := .boolean) hx hb hr (by decide) (fun t ht hW => ⟨⟨_, (), rfl, (rfl), trivial⟩, hS.F ht⟩) hS.2.2 d_Mo_signal_11
theorem d_Mo_value_0 : decode b_Mo_value 0 = .ok (.aload_n 0, 1) := by decide +kernel
theorem d_Mo_value_1 : decode b_Mo_value 1 = .ok (.iload_n 1, 1) := by decide +kernel
theorem d_Mo_value_2 : decode b_Mo_value 2 = .ok (.bipush 30, 2) := by decide +kernel
theorem d_Mo_value_4 : decode b_Mo_value 4 = .ok (.invokevirtual 451, 3) := by decide +kernel
theorem d_Mo_value_7 : decode b_Mo_value 7 = .ok (.ifCond .ne 13, 3) := by decide +kernel
theorem d_Mo_value_10 : decode b_Mo_value 10 = .ok (.aload_n 0, 1) := by decide +kernel
theorem d_Mo_value_11 : decode b_Mo_value 11 = .ok (.iload_n 1, 1) := by decide +kernel
theorem d_Mo_value_12 : decode b_Mo_value 12 = .ok (.bipush 31, 2) := by decide +kernel
theorem d_Mo_value_14 : decode b_Mo_value 14 = .ok (.invokevirtual 451, 3) := by decide +kernel
theorem d_Mo_value_17 : decode b_Mo_value 17 = .ok (.ifCond .eq 12, 3) := by decide +kernel
theorem d_Mo_value_29 : decode b_Mo_value 29 = .ok (.lconst 0, 1) := by decide +kernel
theorem d_Mo_value_30 : decode b_Mo_value 30 = .ok (.lreturn, 1) := by decide +kernel
set_option maxHeartbeats 4000000 in
set_option maxRecDepth 100000 in
theorem c_Mo_value (l : Launch) (dC : Nat → ClassId) (dI : Nat → Nat → Nat) (cI cB cZ cJ : ClassId) (na : Int32) (oM : Nat) (oT : Nat) (fm : List Value) (hm_program : fm[2]? = some (.ref oT)) (ft : List Value) (ht_nameCount : ft[32]? = some (.int 0)) (sz : Nat) : Met l y_Mo_value w_Mo_value ({ frames := 1, cells := 0, slots := 0, locals := 22 }) (va_Pc [.ref oM, .int na] (PW dC dI cI cB cZ cJ [(oM, .inr (12, fm)), (oT, .inr (13, ft))] sz)) (va_Ql (fun (r : Int64) (_ : Unit) => r = 0) (fun _ _ => True) (va_A [] sz)) 0 0 (va_A [] sz) := by
  refine Met.ofW (cc := b_Mo_value) (maxL := 2) (ret := (some .long)) (by decide) rfl ?_
  intro p e s m args below meth c s₁ B hml hv
  obtain ⟨rfl, hsz, hP, hK, hD⟩ := hv
  have hx := B.exec
  have hb := B.bytes
  have hr := B.returns
  have hts := atoms_spec (ws := w_Mo_value) B.pre
  have hown : s.vm.findClass R_Mo = some m.cls := findClass_of_methodNamed B.named
  have hlocks := B.notSynchronized
  subst hsz
  generalize hAe : va_A [] s.heap.size = A at ⊢
  have hA : ∀ q : Nat, s.heap.size ≤ q → A q := fun q h => by rw [← hAe]; exact Or.inr h
  have hS : va_S A s.heap s.heap [] := va_S.rf
  have hP : va_P (dC, dI) classes [(oM, .inr (12, fm)), (oT, .inr (13, ft))] s.heap := hP
  have hl := lv_entry ([.ref oM, .int na]) (n := 2) (Nat.le_of_ble_eq_true rfl)
  rw [lg_entry_eq]
  generalize (lg_sl ([.ref oM, .int na]) ++ List.replicate (2 - (lg_sl ([.ref oM, .int na])).length) Slot.unset).toArray = ls at hl ⊢
  have hl : lv_has ls 2 [(0, .ref oM), (1, .int na)] := hl
  refine lv_aload_n hx hb d_Mo_value_0 rfl (lv_at hl 0 rfl) ?_
  refine lv_iload_n hx hb d_Mo_value_1 rfl (lv_at hl 1 rfl) ?_
  refine lv_bipush (v := 30) hx hb d_Mo_value_2 (by decide) ?_
  have hPc := hP.sub (ws' := [(oM, .inr (12, fm)), (oT, .inr (13, ft))]) [0, 1] rfl
  have hDc := hD.sub (ws' := [(oM, .inr (12, fm)), (oT, .inr (13, ft))]) [0, 1] (by decide) rfl
  have hFc := pu_free hS hA
  refine va_calli (va_runV (C := R_Mo) (As := [.int na, .int 30]) (rest := []) ⟨hx, hb, hml, hown, hts⟩ (c_Mo_isRole l dC dI cI cB cZ cJ na 30 oM oT fm hm_program ft ht_nameCount s.heap.size) (cwV 2 hts (tb_V mw_2521 mw_2523 sl_171 mw_18 mw_2524) rfl rfl rfl ⟨rfl, by decide +kernel, by decide +kernel, by decide +kernel⟩ ⟨(Nat.le_of_ble_eq_true rfl), (Nat.le_of_ble_eq_true rfl)⟩) ⟨pw_blind, va_recv (q := (R_Mo, F_Mo, 87)) hK.1 hP (ci := 12) (q0 := 0) rfl rfl, pw_pre hPc hK hDc⟩ rfl rfl hl.1 rfl (lv_room (Nat.le_of_ble_eq_true rfl)) d_Mo_value_4 ⟨(Nat.le_of_ble_eq_true rfl), (Nat.le_of_ble_eq_true rfl)⟩) hS (fun q _ h => hFc q h) hFc (fun r u t H locs ht hvm hw hB hz1 hk1 hS => ?_)
  have hP := pu_kept hP hk1
  obtain rfl : r = 0 := hw
  refine lv_if_ne (tgt := 20) hx hb d_Mo_value_7 (by decide) (fun h => absurd rfl h) (fun _ => ?_)
  refine lv_aload_n hx hb d_Mo_value_10 rfl (lv_at hl 0 rfl) ?_
  refine lv_iload_n hx hb d_Mo_value_11 rfl (lv_at hl 1 rfl) ?_
  refine lv_bipush (v := 31) hx hb d_Mo_value_12 (by decide) ?_
  have hPc := hP.sub (ws' := [(oM, .inr (12, fm)), (oT, .inr (13, ft))]) [0, 1] rfl
  have hDc := hD.sub (ws' := [(oM, .inr (12, fm)), (oT, .inr (13, ft))]) [0, 1] (by decide) rfl
  have hFc := pu_free hS hA
  refine va_calli (va_runV (C := R_Mo) (As := [.int na, .int 31]) (rest := []) ⟨hx, hb, hml, hown, hts⟩ (c_Mo_isRole l dC dI cI cB cZ cJ na 31 oM oT fm hm_program ft ht_nameCount H.size) (cwV 2 hts (tb_V mw_2521 mw_2523 sl_171 mw_18 mw_2524) rfl rfl rfl ⟨rfl, by decide +kernel, by decide +kernel, by decide +kernel⟩ ⟨(Nat.le_of_ble_eq_true rfl), (Nat.le_of_ble_eq_true rfl)⟩) ⟨pw_blind, va_recv (q := (R_Mo, F_Mo, 87)) hK.1 hP (ci := 12) (q0 := 0) rfl rfl, pw_pre hPc hK hDc⟩ rfl rfl hl.1 rfl (lv_room (Nat.le_of_ble_eq_true rfl)) d_Mo_value_14 ⟨(Nat.le_of_ble_eq_true rfl), (Nat.le_of_ble_eq_true rfl)⟩) hS (fun q _ h => hFc q h) hFc (fun r u t H locs ht hvm hw hB hz1 hk1 hS => ?_)
  have hP := pu_kept hP hk1
  obtain rfl : r = 0 := hw
  refine lv_if_eq (tgt := 29) hx hb d_Mo_value_17 (by decide) (fun _ => ?_) (fun h => absurd (by decide) h)
  refine lv_lconst (v := 0) hx hb d_Mo_value_29 (by decide) ?_
  exact W.lret (v := 0) hx hb hr (fun t ht hW => ⟨⟨_, (), rfl, (rfl), trivial⟩, hS.F ht⟩) hS.2.2 d_Mo_value_30
theorem d_Mo_fill_0 : decode b_Mo_fill 0 = .ok (.aload_n 0, 1) := by decide +kernel
theorem d_Mo_fill_1 : decode b_Mo_fill 1 = .ok (.iload_n 1, 1) := by decide +kernel
theorem d_Mo_fill_2 : decode b_Mo_fill 2 = .ok (.invokevirtual 317, 3) := by decide +kernel
theorem d_Mo_fill_5 : decode b_Mo_fill 5 = .ok (.ifCond .eq 57, 3) := by decide +kernel
theorem d_Mo_fill_62 : decode b_Mo_fill 62 = .ok (.iconst 0, 1) := by decide +kernel
theorem d_Mo_fill_63 : decode b_Mo_fill 63 = .ok (.ireturn, 1) := by decide +kernel
set_option maxHeartbeats 4000000 in
set_option maxRecDepth 100000 in
theorem c_Mo_fill (l : Launch) (dC : Nat → ClassId) (dI : Nat → Nat → Nat) (cI cB cZ cJ : ClassId) (ta : Int32) (li : Int32) (nn : Int64) (oM : Nat) (fm : List Value) (hm_things : fm[4]? = some (.int 0)) (sz : Nat) : Met l y_Mo_fill w_Mo_fill ({ frames := 2, cells := 0, slots := 0, locals := 42 }) (va_Pc [.ref oM, .int ta, .int li, .long nn] (PW dC dI cI cB cZ cJ [(oM, .inr (12, fm))] sz)) (va_Qi (fun (r : Int32) (_ : Unit) => r = 0) (fun _ _ => True) (va_A [] sz)) 0 0 (va_A [] sz) := by
  refine Met.ofW (cc := b_Mo_fill) (maxL := 5) (ret := (some .boolean)) (by decide) rfl ?_
  intro p e s m args below meth c s₁ B hml hv
  obtain ⟨rfl, hsz, hP, hK, hD⟩ := hv
  have hx := B.exec
  have hb := B.bytes
  have hr := B.returns
  have hts := atoms_spec (ws := w_Mo_fill) B.pre
  have hown : s.vm.findClass R_Mo = some m.cls := findClass_of_methodNamed B.named
  have hlocks := B.notSynchronized
  subst hsz
  generalize hAe : va_A [] s.heap.size = A at ⊢
  have hA : ∀ q : Nat, s.heap.size ≤ q → A q := fun q h => by rw [← hAe]; exact Or.inr h
  have hS : va_S A s.heap s.heap [] := va_S.rf
  have hP : va_P (dC, dI) classes [(oM, .inr (12, fm))] s.heap := hP
  have hl := lv_entry ([.ref oM, .int ta, .int li, .long nn]) (n := 5) (Nat.le_of_ble_eq_true rfl)
  rw [lg_entry_eq]
  generalize (lg_sl ([.ref oM, .int ta, .int li, .long nn]) ++ List.replicate (5 - (lg_sl ([.ref oM, .int ta, .int li, .long nn])).length) Slot.unset).toArray = ls at hl ⊢
  have hl : lv_has ls 5 [(0, .ref oM), (1, .int ta), (2, .int li), (3, .long nn)] := hl
  refine lv_aload_n hx hb d_Mo_fill_0 rfl (lv_at hl 0 rfl) ?_
  refine lv_iload_n hx hb d_Mo_fill_1 rfl (lv_at hl 1 rfl) ?_
  have hPc := hP.sub (ws' := [(oM, .inr (12, fm))]) [0] rfl
  have hDc := hD.sub (ws' := [(oM, .inr (12, fm))]) [0] (by decide) rfl
  have hFc := pu_free hS hA
  refine va_calli (va_runV (C := R_Mo) (As := [.int ta]) (rest := []) ⟨hx, hb, hml, hown, hts⟩ (c_Mo_isTank l dC dI cI cB cZ cJ ta oM fm hm_things s.heap.size) (cwV 1 hts (tb_V mw_2416 mw_2418 sl_154 mw_18 mw_2419) rfl rfl rfl ⟨rfl, by decide +kernel, by decide +kernel, by decide +kernel⟩ ⟨(Nat.le_of_ble_eq_true rfl), (Nat.le_of_ble_eq_true rfl)⟩) ⟨pw_blind, va_recv (q := (R_Mo, F_Mo, 87)) hK.1 hP (ci := 12) (q0 := 0) rfl rfl, pw_pre hPc hK hDc⟩ rfl rfl hl.1 rfl (lv_room (Nat.le_of_ble_eq_true rfl)) d_Mo_fill_2 ⟨(Nat.le_of_ble_eq_true rfl), (Nat.le_of_ble_eq_true rfl)⟩) hS (fun q _ h => hFc q h) hFc (fun r u t H locs ht hvm hw hB hz1 hk1 hS => ?_)
  have hP := pu_kept hP hk1
  obtain rfl : r = 0 := hw
  refine lv_if_eq (tgt := 62) hx hb d_Mo_fill_5 (by decide) (fun _ => ?_) (fun h => absurd (by decide) h)
  refine lv_iconst (v := 0) hx hb d_Mo_fill_62 (by decide) ?_
  exact W.zret (v := 0) (ty := .boolean) hx hb hr (by decide) (fun t ht hW => ⟨⟨_, (), rfl, (rfl), trivial⟩, hS.F ht⟩) hS.2.2 d_Mo_fill_63
theorem d_Mo_space_0 : decode b_Mo_space 0 = .ok (.iload_n 2, 1) := by decide +kernel
theorem d_Mo_space_1 : decode b_Mo_space 1 = .ok (.iconst 4, 1) := by decide +kernel
theorem d_Mo_space_2 : decode b_Mo_space 2 = .ok (.if_icmp .ne 22, 3) := by decide +kernel
theorem d_Mo_space_5 : decode b_Mo_space 5 = .ok (.aload_n 0, 1) := by decide +kernel
theorem d_Mo_space_6 : decode b_Mo_space 6 = .ok (.iload_n 1, 1) := by decide +kernel
theorem d_Mo_space_7 : decode b_Mo_space 7 = .ok (.invokevirtual 412, 3) := by decide +kernel
theorem d_Mo_space_10 : decode b_Mo_space 10 = .ok (.ifCond .eq 12, 3) := by decide +kernel
theorem d_Mo_space_22 : decode b_Mo_space 22 = .ok (.iconst (-1), 1) := by decide +kernel
theorem d_Mo_space_23 : decode b_Mo_space 23 = .ok (.ireturn, 1) := by decide +kernel
theorem d_Mo_space_24 : decode b_Mo_space 24 = .ok (.aload_n 0, 1) := by decide +kernel
theorem d_Mo_space_25 : decode b_Mo_space 25 = .ok (.iload_n 1, 1) := by decide +kernel
theorem d_Mo_space_26 : decode b_Mo_space 26 = .ok (.invokevirtual 415, 3) := by decide +kernel
theorem d_Mo_space_29 : decode b_Mo_space 29 = .ok (.ifCond .eq 12, 3) := by decide +kernel
theorem d_Mo_space_41 : decode b_Mo_space 41 = .ok (.iconst (-1), 1) := by decide +kernel
theorem d_Mo_space_42 : decode b_Mo_space 42 = .ok (.ireturn, 1) := by decide +kernel
set_option maxHeartbeats 4000000 in
set_option maxRecDepth 100000 in
theorem c_Mo_space (l : Launch) (dC : Nat → ClassId) (dI : Nat → Nat → Nat) (cI cB cZ cJ : ClassId) (xx : Int32) (wh : Int32) (oM : Nat) (fm : List Value) (hm_things : fm[4]? = some (.int 0)) (hm_pipes : fm[11]? = some (.int 0)) (sz : Nat) : Met l y_Mo_space w_Mo_space ({ frames := 3, cells := 0, slots := 0, locals := 63 }) (va_Pc [.ref oM, .int xx, .int wh] (PW dC dI cI cB cZ cJ [(oM, .inr (12, fm))] sz)) (va_Qi (fun (r : Int32) (_ : Unit) => r = (-1)) (fun _ _ => True) (va_A [] sz)) 0 0 (va_A [] sz) := by
  refine Met.ofW (cc := b_Mo_space) (maxL := 3) (ret := (some .int)) (by decide) rfl ?_
  intro p e s m args below meth c s₁ B hml hv
  obtain ⟨rfl, hsz, hP, hK, hD⟩ := hv
  have hx := B.exec
  have hb := B.bytes
  have hr := B.returns
  have hts := atoms_spec (ws := w_Mo_space) B.pre
  have hown : s.vm.findClass R_Mo = some m.cls := findClass_of_methodNamed B.named
  have hlocks := B.notSynchronized
  subst hsz
  generalize hAe : va_A [] s.heap.size = A at ⊢
  have hA : ∀ q : Nat, s.heap.size ≤ q → A q := fun q h => by rw [← hAe]; exact Or.inr h
  have hS : va_S A s.heap s.heap [] := va_S.rf
  have hP : va_P (dC, dI) classes [(oM, .inr (12, fm))] s.heap := hP
  have hl := lv_entry ([.ref oM, .int xx, .int wh]) (n := 3) (Nat.le_of_ble_eq_true rfl)
  rw [lg_entry_eq]
  generalize (lg_sl ([.ref oM, .int xx, .int wh]) ++ List.replicate (3 - (lg_sl ([.ref oM, .int xx, .int wh])).length) Slot.unset).toArray = ls at hl ⊢
  have hl : lv_has ls 3 [(0, .ref oM), (1, .int xx), (2, .int wh)] := hl
  refine lv_iload_n hx hb d_Mo_space_0 rfl (lv_at hl 2 rfl) ?_
  refine lv_iconst (v := 4) hx hb d_Mo_space_1 (by decide) ?_
  refine lv_icmp_ne (tgt := 24) hx hb d_Mo_space_2 (by decide) (fun h2 => ?_) (fun h2 => ?_)
  · refine lv_aload_n hx hb d_Mo_space_24 rfl (lv_at hl 0 rfl) ?_
    refine lv_iload_n hx hb d_Mo_space_25 rfl (lv_at hl 1 rfl) ?_
    have hPc := hP.sub (ws' := [(oM, .inr (12, fm))]) [0] rfl
    have hDc := hD.sub (ws' := [(oM, .inr (12, fm))]) [0] (by decide) rfl
    have hFc := pu_free hS hA
    refine va_calli (va_runV (C := R_Mo) (As := [.int xx]) (rest := []) ⟨hx, hb, hml, hown, hts⟩ (c_Mo_holdsLiquid l dC dI cI cB cZ cJ xx oM fm hm_things hm_pipes s.heap.size) (cwV 1 hts (tb_V mw_2412 mw_2414 sl_153 mw_18 mw_2415) rfl rfl rfl ⟨rfl, by decide +kernel, by decide +kernel, by decide +kernel⟩ ⟨(Nat.le_of_ble_eq_true rfl), (Nat.le_of_ble_eq_true rfl)⟩) ⟨pw_blind, va_recv (q := (R_Mo, F_Mo, 87)) hK.1 hP (ci := 12) (q0 := 0) rfl rfl, pw_pre hPc hK hDc⟩ rfl rfl hl.1 rfl (lv_room (Nat.le_of_ble_eq_true rfl)) d_Mo_space_26 ⟨(Nat.le_of_ble_eq_true rfl), (Nat.le_of_ble_eq_true rfl)⟩) hS (fun q _ h => hFc q h) hFc (fun r u t H locs ht hvm hw hB hz1 hk1 hS => ?_)
    have hP := pu_kept hP hk1
    obtain rfl : r = 0 := hw
    refine lv_if_eq (tgt := 41) hx hb d_Mo_space_29 (by decide) (fun _ => ?_) (fun h => absurd (by decide) h)
    refine lv_iconst (v := (-1)) hx hb d_Mo_space_41 (by decide) ?_
    exact W.iret (v := (-1)) hx hb hr (fun t ht hW => ⟨⟨_, (), rfl, (rfl), trivial⟩, hS.F ht⟩) hS.2.2 d_Mo_space_42
  · refine lv_aload_n hx hb d_Mo_space_5 rfl (lv_at hl 0 rfl) ?_
    refine lv_iload_n hx hb d_Mo_space_6 rfl (lv_at hl 1 rfl) ?_
    have hPc := hP.sub (ws' := [(oM, .inr (12, fm))]) [0] rfl
    have hDc := hD.sub (ws' := [(oM, .inr (12, fm))]) [0] (by decide) rfl
    have hFc := pu_free hS hA
    refine va_calli (va_runV (C := R_Mo) (As := [.int xx]) (rest := []) ⟨hx, hb, hml, hown, hts⟩ (c_Mo_isValve l dC dI cI cB cZ cJ xx oM fm hm_things s.heap.size) (cwV 1 hts (tb_V mw_2404 mw_2406 sl_151 mw_18 mw_2407) rfl rfl rfl ⟨rfl, by decide +kernel, by decide +kernel, by decide +kernel⟩ ⟨(Nat.le_of_ble_eq_true rfl), (Nat.le_of_ble_eq_true rfl)⟩) ⟨pw_blind, va_recv (q := (R_Mo, F_Mo, 87)) hK.1 hP (ci := 12) (q0 := 0) rfl rfl, pw_pre hPc hK hDc⟩ rfl rfl hl.1 rfl (lv_room (Nat.le_of_ble_eq_true rfl)) d_Mo_space_7 ⟨(Nat.le_of_ble_eq_true rfl), (Nat.le_of_ble_eq_true rfl)⟩) hS (fun q _ h => hFc q h) hFc (fun r u t H locs ht hvm hw hB hz1 hk1 hS => ?_)
    have hP := pu_kept hP hk1
    obtain rfl : r = 0 := hw
    refine lv_if_eq (tgt := 22) hx hb d_Mo_space_10 (by decide) (fun _ => ?_) (fun h => absurd (by decide) h)
    refine lv_iconst (v := (-1)) hx hb d_Mo_space_22 (by decide) ?_
    exact W.iret (v := (-1)) hx hb hr (fun t ht hW => ⟨⟨_, (), rfl, (rfl), trivial⟩, hS.F ht⟩) hS.2.2 d_Mo_space_23
theorem d_Mo_way_0 : decode b_Mo_way 0 = .ok (.iload_n 1, 1) := by decide +kernel
theorem d_Mo_way_1 : decode b_Mo_way 1 = .ok (.ifCond .lt 27, 3) := by decide +kernel
theorem d_Mo_way_4 : decode b_Mo_way 4 = .ok (.iload_n 1, 1) := by decide +kernel
theorem d_Mo_way_5 : decode b_Mo_way 5 = .ok (.aload_n 0, 1) := by decide +kernel
theorem d_Mo_way_6 : decode b_Mo_way 6 = .ok (.getfield 284, 3) := by decide +kernel
theorem d_Mo_way_9 : decode b_Mo_way 9 = .ok (.if_icmp .ge 19, 3) := by decide +kernel
theorem d_Mo_way_28 : decode b_Mo_way 28 = .ok (.iconst (-1), 1) := by decide +kernel
theorem d_Mo_way_29 : decode b_Mo_way 29 = .ok (.ireturn, 1) := by decide +kernel
set_option maxHeartbeats 4000000 in
set_option maxRecDepth 100000 in
theorem c_Mo_way (l : Launch) (dC : Nat → ClassId) (dI : Nat → Nat → Nat) (cI cB cZ cJ : ClassId) (kk : Int32) (wh : Int32) (oM : Nat) (fm : List Value) (hm_ways : fm[26]? = some (.int 0)) (sz : Nat) : Met l y_Mo_way w_Mo_way ({ frames := 0, cells := 0, slots := 0, locals := 0 }) (va_Pc [.ref oM, .int kk, .int wh] (PW dC dI cI cB cZ cJ [(oM, .inr (12, fm))] sz)) (va_Qi (fun (r : Int32) (_ : Unit) => r = (-1)) (fun _ _ => True) (va_A [] sz)) 0 0 (va_A [] sz) := by
  refine Met.ofW (cc := b_Mo_way) (maxL := 3) (ret := (some .int)) (by decide) rfl ?_
  intro p e s m args below meth c s₁ B hml hv
  obtain ⟨rfl, hsz, hP, hK, hD⟩ := hv
  have hx := B.exec
  have hb := B.bytes
  have hr := B.returns
  have hts := atoms_spec (ws := w_Mo_way) B.pre
  have hown : s.vm.findClass R_Mo = some m.cls := findClass_of_methodNamed B.named
  have hlocks := B.notSynchronized
  subst hsz
  generalize hAe : va_A [] s.heap.size = A at ⊢
  have hA : ∀ q : Nat, s.heap.size ≤ q → A q := fun q h => by rw [← hAe]; exact Or.inr h
  have hS : va_S A s.heap s.heap [] := va_S.rf
  have hP : va_P (dC, dI) classes [(oM, .inr (12, fm))] s.heap := hP
  have hl := lv_entry ([.ref oM, .int kk, .int wh]) (n := 3) (Nat.le_of_ble_eq_true rfl)
  rw [lg_entry_eq]
  generalize (lg_sl ([.ref oM, .int kk, .int wh]) ++ List.replicate (3 - (lg_sl ([.ref oM, .int kk, .int wh])).length) Slot.unset).toArray = ls at hl ⊢
  have hl : lv_has ls 3 [(0, .ref oM), (1, .int kk), (2, .int wh)] := hl
  refine lv_iload_n hx hb d_Mo_way_0 rfl (lv_at hl 1 rfl) ?_
  refine lv_if_lt (tgt := 28) hx hb d_Mo_way_1 (by decide) (fun h1 => ?_) (fun h1 => ?_)
  · refine lv_iconst (v := (-1)) hx hb d_Mo_way_28 (by decide) ?_
    exact W.iret (v := (-1)) hx hb hr (fun t ht hW => ⟨⟨_, (), rfl, (rfl), trivial⟩, hS.F ht⟩) hS.2.2 d_Mo_way_29
  · refine lv_iload_n hx hb d_Mo_way_4 rfl (lv_at hl 1 rfl) ?_
    refine lv_aload_n hx hb d_Mo_way_5 rfl (lv_at hl 0 rfl) ?_
    refine va_get (D := (dC, dI)) (ci := 12) (v := .int 0) (C := R_Mo) (T := F_Mo) (N := 87) hx hb hts (fun w h => List.mem_cons_of_mem _ (in_Mo w h)) hown hK.1 hP 0 rfl rfl 26 (by decide) (hts _ (List.mem_cons_of_mem _ mw_1812)) (fun _ h9 => h9) hm_ways d_Mo_way_6 ?_
    refine lv_icmp_ge (tgt := 28) hx hb d_Mo_way_9 (by decide) (fun _ => ?_) (fun h => absurd (nd_le h1 (by decide)) h)
    refine lv_iconst (v := (-1)) hx hb d_Mo_way_28 (by decide) ?_
    exact W.iret (v := (-1)) hx hb hr (fun t ht hW => ⟨⟨_, (), rfl, (rfl), trivial⟩, hS.F ht⟩) hS.2.2 d_Mo_way_29
theorem d_Mo_alarm_0 : decode b_Mo_alarm 0 = .ok (.iload_n 1, 1) := by decide +kernel
theorem d_Mo_alarm_1 : decode b_Mo_alarm 1 = .ok (.ifCond .lt 11, 3) := by decide +kernel
theorem d_Mo_alarm_4 : decode b_Mo_alarm 4 = .ok (.iload_n 1, 1) := by decide +kernel
theorem d_Mo_alarm_5 : decode b_Mo_alarm 5 = .ok (.aload_n 0, 1) := by decide +kernel
theorem d_Mo_alarm_6 : decode b_Mo_alarm 6 = .ok (.getfield 433, 3) := by decide +kernel
theorem d_Mo_alarm_9 : decode b_Mo_alarm 9 = .ok (.if_icmp .lt 5, 3) := by decide +kernel
theorem d_Mo_alarm_12 : decode b_Mo_alarm 12 = .ok (.iconst (-1), 1) := by decide +kernel
theorem d_Mo_alarm_13 : decode b_Mo_alarm 13 = .ok (.ireturn, 1) := by decide +kernel
set_option maxHeartbeats 4000000 in
set_option maxRecDepth 100000 in
theorem c_Mo_alarm (l : Launch) (dC : Nat → ClassId) (dI : Nat → Nat → Nat) (cI cB cZ cJ : ClassId) (kk : Int32) (wh : Int32) (oM : Nat) (fm : List Value) (hm_alarms : fm[79]? = some (.int 0)) (sz : Nat) : Met l y_Mo_alarm w_Mo_alarm ({ frames := 0, cells := 0, slots := 0, locals := 0 }) (va_Pc [.ref oM, .int kk, .int wh] (PW dC dI cI cB cZ cJ [(oM, .inr (12, fm))] sz)) (va_Qi (fun (r : Int32) (_ : Unit) => r = (-1)) (fun _ _ => True) (va_A [] sz)) 0 0 (va_A [] sz) := by
  refine Met.ofW (cc := b_Mo_alarm) (maxL := 3) (ret := (some .int)) (by decide) rfl ?_
  intro p e s m args below meth c s₁ B hml hv
  obtain ⟨rfl, hsz, hP, hK, hD⟩ := hv
  have hx := B.exec
  have hb := B.bytes
  have hr := B.returns
  have hts := atoms_spec (ws := w_Mo_alarm) B.pre
  have hown : s.vm.findClass R_Mo = some m.cls := findClass_of_methodNamed B.named
  have hlocks := B.notSynchronized
  subst hsz
  generalize hAe : va_A [] s.heap.size = A at ⊢
  have hA : ∀ q : Nat, s.heap.size ≤ q → A q := fun q h => by rw [← hAe]; exact Or.inr h
  have hS : va_S A s.heap s.heap [] := va_S.rf
  have hP : va_P (dC, dI) classes [(oM, .inr (12, fm))] s.heap := hP
  have hl := lv_entry ([.ref oM, .int kk, .int wh]) (n := 3) (Nat.le_of_ble_eq_true rfl)
  rw [lg_entry_eq]
  generalize (lg_sl ([.ref oM, .int kk, .int wh]) ++ List.replicate (3 - (lg_sl ([.ref oM, .int kk, .int wh])).length) Slot.unset).toArray = ls at hl ⊢
  have hl : lv_has ls 3 [(0, .ref oM), (1, .int kk), (2, .int wh)] := hl
  refine lv_iload_n hx hb d_Mo_alarm_0 rfl (lv_at hl 1 rfl) ?_
  refine lv_if_lt (tgt := 12) hx hb d_Mo_alarm_1 (by decide) (fun h1 => ?_) (fun h1 => ?_)
  · refine lv_iconst (v := (-1)) hx hb d_Mo_alarm_12 (by decide) ?_
    exact W.iret (v := (-1)) hx hb hr (fun t ht hW => ⟨⟨_, (), rfl, (rfl), trivial⟩, hS.F ht⟩) hS.2.2 d_Mo_alarm_13
  · refine lv_iload_n hx hb d_Mo_alarm_4 rfl (lv_at hl 1 rfl) ?_
    refine lv_aload_n hx hb d_Mo_alarm_5 rfl (lv_at hl 0 rfl) ?_
    refine va_get (D := (dC, dI)) (ci := 12) (v := .int 0) (C := R_Mo) (T := F_Mo) (N := 87) hx hb hts (fun w h => List.mem_cons_of_mem _ (in_Mo w h)) hown hK.1 hP 0 rfl rfl 79 (by decide) (hts _ (List.mem_cons_of_mem _ mw_1865)) (fun _ h9 => h9) hm_alarms d_Mo_alarm_6 ?_
    refine lv_icmp_lt (tgt := 14) hx hb d_Mo_alarm_9 (by decide) (fun h => absurd h (nv_lt h1 (by decide))) (fun _ => ?_)
    refine lv_iconst (v := (-1)) hx hb d_Mo_alarm_12 (by decide) ?_
    exact W.iret (v := (-1)) hx hb hr (fun t ht hW => ⟨⟨_, (), rfl, (rfl), trivial⟩, hS.F ht⟩) hS.2.2 d_Mo_alarm_13
theorem d_Mo_hold_0 : decode b_Mo_hold 0 = .ok (.iload_n 1, 1) := by decide +kernel
theorem d_Mo_hold_1 : decode b_Mo_hold 1 = .ok (.ifCond .eq 13, 3) := by decide +kernel
theorem d_Mo_hold_4 : decode b_Mo_hold 4 = .ok (.aload_n 0, 1) := by decide +kernel
theorem d_Mo_hold_5 : decode b_Mo_hold 5 = .ok (.getfield 162, 3) := by decide +kernel
theorem d_Mo_hold_8 : decode b_Mo_hold 8 = .ok (.ifCond .eq 16, 3) := by decide +kernel
theorem d_Mo_hold_11 : decode b_Mo_hold 11 = .ok (.goto 11, 3) := by decide +kernel
theorem d_Mo_hold_14 : decode b_Mo_hold 14 = .ok (.aload_n 0, 1) := by decide +kernel
theorem d_Mo_hold_15 : decode b_Mo_hold 15 = .ok (.getfield 162, 3) := by decide +kernel
theorem d_Mo_hold_18 : decode b_Mo_hold 18 = .ok (.iconst 2, 1) := by decide +kernel
theorem d_Mo_hold_19 : decode b_Mo_hold 19 = .ok (.if_icmp .eq 5, 3) := by decide +kernel
theorem d_Mo_hold_22 : decode b_Mo_hold 22 = .ok (.iconst 0, 1) := by decide +kernel
theorem d_Mo_hold_23 : decode b_Mo_hold 23 = .ok (.ireturn, 1) := by decide +kernel
set_option maxHeartbeats 4000000 in
set_option maxRecDepth 100000 in
theorem c_Mo_hold (l : Launch) (dC : Nat → ClassId) (dI : Nat → Nat → Nat) (cI cB cZ cJ : ClassId) (on : Int32) (oM : Nat) (fm : List Value) (hm_state : fm[59]? = some (.int 4)) (sz : Nat) : Met l y_Mo_hold w_Mo_hold ({ frames := 0, cells := 0, slots := 0, locals := 0 }) (va_Pc [.ref oM, .int on] (PW dC dI cI cB cZ cJ [(oM, .inr (12, fm))] sz)) (va_Qi (fun (r : Int32) (_ : Unit) => r = 0) (fun _ _ => True) (va_A [] sz)) 0 0 (va_A [] sz) := by
  refine Met.ofW (cc := b_Mo_hold) (maxL := 2) (ret := (some .boolean)) (by decide) rfl ?_
  intro p e s m args below meth c s₁ B hml hv
  obtain ⟨rfl, hsz, hP, hK, hD⟩ := hv
  have hx := B.exec
  have hb := B.bytes
  have hr := B.returns
  have hts := atoms_spec (ws := w_Mo_hold) B.pre
  have hown : s.vm.findClass R_Mo = some m.cls := findClass_of_methodNamed B.named
  have hlocks := B.notSynchronized
  subst hsz
  generalize hAe : va_A [] s.heap.size = A at ⊢
  have hA : ∀ q : Nat, s.heap.size ≤ q → A q := fun q h => by rw [← hAe]; exact Or.inr h
  have hS : va_S A s.heap s.heap [] := va_S.rf
  have hP : va_P (dC, dI) classes [(oM, .inr (12, fm))] s.heap := hP
  have hl := lv_entry ([.ref oM, .int on]) (n := 2) (Nat.le_of_ble_eq_true rfl)
  rw [lg_entry_eq]
  generalize (lg_sl ([.ref oM, .int on]) ++ List.replicate (2 - (lg_sl ([.ref oM, .int on])).length) Slot.unset).toArray = ls at hl ⊢
  have hl : lv_has ls 2 [(0, .ref oM), (1, .int on)] := hl
  refine lv_iload_n hx hb d_Mo_hold_0 rfl (lv_at hl 1 rfl) ?_
  refine lv_if_eq (tgt := 14) hx hb d_Mo_hold_1 (by decide) (fun h1 => ?_) (fun h1 => ?_)
  · refine lv_aload_n hx hb d_Mo_hold_14 rfl (lv_at hl 0 rfl) ?_
    refine va_get (D := (dC, dI)) (ci := 12) (v := .int 4) (C := R_Mo) (T := F_Mo) (N := 87) hx hb hts (fun w h => List.mem_cons_of_mem _ (in_Mo w h)) hown hK.1 hP 0 rfl rfl 59 (by decide) (hts _ (List.mem_cons_of_mem _ mw_1845)) (fun _ h9 => h9) hm_state d_Mo_hold_15 ?_
    refine lv_iconst (v := 2) hx hb d_Mo_hold_18 (by decide) ?_
    refine lv_icmp_eq (tgt := 24) hx hb d_Mo_hold_19 (by decide) (fun h => absurd h (by decide)) (fun _ => ?_)
    refine lv_iconst (v := 0) hx hb d_Mo_hold_22 (by decide) ?_
    exact W.zret (v := 0) (ty := .boolean) hx hb hr (by decide) (fun t ht hW => ⟨⟨_, (), rfl, (rfl), trivial⟩, hS.F ht⟩) hS.2.2 d_Mo_hold_23
  · refine lv_aload_n hx hb d_Mo_hold_4 rfl (lv_at hl 0 rfl) ?_
    refine va_get (D := (dC, dI)) (ci := 12) (v := .int 4) (C := R_Mo) (T := F_Mo) (N := 87) hx hb hts (fun w h => List.mem_cons_of_mem _ (in_Mo w h)) hown hK.1 hP 0 rfl rfl 59 (by decide) (hts _ (List.mem_cons_of_mem _ mw_1845)) (fun _ h9 => h9) hm_state d_Mo_hold_5 ?_
    refine lv_if_eq (tgt := 24) hx hb d_Mo_hold_8 (by decide) (fun h => absurd h (by decide)) (fun _ => ?_)
    refine lv_goto (tgt := 22) hx hb d_Mo_hold_11 (by decide) ?_
    refine lv_iconst (v := 0) hx hb d_Mo_hold_22 (by decide) ?_
    exact W.zret (v := 0) (ty := .boolean) hx hb hr (by decide) (fun t ht hW => ⟨⟨_, (), rfl, (rfl), trivial⟩, hS.F ht⟩) hS.2.2 d_Mo_hold_23
theorem d_Mo_stop_0 : decode b_Mo_stop 0 = .ok (.aload_n 0, 1) := by decide +kernel
theorem d_Mo_stop_1 : decode b_Mo_stop 1 = .ok (.getfield 162, 3) := by decide +kernel
theorem d_Mo_stop_4 : decode b_Mo_stop 4 = .ok (.ifCond .eq 13, 3) := by decide +kernel
theorem d_Mo_stop_7 : decode b_Mo_stop 7 = .ok (.aload_n 0, 1) := by decide +kernel
theorem d_Mo_stop_8 : decode b_Mo_stop 8 = .ok (.getfield 162, 3) := by decide +kernel
theorem d_Mo_stop_11 : decode b_Mo_stop 11 = .ok (.iconst 2, 1) := by decide +kernel
theorem d_Mo_stop_12 : decode b_Mo_stop 12 = .ok (.if_icmp .eq 5, 3) := by decide +kernel
theorem d_Mo_stop_15 : decode b_Mo_stop 15 = .ok (.iconst 0, 1) := by decide +kernel
theorem d_Mo_stop_16 : decode b_Mo_stop 16 = .ok (.ireturn, 1) := by decide +kernel
set_option maxHeartbeats 4000000 in
set_option maxRecDepth 100000 in
theorem c_Mo_stop (l : Launch) (dC : Nat → ClassId) (dI : Nat → Nat → Nat) (cI cB cZ cJ : ClassId) (oM : Nat) (fm : List Value) (hm_state : fm[59]? = some (.int 4)) (sz : Nat) : Met l y_Mo_stop w_Mo_stop ({ frames := 0, cells := 0, slots := 0, locals := 0 }) (va_Pc [.ref oM] (PW dC dI cI cB cZ cJ [(oM, .inr (12, fm))] sz)) (va_Qi (fun (r : Int32) (_ : Unit) => r = 0) (fun _ _ => True) (va_A [] sz)) 0 0 (va_A [] sz) := by
  refine Met.ofW (cc := b_Mo_stop) (maxL := 1) (ret := (some .boolean)) (by decide) rfl ?_
  intro p e s m args below meth c s₁ B hml hv
  obtain ⟨rfl, hsz, hP, hK, hD⟩ := hv
  have hx := B.exec
  have hb := B.bytes
  have hr := B.returns
  have hts := atoms_spec (ws := w_Mo_stop) B.pre
  have hown : s.vm.findClass R_Mo = some m.cls := findClass_of_methodNamed B.named
  have hlocks := B.notSynchronized
  subst hsz
  generalize hAe : va_A [] s.heap.size = A at ⊢
  have hA : ∀ q : Nat, s.heap.size ≤ q → A q := fun q h => by rw [← hAe]; exact Or.inr h
  have hS : va_S A s.heap s.heap [] := va_S.rf
  have hP : va_P (dC, dI) classes [(oM, .inr (12, fm))] s.heap := hP
  have hl := lv_entry ([.ref oM]) (n := 1) (Nat.le_of_ble_eq_true rfl)
  rw [lg_entry_eq]
  generalize (lg_sl ([.ref oM]) ++ List.replicate (1 - (lg_sl ([.ref oM])).length) Slot.unset).toArray = ls at hl ⊢
  have hl : lv_has ls 1 [(0, .ref oM)] := hl
  refine lv_aload_n hx hb d_Mo_stop_0 rfl (lv_at hl 0 rfl) ?_
  refine va_get (D := (dC, dI)) (ci := 12) (v := .int 4) (C := R_Mo) (T := F_Mo) (N := 87) hx hb hts (fun w h => List.mem_cons_of_mem _ (in_Mo w h)) hown hK.1 hP 0 rfl rfl 59 (by decide) (hts _ (List.mem_cons_of_mem _ mw_1845)) (fun _ h9 => h9) hm_state d_Mo_stop_1 ?_
  refine lv_if_eq (tgt := 17) hx hb d_Mo_stop_4 (by decide) (fun h => absurd h (by decide)) (fun _ => ?_)
  refine lv_aload_n hx hb d_Mo_stop_7 rfl (lv_at hl 0 rfl) ?_
  refine va_get (D := (dC, dI)) (ci := 12) (v := .int 4) (C := R_Mo) (T := F_Mo) (N := 87) hx hb hts (fun w h => List.mem_cons_of_mem _ (in_Mo w h)) hown hK.1 hP 0 rfl rfl 59 (by decide) (hts _ (List.mem_cons_of_mem _ mw_1845)) (fun _ h9 => h9) hm_state d_Mo_stop_8 ?_
  refine lv_iconst (v := 2) hx hb d_Mo_stop_11 (by decide) ?_
  refine lv_icmp_eq (tgt := 17) hx hb d_Mo_stop_12 (by decide) (fun h => absurd h (by decide)) (fun _ => ?_)
  refine lv_iconst (v := 0) hx hb d_Mo_stop_15 (by decide) ?_
  exact W.zret (v := 0) (ty := .boolean) hx hb hr (by decide) (fun t ht hW => ⟨⟨_, (), rfl, (rfl), trivial⟩, hS.F ht⟩) hS.2.2 d_Mo_stop_16
theorem d_Mo_start_0 : decode b_Mo_start 0 = .ok (.iconst 0, 1) := by decide +kernel
theorem d_Mo_start_1 : decode b_Mo_start 1 = .ok (.istore_n 1, 1) := by decide +kernel
theorem d_Mo_start_2 : decode b_Mo_start 2 = .ok (.iconst 0, 1) := by decide +kernel
theorem d_Mo_start_3 : decode b_Mo_start 3 = .ok (.istore_n 2, 1) := by decide +kernel
theorem d_Mo_start_4 : decode b_Mo_start 4 = .ok (.iload_n 2, 1) := by decide +kernel
theorem d_Mo_start_5 : decode b_Mo_start 5 = .ok (.aload_n 0, 1) := by decide +kernel
theorem d_Mo_start_6 : decode b_Mo_start 6 = .ok (.getfield 16, 3) := by decide +kernel
theorem d_Mo_start_9 : decode b_Mo_start 9 = .ok (.getfield 514, 3) := by decide +kernel
theorem d_Mo_start_12 : decode b_Mo_start 12 = .ok (.if_icmp .ge 60, 3) := by decide +kernel
theorem d_Mo_start_72 : decode b_Mo_start 72 = .ok (.iload_n 1, 1) := by decide +kernel
theorem d_Mo_start_73 : decode b_Mo_start 73 = .ok (.ifCond .ne 5, 3) := by decide +kernel
theorem d_Mo_start_76 : decode b_Mo_start 76 = .ok (.iconst 0, 1) := by decide +kernel
theorem d_Mo_start_77 : decode b_Mo_start 77 = .ok (.ireturn, 1) := by decide +kernel
set_option maxHeartbeats 4000000 in
set_option maxRecDepth 100000 in
theorem c_Mo_start (l : Launch) (dC : Nat → ClassId) (dI : Nat → Nat → Nat) (cI cB cZ cJ : ClassId) (oM : Nat) (oT : Nat) (fm : List Value) (hm_program : fm[2]? = some (.ref oT)) (ft : List Value) (ht_topCount : ft[31]? = some (.int 0)) (sz : Nat) : Met l y_Mo_start w_Mo_start ({ frames := 0, cells := 0, slots := 0, locals := 0 }) (va_Pc [.ref oM] (PW dC dI cI cB cZ cJ [(oM, .inr (12, fm)), (oT, .inr (13, ft))] sz)) (va_Qi (fun (r : Int32) (_ : Unit) => r = 0) (fun _ _ => True) (va_A [] sz)) 0 0 (va_A [] sz) := by
  refine Met.ofW (cc := b_Mo_start) (maxL := 5) (ret := (some .boolean)) (by decide) rfl ?_
  intro p e s m args below meth c s₁ B hml hv
  obtain ⟨rfl, hsz, hP, hK, hD⟩ := hv
  have hx := B.exec
  have hb := B.bytes
  have hr := B.returns
  have hts := atoms_spec (ws := w_Mo_start) B.pre
  have hown : s.vm.findClass R_Mo = some m.cls := findClass_of_methodNamed B.named
  have hlocks := B.notSynchronized
  subst hsz
  generalize hAe : va_A [] s.heap.size = A at ⊢
  have hA : ∀ q : Nat, s.heap.size ≤ q → A q := fun q h => by rw [← hAe]; exact Or.inr h
  have hS : va_S A s.heap s.heap [] := va_S.rf
  have hP : va_P (dC, dI) classes [(oM, .inr (12, fm)), (oT, .inr (13, ft))] s.heap := hP
  have hl := lv_entry ([.ref oM]) (n := 5) (Nat.le_of_ble_eq_true rfl)
  rw [lg_entry_eq]
  generalize (lg_sl ([.ref oM]) ++ List.replicate (5 - (lg_sl ([.ref oM])).length) Slot.unset).toArray = ls at hl ⊢
  have hl : lv_has ls 5 [(0, .ref oM)] := hl
  refine lv_iconst (v := 0) hx hb d_Mo_start_0 (by decide) ?_
  refine lv_istore_n hx hb d_Mo_start_1 rfl hl (by decide) rfl (fun ls hl => ?_)
  have hl : lv_has ls 5 [(1, .int 0), (0, .ref oM)] := hl
  refine lv_iconst (v := 0) hx hb d_Mo_start_2 (by decide) ?_
  refine lv_istore_n hx hb d_Mo_start_3 rfl hl (by decide) rfl (fun ls hl => ?_)
  have hl : lv_has ls 5 [(2, .int 0), (1, .int 0), (0, .ref oM)] := hl
  refine lv_iload_n hx hb d_Mo_start_4 rfl (lv_at hl 0 rfl) ?_
  refine lv_aload_n hx hb d_Mo_start_5 rfl (lv_at hl 2 rfl) ?_
  refine va_get (D := (dC, dI)) (ci := 12) (v := .ref oT) (C := R_Mo) (T := F_Mo) (N := 87) hx hb hts (fun w h => List.mem_cons_of_mem _ (in_Mo w h)) hown hK.1 hP 0 rfl rfl 2 (by decide) (hts _ (List.mem_cons_of_mem _ mw_1788)) (fun _ h9 => h9) hm_program d_Mo_start_6 ?_
  refine va_getN (D := (dC, dI)) (ci := 13) (v := .int 0) (C := R_Tx) (T := F_Tx) (N := 39) hx hb hts (fun w h => List.mem_cons_of_mem _ (in_Tx w h)) hown hK.1 hP 1 rfl rfl 31 (by decide) (va_Nw.use rfl (hK.2 _ nw_1610)) (fun _ h9 => h9) ht_topCount d_Mo_start_9 ?_
  refine lv_icmp_ge (tgt := 72) hx hb d_Mo_start_12 (by decide) (fun _ => ?_) (fun h => absurd (by decide) h)
  refine lv_iload_n hx hb d_Mo_start_72 rfl (lv_at hl 1 rfl) ?_
  refine lv_if_ne (tgt := 78) hx hb d_Mo_start_73 (by decide) (fun h => absurd rfl h) (fun _ => ?_)
  refine lv_iconst (v := 0) hx hb d_Mo_start_76 (by decide) ?_
  exact W.zret (v := 0) (ty := .boolean) hx hb hr (by decide) (fun t ht hW => ⟨⟨_, (), rfl, (rfl), trivial⟩, hS.F ht⟩) hS.2.2 d_Mo_start_77
theorem d_Mr_isRow_0 : decode b_Mr_isRow 0 = .ok (.iload_n 1, 1) := by decide +kernel
theorem d_Mr_isRow_1 : decode b_Mr_isRow 1 = .ok (.iconst 1, 1) := by decide +kernel
theorem d_Mr_isRow_2 : decode b_Mr_isRow 2 = .ok (.if_icmp .lt 15, 3) := by decide +kernel
theorem d_Mr_isRow_5 : decode b_Mr_isRow 5 = .ok (.iload_n 1, 1) := by decide +kernel
theorem d_Mr_isRow_6 : decode b_Mr_isRow 6 = .ok (.aload_n 0, 1) := by decide +kernel
theorem d_Mr_isRow_7 : decode b_Mr_isRow 7 = .ok (.getfield 133, 3) := by decide +kernel
theorem d_Mr_isRow_10 : decode b_Mr_isRow 10 = .ok (.if_icmp .gt 7, 3) := by decide +kernel
theorem d_Mr_isRow_17 : decode b_Mr_isRow 17 = .ok (.iconst 0, 1) := by decide +kernel
theorem d_Mr_isRow_18 : decode b_Mr_isRow 18 = .ok (.ireturn, 1) := by decide +kernel
set_option maxHeartbeats 4000000 in
set_option maxRecDepth 100000 in
theorem c_Mr_isRow (l : Launch) (dC : Nat → ClassId) (dI : Nat → Nat → Nat) (cI cB cZ cJ : ClassId) (rr : Int32) (oR : Nat) (fr : List Value) (hr_rows : fr[20]? = some (.int 0)) (sz : Nat) : Met l y_Mr_isRow w_Mr_isRow ({ frames := 0, cells := 0, slots := 0, locals := 0 }) (va_Pc [.ref oR, .int rr] (PW dC dI cI cB cZ cJ [(oR, .inr (14, fr))] sz)) (va_Qi (fun (r : Int32) (_ : Unit) => r = 0) (fun _ _ => True) (va_A [] sz)) 0 0 (va_A [] sz) := by
  refine Met.ofW (cc := b_Mr_isRow) (maxL := 2) (ret := (some .boolean)) (by decide) rfl ?_
  intro p e s m args below meth c s₁ B hml hv
  obtain ⟨rfl, hsz, hP, hK, hD⟩ := hv
  have hx := B.exec
  have hb := B.bytes
  have hr := B.returns
  have hts := atoms_spec (ws := w_Mr_isRow) B.pre
  have hown : s.vm.findClass R_Mr = some m.cls := findClass_of_methodNamed B.named
  have hlocks := B.notSynchronized
  subst hsz
  generalize hAe : va_A [] s.heap.size = A at ⊢
  have hA : ∀ q : Nat, s.heap.size ≤ q → A q := fun q h => by rw [← hAe]; exact Or.inr h
  have hS : va_S A s.heap s.heap [] := va_S.rf
  have hP : va_P (dC, dI) classes [(oR, .inr (14, fr))] s.heap := hP
  have hl := lv_entry ([.ref oR, .int rr]) (n := 2) (Nat.le_of_ble_eq_true rfl)
  rw [lg_entry_eq]
  generalize (lg_sl ([.ref oR, .int rr]) ++ List.replicate (2 - (lg_sl ([.ref oR, .int rr])).length) Slot.unset).toArray = ls at hl ⊢
  have hl : lv_has ls 2 [(0, .ref oR), (1, .int rr)] := hl
  refine lv_iload_n hx hb d_Mr_isRow_0 rfl (lv_at hl 1 rfl) ?_
  refine lv_iconst (v := 1) hx hb d_Mr_isRow_1 (by decide) ?_
  refine lv_icmp_lt (tgt := 17) hx hb d_Mr_isRow_2 (by decide) (fun h2 => ?_) (fun h2 => ?_)
  · refine lv_iconst (v := 0) hx hb d_Mr_isRow_17 (by decide) ?_
    exact W.zret (v := 0) (ty := .boolean) hx hb hr (by decide) (fun t ht hW => ⟨⟨_, (), rfl, (rfl), trivial⟩, hS.F ht⟩) hS.2.2 d_Mr_isRow_18
  · refine lv_iload_n hx hb d_Mr_isRow_5 rfl (lv_at hl 1 rfl) ?_
    refine lv_aload_n hx hb d_Mr_isRow_6 rfl (lv_at hl 0 rfl) ?_
    refine va_get (D := (dC, dI)) (ci := 14) (v := .int 0) (C := R_Mr) (T := F_Mr) (N := 25) hx hb hts (fun w h => List.mem_cons_of_mem _ (in_Mr w h)) hown hK.1 hP 0 rfl rfl 20 (by decide) (hts _ (List.mem_cons_of_mem _ mw_1724)) (fun _ h9 => h9) hr_rows d_Mr_isRow_7 ?_
    refine lv_icmp_gt (tgt := 17) hx hb d_Mr_isRow_10 (by decide) (fun _ => ?_) (fun h => absurd (nd_lt h2 (by decide)) h)
    refine lv_iconst (v := 0) hx hb d_Mr_isRow_17 (by decide) ?_
    exact W.zret (v := 0) (ty := .boolean) hx hb hr (by decide) (fun t ht hW => ⟨⟨_, (), rfl, (rfl), trivial⟩, hS.F ht⟩) hS.2.2 d_Mr_isRow_18
theorem d_Mr_pass_0 : decode b_Mr_pass 0 = .ok (.aload_n 0, 1) := by decide +kernel
theorem d_Mr_pass_1 : decode b_Mr_pass 1 = .ok (.iload_n 1, 1) := by decide +kernel
theorem d_Mr_pass_2 : decode b_Mr_pass 2 = .ok (.invokevirtual 151, 3) := by decide +kernel
theorem d_Mr_pass_5 : decode b_Mr_pass 5 = .ok (.ifCond .ne 5, 3) := by decide +kernel
theorem d_Mr_pass_8 : decode b_Mr_pass 8 = .ok (.iconst (-1), 1) := by decide +kernel
theorem d_Mr_pass_9 : decode b_Mr_pass 9 = .ok (.ireturn, 1) := by decide +kernel
set_option maxHeartbeats 4000000 in
set_option maxRecDepth 100000 in
theorem c_Mr_pass (l : Launch) (dC : Nat → ClassId) (dI : Nat → Nat → Nat) (cI cB cZ cJ : ClassId) (rr : Int32) (pa : Int32) (pb : Int32) (se : Int32) (oR : Nat) (fr : List Value) (hr_rows : fr[20]? = some (.int 0)) (sz : Nat) : Met l y_Mr_pass w_Mr_pass ({ frames := 1, cells := 0, slots := 0, locals := 21 }) (va_Pc [.ref oR, .int rr, .int pa, .int pb, .int se] (PW dC dI cI cB cZ cJ [(oR, .inr (14, fr))] sz)) (va_Qi (fun (r : Int32) (_ : Unit) => r = (-1)) (fun _ _ => True) (va_A [] sz)) 0 0 (va_A [] sz) := by
  refine Met.ofW (cc := b_Mr_pass) (maxL := 5) (ret := (some .int)) (by decide) rfl ?_
  intro p e s m args below meth c s₁ B hml hv
  obtain ⟨rfl, hsz, hP, hK, hD⟩ := hv
  have hx := B.exec
  have hb := B.bytes
  have hr := B.returns
  have hts := atoms_spec (ws := w_Mr_pass) B.pre
  have hown : s.vm.findClass R_Mr = some m.cls := findClass_of_methodNamed B.named
  have hlocks := B.notSynchronized
  subst hsz
  generalize hAe : va_A [] s.heap.size = A at ⊢
  have hA : ∀ q : Nat, s.heap.size ≤ q → A q := fun q h => by rw [← hAe]; exact Or.inr h
  have hS : va_S A s.heap s.heap [] := va_S.rf
  have hP : va_P (dC, dI) classes [(oR, .inr (14, fr))] s.heap := hP
  have hl := lv_entry ([.ref oR, .int rr, .int pa, .int pb, .int se]) (n := 5) (Nat.le_of_ble_eq_true rfl)
  rw [lg_entry_eq]
  generalize (lg_sl ([.ref oR, .int rr, .int pa, .int pb, .int se]) ++ List.replicate (5 - (lg_sl ([.ref oR, .int rr, .int pa, .int pb, .int se])).length) Slot.unset).toArray = ls at hl ⊢
  have hl : lv_has ls 5 [(0, .ref oR), (1, .int rr), (2, .int pa), (3, .int pb), (4, .int se)] := hl
  refine lv_aload_n hx hb d_Mr_pass_0 rfl (lv_at hl 0 rfl) ?_
  refine lv_iload_n hx hb d_Mr_pass_1 rfl (lv_at hl 1 rfl) ?_
  have hPc := hP.sub (ws' := [(oR, .inr (14, fr))]) [0] rfl
  have hDc := hD.sub (ws' := [(oR, .inr (14, fr))]) [0] (by decide) rfl
  have hFc := pu_free hS hA
  refine va_calli (va_runV (C := R_Mr) (As := [.int rr]) (rest := []) ⟨hx, hb, hml, hown, hts⟩ (c_Mr_isRow l dC dI cI cB cZ cJ rr oR fr hr_rows s.heap.size) (cwV 1 hts (tb_V mw_2545 mw_2547 sl_172 mw_20 mw_2548) rfl rfl rfl ⟨rfl, by decide +kernel, by decide +kernel, by decide +kernel⟩ ⟨(Nat.le_of_ble_eq_true rfl), (Nat.le_of_ble_eq_true rfl)⟩) ⟨pw_blind, va_recv (q := (R_Mr, F_Mr, 25)) hK.1 hP (ci := 14) (q0 := 0) rfl rfl, pw_pre hPc hK hDc⟩ rfl rfl hl.1 rfl (lv_room (Nat.le_of_ble_eq_true rfl)) d_Mr_pass_2 ⟨(Nat.le_of_ble_eq_true rfl), (Nat.le_of_ble_eq_true rfl)⟩) hS (fun q _ h => hFc q h) hFc (fun r u t H locs ht hvm hw hB hz1 hk1 hS => ?_)
  have hP := pu_kept hP hk1
  obtain rfl : r = 0 := hw
  refine lv_if_ne (tgt := 10) hx hb d_Mr_pass_5 (by decide) (fun h => absurd rfl h) (fun _ => ?_)
  refine lv_iconst (v := (-1)) hx hb d_Mr_pass_8 (by decide) ?_
  exact W.iret (v := (-1)) hx hb hr (fun t ht hW => ⟨⟨_, (), rfl, (rfl), trivial⟩, hS.F ht⟩) hS.2.2 d_Mr_pass_9
theorem d_Mr_reset_0 : decode b_Mr_reset 0 = .ok (.aload_n 0, 1) := by decide +kernel
theorem d_Mr_reset_1 : decode b_Mr_reset 1 = .ok (.iload_n 1, 1) := by decide +kernel
theorem d_Mr_reset_2 : decode b_Mr_reset 2 = .ok (.invokevirtual 151, 3) := by decide +kernel
theorem d_Mr_reset_5 : decode b_Mr_reset 5 = .ok (.ifCond .eq 24, 3) := by decide +kernel
theorem d_Mr_reset_29 : decode b_Mr_reset 29 = .ok (.iconst 0, 1) := by decide +kernel
theorem d_Mr_reset_30 : decode b_Mr_reset 30 = .ok (.ireturn, 1) := by decide +kernel
set_option maxHeartbeats 4000000 in
set_option maxRecDepth 100000 in
theorem c_Mr_reset (l : Launch) (dC : Nat → ClassId) (dI : Nat → Nat → Nat) (cI cB cZ cJ : ClassId) (rr : Int32) (oR : Nat) (fr : List Value) (hr_rows : fr[20]? = some (.int 0)) (sz : Nat) : Met l y_Mr_reset w_Mr_reset ({ frames := 1, cells := 0, slots := 0, locals := 21 }) (va_Pc [.ref oR, .int rr] (PW dC dI cI cB cZ cJ [(oR, .inr (14, fr))] sz)) (va_Qi (fun (r : Int32) (_ : Unit) => r = 0) (fun _ _ => True) (va_A [] sz)) 0 0 (va_A [] sz) := by
  refine Met.ofW (cc := b_Mr_reset) (maxL := 2) (ret := (some .boolean)) (by decide) rfl ?_
  intro p e s m args below meth c s₁ B hml hv
  obtain ⟨rfl, hsz, hP, hK, hD⟩ := hv
  have hx := B.exec
  have hb := B.bytes
  have hr := B.returns
  have hts := atoms_spec (ws := w_Mr_reset) B.pre
  have hown : s.vm.findClass R_Mr = some m.cls := findClass_of_methodNamed B.named
  have hlocks := B.notSynchronized
  subst hsz
  generalize hAe : va_A [] s.heap.size = A at ⊢
  have hA : ∀ q : Nat, s.heap.size ≤ q → A q := fun q h => by rw [← hAe]; exact Or.inr h
  have hS : va_S A s.heap s.heap [] := va_S.rf
  have hP : va_P (dC, dI) classes [(oR, .inr (14, fr))] s.heap := hP
  have hl := lv_entry ([.ref oR, .int rr]) (n := 2) (Nat.le_of_ble_eq_true rfl)
  rw [lg_entry_eq]
  generalize (lg_sl ([.ref oR, .int rr]) ++ List.replicate (2 - (lg_sl ([.ref oR, .int rr])).length) Slot.unset).toArray = ls at hl ⊢
  have hl : lv_has ls 2 [(0, .ref oR), (1, .int rr)] := hl
  refine lv_aload_n hx hb d_Mr_reset_0 rfl (lv_at hl 0 rfl) ?_
  refine lv_iload_n hx hb d_Mr_reset_1 rfl (lv_at hl 1 rfl) ?_
  have hPc := hP.sub (ws' := [(oR, .inr (14, fr))]) [0] rfl
  have hDc := hD.sub (ws' := [(oR, .inr (14, fr))]) [0] (by decide) rfl
  have hFc := pu_free hS hA
  refine va_calli (va_runV (C := R_Mr) (As := [.int rr]) (rest := []) ⟨hx, hb, hml, hown, hts⟩ (c_Mr_isRow l dC dI cI cB cZ cJ rr oR fr hr_rows s.heap.size) (cwV 1 hts (tb_V mw_2545 mw_2547 sl_172 mw_20 mw_2548) rfl rfl rfl ⟨rfl, by decide +kernel, by decide +kernel, by decide +kernel⟩ ⟨(Nat.le_of_ble_eq_true rfl), (Nat.le_of_ble_eq_true rfl)⟩) ⟨pw_blind, va_recv (q := (R_Mr, F_Mr, 25)) hK.1 hP (ci := 14) (q0 := 0) rfl rfl, pw_pre hPc hK hDc⟩ rfl rfl hl.1 rfl (lv_room (Nat.le_of_ble_eq_true rfl)) d_Mr_reset_2 ⟨(Nat.le_of_ble_eq_true rfl), (Nat.le_of_ble_eq_true rfl)⟩) hS (fun q _ h => hFc q h) hFc (fun r u t H locs ht hvm hw hB hz1 hk1 hS => ?_)
  have hP := pu_kept hP hk1
  obtain rfl : r = 0 := hw
  refine lv_if_eq (tgt := 29) hx hb d_Mr_reset_5 (by decide) (fun _ => ?_) (fun h => absurd (by decide) h)
  refine lv_iconst (v := 0) hx hb d_Mr_reset_29 (by decide) ?_
  exact W.zret (v := 0) (ty := .boolean) hx hb hr (by decide) (fun t ht hW => ⟨⟨_, (), rfl, (rfl), trivial⟩, hS.F ht⟩) hS.2.2 d_Mr_reset_30
theorem d_Mr_act1_0 : decode b_Mr_act1 0 = .ok (.iload_n 1, 1) := by decide +kernel
theorem d_Mr_act1_1 : decode b_Mr_act1 1 = .ok (.ifCond .lt 9, 3) := by decide +kernel
theorem d_Mr_act1_4 : decode b_Mr_act1 4 = .ok (.iload_n 1, 1) := by decide +kernel
theorem d_Mr_act1_5 : decode b_Mr_act1 5 = .ok (.bipush 31, 2) := by decide +kernel
theorem d_Mr_act1_7 : decode b_Mr_act1 7 = .ok (.if_icmp .le 5, 3) := by decide +kernel
theorem d_Mr_act1_10 : decode b_Mr_act1 10 = .ok (.iconst (-1), 1) := by decide +kernel
theorem d_Mr_act1_11 : decode b_Mr_act1 11 = .ok (.ireturn, 1) := by decide +kernel
theorem d_Mr_act1_12 : decode b_Mr_act1 12 = .ok (.iconst 0, 1) := by decide +kernel
theorem d_Mr_act1_13 : decode b_Mr_act1 13 = .ok (.istore_n 2, 1) := by decide +kernel
theorem d_Mr_act1_14 : decode b_Mr_act1 14 = .ok (.iload_n 2, 1) := by decide +kernel
theorem d_Mr_act1_15 : decode b_Mr_act1 15 = .ok (.aload_n 0, 1) := by decide +kernel
theorem d_Mr_act1_16 : decode b_Mr_act1 16 = .ok (.getfield 133, 3) := by decide +kernel
theorem d_Mr_act1_19 : decode b_Mr_act1 19 = .ok (.if_icmp .ge 81, 3) := by decide +kernel
theorem d_Mr_act1_100 : decode b_Mr_act1 100 = .ok (.iconst 0, 1) := by decide +kernel
theorem d_Mr_act1_101 : decode b_Mr_act1 101 = .ok (.ireturn, 1) := by decide +kernel
def fn_Mr_act1 (ak : Int32) : Int32 := (if ak < 0 then (-1) else (if ak ≤ 31 then 0 else (-1)))
set_option maxHeartbeats 4000000 in
set_option maxRecDepth 100000 in
theorem c_Mr_act1 (l : Launch) (dC : Nat → ClassId) (dI : Nat → Nat → Nat) (cI cB cZ cJ : ClassId) (ak : Int32) (oR : Nat) (fr : List Value) (hr_rows : fr[20]? = some (.int 0)) (sz : Nat) : Met l y_Mr_act1 w_Mr_act1 ({ frames := 0, cells := 0, slots := 0, locals := 0 }) (va_Pc [.ref oR, .int ak] (PW dC dI cI cB cZ cJ [(oR, .inr (14, fr))] sz)) (va_Qi (fun (r : Int32) (_ : Unit) => r = fn_Mr_act1 ak) (fun _ _ => True) (va_A [] sz)) 0 0 (va_A [] sz) := by
  refine Met.ofW (cc := b_Mr_act1) (maxL := 4) (ret := (some .int)) (by decide) rfl ?_
  intro p e s m args below meth c s₁ B hml hv
  obtain ⟨rfl, hsz, hP, hK, hD⟩ := hv
  have hx := B.exec
  have hb := B.bytes
  have hr := B.returns
  have hts := atoms_spec (ws := w_Mr_act1) B.pre
  have hown : s.vm.findClass R_Mr = some m.cls := findClass_of_methodNamed B.named
  have hlocks := B.notSynchronized
  subst hsz
  generalize hAe : va_A [] s.heap.size = A at ⊢
  have hA : ∀ q : Nat, s.heap.size ≤ q → A q := fun q h => by rw [← hAe]; exact Or.inr h
  have hS : va_S A s.heap s.heap [] := va_S.rf
  have hP : va_P (dC, dI) classes [(oR, .inr (14, fr))] s.heap := hP
  have hl := lv_entry ([.ref oR, .int ak]) (n := 4) (Nat.le_of_ble_eq_true rfl)
  rw [lg_entry_eq]
  generalize (lg_sl ([.ref oR, .int ak]) ++ List.replicate (4 - (lg_sl ([.ref oR, .int ak])).length) Slot.unset).toArray = ls at hl ⊢
  have hl : lv_has ls 4 [(0, .ref oR), (1, .int ak)] := hl
  refine lv_iload_n hx hb d_Mr_act1_0 rfl (lv_at hl 1 rfl) ?_
  refine lv_if_lt (tgt := 10) hx hb d_Mr_act1_1 (by decide) (fun h1 => ?_) (fun h1 => ?_)
  · refine lv_iconst (v := (-1)) hx hb d_Mr_act1_10 (by decide) ?_
    exact W.iret (v := (-1)) hx hb hr (fun t ht hW => ⟨⟨_, (), rfl, (by unfold fn_Mr_act1; rw [if_pos h1]), trivial⟩, hS.F ht⟩) hS.2.2 d_Mr_act1_11
  · refine lv_iload_n hx hb d_Mr_act1_4 rfl (lv_at hl 1 rfl) ?_
    refine lv_bipush (v := 31) hx hb d_Mr_act1_5 (by decide) ?_
    refine lv_icmp_le (tgt := 12) hx hb d_Mr_act1_7 (by decide) (fun h7 => ?_) (fun h7 => ?_)
    · refine lv_iconst (v := 0) hx hb d_Mr_act1_12 (by decide) ?_
      refine lv_istore_n hx hb d_Mr_act1_13 rfl hl (by decide) rfl (fun ls hl => ?_)
      have hl : lv_has ls 4 [(2, .int 0), (0, .ref oR), (1, .int ak)] := hl
      refine lv_iload_n hx hb d_Mr_act1_14 rfl (lv_at hl 0 rfl) ?_
      refine lv_aload_n hx hb d_Mr_act1_15 rfl (lv_at hl 1 rfl) ?_
      refine va_get (D := (dC, dI)) (ci := 14) (v := .int 0) (C := R_Mr) (T := F_Mr) (N := 25) hx hb hts (fun w h => List.mem_cons_of_mem _ (in_Mr w h)) hown hK.1 hP 0 rfl rfl 20 (by decide) (hts _ (List.mem_cons_of_mem _ mw_1724)) (fun _ h9 => h9) hr_rows d_Mr_act1_16 ?_
      refine lv_icmp_ge (tgt := 100) hx hb d_Mr_act1_19 (by decide) (fun _ => ?_) (fun h => absurd (by decide) h)
      refine lv_iconst (v := 0) hx hb d_Mr_act1_100 (by decide) ?_
      exact W.iret (v := 0) hx hb hr (fun t ht hW => ⟨⟨_, (), rfl, (by unfold fn_Mr_act1; rw [if_neg h1, if_pos h7]), trivial⟩, hS.F ht⟩) hS.2.2 d_Mr_act1_101
    · refine lv_iconst (v := (-1)) hx hb d_Mr_act1_10 (by decide) ?_
      exact W.iret (v := (-1)) hx hb hr (fun t ht hW => ⟨⟨_, (), rfl, (by unfold fn_Mr_act1; rw [if_neg h1, if_neg h7]), trivial⟩, hS.F ht⟩) hS.2.2 d_Mr_act1_11
theorem d_Mo_pass_0 : decode b_Mo_pass 0 = .ok (.aload_n 0, 1) := by decide +kernel
theorem d_Mo_pass_1 : decode b_Mo_pass 1 = .ok (.getfield 23, 3) := by decide +kernel
theorem d_Mo_pass_4 : decode b_Mo_pass 4 = .ok (.iload_n 1, 1) := by decide +kernel
theorem d_Mo_pass_5 : decode b_Mo_pass 5 = .ok (.iload_n 2, 1) := by decide +kernel
theorem d_Mo_pass_6 : decode b_Mo_pass 6 = .ok (.iload_n 3, 1) := by decide +kernel
theorem d_Mo_pass_7 : decode b_Mo_pass 7 = .ok (.iload 4, 2) := by decide +kernel
theorem d_Mo_pass_9 : decode b_Mo_pass 9 = .ok (.invokevirtual 463, 3) := by decide +kernel
theorem d_Mo_pass_12 : decode b_Mo_pass 12 = .ok (.ireturn, 1) := by decide +kernel
set_option maxHeartbeats 4000000 in
set_option maxRecDepth 100000 in
theorem c_Mo_pass (l : Launch) (dC : Nat → ClassId) (dI : Nat → Nat → Nat) (cI cB cZ cJ : ClassId) (rr : Int32) (pa : Int32) (pb : Int32) (se : Int32) (oM : Nat) (oR : Nat) (fm : List Value) (hm_interlocks : fm[3]? = some (.ref oR)) (fr : List Value) (hr_rows : fr[20]? = some (.int 0)) (sz : Nat) : Met l y_Mo_pass w_Mo_pass ({ frames := 2, cells := 0, slots := 0, locals := 45 }) (va_Pc [.ref oM, .int rr, .int pa, .int pb, .int se] (PW dC dI cI cB cZ cJ [(oM, .inr (12, fm)), (oR, .inr (14, fr))] sz)) (va_Qi (fun (r : Int32) (_ : Unit) => r = (-1)) (fun _ _ => True) (va_A [] sz)) 0 0 (va_A [] sz) := by
  refine Met.ofW (cc := b_Mo_pass) (maxL := 5) (ret := (some .int)) (by decide) rfl ?_
  intro p e s m args below meth c s₁ B hml hv
  obtain ⟨rfl, hsz, hP, hK, hD⟩ := hv
  have hx := B.exec
  have hb := B.bytes
  have hr := B.returns
  have hts := atoms_spec (ws := w_Mo_pass) B.pre
  have hown : s.vm.findClass R_Mo = some m.cls := findClass_of_methodNamed B.named
  have hlocks := B.notSynchronized
  subst hsz
  generalize hAe : va_A [] s.heap.size = A at ⊢
  have hA : ∀ q : Nat, s.heap.size ≤ q → A q := fun q h => by rw [← hAe]; exact Or.inr h
  have hS : va_S A s.heap s.heap [] := va_S.rf
  have hP : va_P (dC, dI) classes [(oM, .inr (12, fm)), (oR, .inr (14, fr))] s.heap := hP
  have hl := lv_entry ([.ref oM, .int rr, .int pa, .int pb, .int se]) (n := 5) (Nat.le_of_ble_eq_true rfl)
  rw [lg_entry_eq]
  generalize (lg_sl ([.ref oM, .int rr, .int pa, .int pb, .int se]) ++ List.replicate (5 - (lg_sl ([.ref oM, .int rr, .int pa, .int pb, .int se])).length) Slot.unset).toArray = ls at hl ⊢
  have hl : lv_has ls 5 [(0, .ref oM), (1, .int rr), (2, .int pa), (3, .int pb), (4, .int se)] := hl
  refine lv_aload_n hx hb d_Mo_pass_0 rfl (lv_at hl 0 rfl) ?_
  refine va_get (D := (dC, dI)) (ci := 12) (v := .ref oR) (C := R_Mo) (T := F_Mo) (N := 87) hx hb hts (fun w h => List.mem_cons_of_mem _ (in_Mo w h)) hown hK.1 hP 0 rfl rfl 3 (by decide) (hts _ (List.mem_cons_of_mem _ mw_1789)) (fun _ h9 => h9) hm_interlocks d_Mo_pass_1 ?_
  refine lv_iload_n hx hb d_Mo_pass_4 rfl (lv_at hl 1 rfl) ?_
  refine lv_iload_n hx hb d_Mo_pass_5 rfl (lv_at hl 2 rfl) ?_
  refine lv_iload_n hx hb d_Mo_pass_6 rfl (lv_at hl 3 rfl) ?_
  refine lv_iload hx hb d_Mo_pass_7 (lv_at hl 4 rfl) ?_
  have hPc := hP.sub (ws' := [(oR, .inr (14, fr))]) [1] rfl
  have hDc := hD.sub (ws' := [(oR, .inr (14, fr))]) [1] (by decide) rfl
  have hFc := pu_free hS hA
  refine va_calli (va_runV (C := R_Mr) (As := [.int rr, .int pa, .int pb, .int se]) (rest := []) ⟨hx, hb, hml, hown, hts⟩ (c_Mr_pass l dC dI cI cB cZ cJ rr pa pb se oR fr hr_rows s.heap.size) (cwV 4 hts (tb_V mw_2541 mw_2542 mw_2543 mw_20 mw_2544) rfl rfl rfl ⟨rfl, by decide +kernel, by decide +kernel, by decide +kernel⟩ ⟨(Nat.le_of_ble_eq_true rfl), (Nat.le_of_ble_eq_true rfl)⟩) ⟨pw_blind, va_recv (q := (R_Mr, F_Mr, 25)) hK.1 hP (ci := 14) (q0 := 1) rfl rfl, pw_pre hPc hK hDc⟩ rfl rfl hl.1 rfl (lv_room (Nat.le_of_ble_eq_true rfl)) d_Mo_pass_9 ⟨(Nat.le_of_ble_eq_true rfl), (Nat.le_of_ble_eq_true rfl)⟩) hS (fun q _ h => hFc q h) hFc (fun r u t H locs ht hvm hw hB hz1 hk1 hS => ?_)
  have hP := pu_kept hP hk1
  obtain rfl : r = (-1) := hw
  exact W.iret (v := (-1)) hx hb hr (fun t ht hW => ⟨⟨_, (), rfl, (rfl), trivial⟩, hS.F ht⟩) hS.2.2 d_Mo_pass_12
theorem d_Mo_reset_0 : decode b_Mo_reset 0 = .ok (.aload_n 0, 1) := by decide +kernel
theorem d_Mo_reset_1 : decode b_Mo_reset 1 = .ok (.getfield 23, 3) := by decide +kernel
theorem d_Mo_reset_4 : decode b_Mo_reset 4 = .ok (.iload_n 1, 1) := by decide +kernel
theorem d_Mo_reset_5 : decode b_Mo_reset 5 = .ok (.invokevirtual 467, 3) := by decide +kernel
theorem d_Mo_reset_8 : decode b_Mo_reset 8 = .ok (.ireturn, 1) := by decide +kernel
set_option maxHeartbeats 4000000 in
set_option maxRecDepth 100000 in
theorem c_Mo_reset (l : Launch) (dC : Nat → ClassId) (dI : Nat → Nat → Nat) (cI cB cZ cJ : ClassId) (rr : Int32) (oM : Nat) (oR : Nat) (fm : List Value) (hm_interlocks : fm[3]? = some (.ref oR)) (fr : List Value) (hr_rows : fr[20]? = some (.int 0)) (sz : Nat) : Met l y_Mo_reset w_Mo_reset ({ frames := 2, cells := 0, slots := 0, locals := 42 }) (va_Pc [.ref oM, .int rr] (PW dC dI cI cB cZ cJ [(oM, .inr (12, fm)), (oR, .inr (14, fr))] sz)) (va_Qi (fun (r : Int32) (_ : Unit) => r = 0) (fun _ _ => True) (va_A [] sz)) 0 0 (va_A [] sz) := by
  refine Met.ofW (cc := b_Mo_reset) (maxL := 2) (ret := (some .boolean)) (by decide) rfl ?_
  intro p e s m args below meth c s₁ B hml hv
  obtain ⟨rfl, hsz, hP, hK, hD⟩ := hv
  have hx := B.exec
  have hb := B.bytes
  have hr := B.returns
  have hts := atoms_spec (ws := w_Mo_reset) B.pre
  have hown : s.vm.findClass R_Mo = some m.cls := findClass_of_methodNamed B.named
  have hlocks := B.notSynchronized
  subst hsz
  generalize hAe : va_A [] s.heap.size = A at ⊢
  have hA : ∀ q : Nat, s.heap.size ≤ q → A q := fun q h => by rw [← hAe]; exact Or.inr h
  have hS : va_S A s.heap s.heap [] := va_S.rf
  have hP : va_P (dC, dI) classes [(oM, .inr (12, fm)), (oR, .inr (14, fr))] s.heap := hP
  have hl := lv_entry ([.ref oM, .int rr]) (n := 2) (Nat.le_of_ble_eq_true rfl)
  rw [lg_entry_eq]
  generalize (lg_sl ([.ref oM, .int rr]) ++ List.replicate (2 - (lg_sl ([.ref oM, .int rr])).length) Slot.unset).toArray = ls at hl ⊢
  have hl : lv_has ls 2 [(0, .ref oM), (1, .int rr)] := hl
  refine lv_aload_n hx hb d_Mo_reset_0 rfl (lv_at hl 0 rfl) ?_
  refine va_get (D := (dC, dI)) (ci := 12) (v := .ref oR) (C := R_Mo) (T := F_Mo) (N := 87) hx hb hts (fun w h => List.mem_cons_of_mem _ (in_Mo w h)) hown hK.1 hP 0 rfl rfl 3 (by decide) (hts _ (List.mem_cons_of_mem _ mw_1789)) (fun _ h9 => h9) hm_interlocks d_Mo_reset_1 ?_
  refine lv_iload_n hx hb d_Mo_reset_4 rfl (lv_at hl 1 rfl) ?_
  have hPc := hP.sub (ws' := [(oR, .inr (14, fr))]) [1] rfl
  have hDc := hD.sub (ws' := [(oR, .inr (14, fr))]) [1] (by decide) rfl
  have hFc := pu_free hS hA
  refine va_calli (va_runV (C := R_Mr) (As := [.int rr]) (rest := []) ⟨hx, hb, hml, hown, hts⟩ (c_Mr_reset l dC dI cI cB cZ cJ rr oR fr hr_rows s.heap.size) (cwV 1 hts (tb_V mw_2553 mw_2554 mw_2555 mw_20 mw_2556) rfl rfl rfl ⟨rfl, by decide +kernel, by decide +kernel, by decide +kernel⟩ ⟨(Nat.le_of_ble_eq_true rfl), (Nat.le_of_ble_eq_true rfl)⟩) ⟨pw_blind, va_recv (q := (R_Mr, F_Mr, 25)) hK.1 hP (ci := 14) (q0 := 1) rfl rfl, pw_pre hPc hK hDc⟩ rfl rfl hl.1 rfl (lv_room (Nat.le_of_ble_eq_true rfl)) d_Mo_reset_5 ⟨(Nat.le_of_ble_eq_true rfl), (Nat.le_of_ble_eq_true rfl)⟩) hS (fun q _ h => hFc q h) hFc (fun r u t H locs ht hvm hw hB hz1 hk1 hS => ?_)
  have hP := pu_kept hP hk1
  obtain rfl : r = 0 := hw
  exact W.zret (v := 0) (ty := .boolean) hx hb hr (by decide) (fun t ht hW => ⟨⟨_, (), rfl, (rfl), trivial⟩, hS.F ht⟩) hS.2.2 d_Mo_reset_8
theorem d_Mo_bars_0 : decode b_Mo_bars 0 = .ok (.aload_n 0, 1) := by decide +kernel
theorem d_Mo_bars_1 : decode b_Mo_bars 1 = .ok (.getfield 23, 3) := by decide +kernel
theorem d_Mo_bars_4 : decode b_Mo_bars 4 = .ok (.iload_n 1, 1) := by decide +kernel
theorem d_Mo_bars_5 : decode b_Mo_bars 5 = .ok (.invokevirtual 424, 3) := by decide +kernel
theorem d_Mo_bars_8 : decode b_Mo_bars 8 = .ok (.ireturn, 1) := by decide +kernel
set_option maxHeartbeats 4000000 in
set_option maxRecDepth 100000 in
theorem c_Mo_bars (l : Launch) (dC : Nat → ClassId) (dI : Nat → Nat → Nat) (cI cB cZ cJ : ClassId) (ak : Int32) (oM : Nat) (oR : Nat) (fm : List Value) (hm_interlocks : fm[3]? = some (.ref oR)) (fr : List Value) (hr_rows : fr[20]? = some (.int 0)) (sz : Nat) : Met l y_Mo_bars w_Mo_bars ({ frames := 1, cells := 0, slots := 0, locals := 23 }) (va_Pc [.ref oM, .int ak] (PW dC dI cI cB cZ cJ [(oM, .inr (12, fm)), (oR, .inr (14, fr))] sz)) (va_Qi (fun (r : Int32) (_ : Unit) => r = fn_Mr_act1 ak) (fun _ _ => True) (va_A [] sz)) 0 0 (va_A [] sz) := by
  refine Met.ofW (cc := b_Mo_bars) (maxL := 2) (ret := (some .int)) (by decide) rfl ?_
  intro p e s m args below meth c s₁ B hml hv
  obtain ⟨rfl, hsz, hP, hK, hD⟩ := hv
  have hx := B.exec
  have hb := B.bytes
  have hr := B.returns
  have hts := atoms_spec (ws := w_Mo_bars) B.pre
  have hown : s.vm.findClass R_Mo = some m.cls := findClass_of_methodNamed B.named
  have hlocks := B.notSynchronized
  subst hsz
  generalize hAe : va_A [] s.heap.size = A at ⊢
  have hA : ∀ q : Nat, s.heap.size ≤ q → A q := fun q h => by rw [← hAe]; exact Or.inr h
  have hS : va_S A s.heap s.heap [] := va_S.rf
  have hP : va_P (dC, dI) classes [(oM, .inr (12, fm)), (oR, .inr (14, fr))] s.heap := hP
  have hl := lv_entry ([.ref oM, .int ak]) (n := 2) (Nat.le_of_ble_eq_true rfl)
  rw [lg_entry_eq]
  generalize (lg_sl ([.ref oM, .int ak]) ++ List.replicate (2 - (lg_sl ([.ref oM, .int ak])).length) Slot.unset).toArray = ls at hl ⊢
  have hl : lv_has ls 2 [(0, .ref oM), (1, .int ak)] := hl
  refine lv_aload_n hx hb d_Mo_bars_0 rfl (lv_at hl 0 rfl) ?_
  refine va_get (D := (dC, dI)) (ci := 12) (v := .ref oR) (C := R_Mo) (T := F_Mo) (N := 87) hx hb hts (fun w h => List.mem_cons_of_mem _ (in_Mo w h)) hown hK.1 hP 0 rfl rfl 3 (by decide) (hts _ (List.mem_cons_of_mem _ mw_1789)) (fun _ h9 => h9) hm_interlocks d_Mo_bars_1 ?_
  refine lv_iload_n hx hb d_Mo_bars_4 rfl (lv_at hl 1 rfl) ?_
  have hPc := hP.sub (ws' := [(oR, .inr (14, fr))]) [1] rfl
  have hDc := hD.sub (ws' := [(oR, .inr (14, fr))]) [1] (by decide) rfl
  have hFc := pu_free hS hA
  refine va_calli (va_runV (C := R_Mr) (As := [.int ak]) (rest := []) ⟨hx, hb, hml, hown, hts⟩ (c_Mr_act1 l dC dI cI cB cZ cJ ak oR fr hr_rows s.heap.size) (cwV 1 hts (tb_V mw_2470 mw_2471 mw_2472 mw_20 mw_2473) rfl rfl rfl ⟨rfl, by decide +kernel, by decide +kernel, by decide +kernel⟩ ⟨(Nat.le_of_ble_eq_true rfl), (Nat.le_of_ble_eq_true rfl)⟩) ⟨pw_blind, va_recv (q := (R_Mr, F_Mr, 25)) hK.1 hP (ci := 14) (q0 := 1) rfl rfl, pw_pre hPc hK hDc⟩ rfl rfl hl.1 rfl (lv_room (Nat.le_of_ble_eq_true rfl)) d_Mo_bars_5 ⟨(Nat.le_of_ble_eq_true rfl), (Nat.le_of_ble_eq_true rfl)⟩) hS (fun q _ h => hFc q h) hFc (fun r u t H locs ht hvm hw hB hz1 hk1 hS => ?_)
  have hP := pu_kept hP hk1
  obtain rfl : r = (fn_Mr_act1 ak) := hw
  exact W.iret (v := (fn_Mr_act1 ak)) hx hb hr (fun t ht hW => ⟨⟨_, (), rfl, (by first | rfl | decide), trivial⟩, hS.F ht⟩) hS.2.2 d_Mo_bars_8
theorem d_Mo_row_0 : decode b_Mo_row 0 = .ok (.iload_n 1, 1) := by decide +kernel
theorem d_Mo_row_1 : decode b_Mo_row 1 = .ok (.iconst 1, 1) := by decide +kernel
theorem d_Mo_row_2 : decode b_Mo_row 2 = .ok (.if_icmp .lt 23, 3) := by decide +kernel
theorem d_Mo_row_5 : decode b_Mo_row 5 = .ok (.iload_n 1, 1) := by decide +kernel
theorem d_Mo_row_6 : decode b_Mo_row 6 = .ok (.aload_n 0, 1) := by decide +kernel
theorem d_Mo_row_7 : decode b_Mo_row 7 = .ok (.getfield 23, 3) := by decide +kernel
theorem d_Mo_row_10 : decode b_Mo_row 10 = .ok (.getfield 470, 3) := by decide +kernel
theorem d_Mo_row_13 : decode b_Mo_row 13 = .ok (.if_icmp .gt 12, 3) := by decide +kernel
theorem d_Mo_row_25 : decode b_Mo_row 25 = .ok (.iconst (-1), 1) := by decide +kernel
theorem d_Mo_row_26 : decode b_Mo_row 26 = .ok (.ireturn, 1) := by decide +kernel
set_option maxHeartbeats 4000000 in
set_option maxRecDepth 100000 in
theorem c_Mo_row (l : Launch) (dC : Nat → ClassId) (dI : Nat → Nat → Nat) (cI cB cZ cJ : ClassId) (kk : Int32) (wh : Int32) (oM : Nat) (oR : Nat) (fm : List Value) (hm_interlocks : fm[3]? = some (.ref oR)) (fr : List Value) (hr_rows : fr[20]? = some (.int 0)) (sz : Nat) : Met l y_Mo_row w_Mo_row ({ frames := 0, cells := 0, slots := 0, locals := 0 }) (va_Pc [.ref oM, .int kk, .int wh] (PW dC dI cI cB cZ cJ [(oM, .inr (12, fm)), (oR, .inr (14, fr))] sz)) (va_Qi (fun (r : Int32) (_ : Unit) => r = (-1)) (fun _ _ => True) (va_A [] sz)) 0 0 (va_A [] sz) := by
  refine Met.ofW (cc := b_Mo_row) (maxL := 3) (ret := (some .int)) (by decide) rfl ?_
  intro p e s m args below meth c s₁ B hml hv
  obtain ⟨rfl, hsz, hP, hK, hD⟩ := hv
  have hx := B.exec
  have hb := B.bytes
  have hr := B.returns
  have hts := atoms_spec (ws := w_Mo_row) B.pre
  have hown : s.vm.findClass R_Mo = some m.cls := findClass_of_methodNamed B.named
  have hlocks := B.notSynchronized
  subst hsz
  generalize hAe : va_A [] s.heap.size = A at ⊢
  have hA : ∀ q : Nat, s.heap.size ≤ q → A q := fun q h => by rw [← hAe]; exact Or.inr h
  have hS : va_S A s.heap s.heap [] := va_S.rf
  have hP : va_P (dC, dI) classes [(oM, .inr (12, fm)), (oR, .inr (14, fr))] s.heap := hP
  have hl := lv_entry ([.ref oM, .int kk, .int wh]) (n := 3) (Nat.le_of_ble_eq_true rfl)
  rw [lg_entry_eq]
  generalize (lg_sl ([.ref oM, .int kk, .int wh]) ++ List.replicate (3 - (lg_sl ([.ref oM, .int kk, .int wh])).length) Slot.unset).toArray = ls at hl ⊢
  have hl : lv_has ls 3 [(0, .ref oM), (1, .int kk), (2, .int wh)] := hl
  refine lv_iload_n hx hb d_Mo_row_0 rfl (lv_at hl 1 rfl) ?_
  refine lv_iconst (v := 1) hx hb d_Mo_row_1 (by decide) ?_
  refine lv_icmp_lt (tgt := 25) hx hb d_Mo_row_2 (by decide) (fun h2 => ?_) (fun h2 => ?_)
  · refine lv_iconst (v := (-1)) hx hb d_Mo_row_25 (by decide) ?_
    exact W.iret (v := (-1)) hx hb hr (fun t ht hW => ⟨⟨_, (), rfl, (rfl), trivial⟩, hS.F ht⟩) hS.2.2 d_Mo_row_26
  · refine lv_iload_n hx hb d_Mo_row_5 rfl (lv_at hl 1 rfl) ?_
    refine lv_aload_n hx hb d_Mo_row_6 rfl (lv_at hl 0 rfl) ?_
    refine va_get (D := (dC, dI)) (ci := 12) (v := .ref oR) (C := R_Mo) (T := F_Mo) (N := 87) hx hb hts (fun w h => List.mem_cons_of_mem _ (in_Mo w h)) hown hK.1 hP 0 rfl rfl 3 (by decide) (hts _ (List.mem_cons_of_mem _ mw_1789)) (fun _ h9 => h9) hm_interlocks d_Mo_row_7 ?_
    refine va_getN (D := (dC, dI)) (ci := 14) (v := .int 0) (C := R_Mr) (T := F_Mr) (N := 25) hx hb hts (fun w h => List.mem_cons_of_mem _ (in_Mr w h)) hown hK.1 hP 1 rfl rfl 20 (by decide) (va_Nw.use rfl (hK.2 _ nw_1725)) (fun _ h9 => h9) hr_rows d_Mo_row_10 ?_
    refine lv_icmp_gt (tgt := 25) hx hb d_Mo_row_13 (by decide) (fun _ => ?_) (fun h => absurd (nd_lt h2 (by decide)) h)
    refine lv_iconst (v := (-1)) hx hb d_Mo_row_25 (by decide) ?_
    exact W.iret (v := (-1)) hx hb hr (fun t ht hW => ⟨⟨_, (), rfl, (rfl), trivial⟩, hS.F ht⟩) hS.2.2 d_Mo_row_26
end
section
abbrev b_Mo_raise : ByteArray := prog_14_method_56_code
def y_Mo_raise : MethodName := ⟨R_Mo, "raise", "(II)V"⟩
abbrev w_Mo_raise : List Cond := .code y_Mo_raise b_Mo_raise 3 none :: lw_gd
abbrev b_Mo_perform : ByteArray := prog_14_method_55_code
def y_Mo_perform : MethodName := ⟨R_Mo, "perform", "(I)I"⟩
abbrev w_Mo_perform : List Cond := .code y_Mo_perform b_Mo_perform 7 (some .int) :: lw_gd
abbrev b_Mo_act : ByteArray := prog_14_method_57_code
def y_Mo_act : MethodName := ⟨R_Mo, "act", "(I)I"⟩
abbrev w_Mo_act : List Cond := .code y_Mo_act b_Mo_act 3 (some .int) :: lw_gd
abbrev b_Mo_watch : ByteArray := prog_14_method_60_code
def y_Mo_watch : MethodName := ⟨R_Mo, "watch", "(IIIJ)Z"⟩
abbrev w_Mo_watch : List Cond := .code y_Mo_watch b_Mo_watch 6 (some .boolean) :: lw_gd
abbrev b_Mo_bind : ByteArray := prog_14_method_54_code
def y_Mo_bind : MethodName := ⟨R_Mo, "bind", "(IIIII)Z"⟩
abbrev w_Mo_bind : List Cond := .code y_Mo_bind b_Mo_bind 6 (some .boolean) :: lw_gd
abbrev b_Mo_lasts : ByteArray := prog_14_method_53_code
def y_Mo_lasts : MethodName := ⟨R_Mo, "lasts", "(II)Z"⟩
abbrev w_Mo_lasts : List Cond := .code y_Mo_lasts b_Mo_lasts 3 (some .boolean) :: lw_gd
abbrev b_Mo_need : ByteArray := prog_14_method_52_code
def y_Mo_need : MethodName := ⟨R_Mo, "need", "(III)Z"⟩
abbrev w_Mo_need : List Cond := .code y_Mo_need b_Mo_need 4 (some .boolean) :: lw_gd
abbrev b_Mo_may : ByteArray := prog_14_method_51_code
def y_Mo_may : MethodName := ⟨R_Mo, "may", "(II)Z"⟩
abbrev w_Mo_may : List Cond := .code y_Mo_may b_Mo_may 4 (some .boolean) :: lw_gd
abbrev b_Mo_answer : ByteArray := prog_14_method_85_code
def y_Mo_answer : MethodName := ⟨R_Mo, "answer", "(J)Z"⟩
abbrev w_Mo_answer : List Cond := .code y_Mo_answer b_Mo_answer 4 (some .boolean) :: lw_gd
abbrev b_Mo_still : ByteArray := prog_14_method_89_code
def y_Mo_still : MethodName := ⟨R_Mo, "still", "(I)I"⟩
abbrev w_Mo_still : List Cond := .code y_Mo_still b_Mo_still 3 (some .int) :: lw_gd
abbrev b_Mo_write : ByteArray := prog_14_method_15_code
def y_Mo_write : MethodName := ⟨R_Mo, "write", "(I)I"⟩
abbrev w_Mo_write : List Cond := .code y_Mo_write b_Mo_write 3 (some .int) :: lw_gd
theorem mw_1804 : (.fieldLink "BreweryHouseModel" 64 "BreweryHouseModel" "meet" "[Z" : Cond) ∈ lw_gd := tb_mem (i := 1804) (by decide +kernel) (by decide +kernel)
theorem mw_1805 : (.fieldLink "BreweryHouseModel" 68 "BreweryHouseModel" "needs" "[I" : Cond) ∈ lw_gd := tb_mem (i := 1805) (by decide +kernel) (by decide +kernel)
theorem mw_1806 : (.fieldLink "BreweryHouseModel" 71 "BreweryHouseModel" "lasting" "[I" : Cond) ∈ lw_gd := tb_mem (i := 1806) (by decide +kernel) (by decide +kernel)
theorem mw_1835 : (.fieldLink "BreweryHouseModel" 132 "BreweryHouseModel" "does" "[I" : Cond) ∈ lw_gd := tb_mem (i := 1835) (by decide +kernel) (by decide +kernel)
theorem mw_1836 : (.fieldLink "BreweryHouseModel" 135 "BreweryHouseModel" "xs" "[I" : Cond) ∈ lw_gd := tb_mem (i := 1836) (by decide +kernel) (by decide +kernel)
theorem mw_1837 : (.fieldLink "BreweryHouseModel" 138 "BreweryHouseModel" "ys" "[I" : Cond) ∈ lw_gd := tb_mem (i := 1837) (by decide +kernel) (by decide +kernel)
theorem mw_1838 : (.fieldLink "BreweryHouseModel" 141 "BreweryHouseModel" "zs" "[I" : Cond) ∈ lw_gd := tb_mem (i := 1838) (by decide +kernel) (by decide +kernel)
theorem mw_1841 : (.fieldLink "BreweryHouseModel" 150 "BreweryHouseModel" "watchWhat" "[I" : Cond) ∈ lw_gd := tb_mem (i := 1841) (by decide +kernel) (by decide +kernel)
theorem mw_1842 : (.fieldLink "BreweryHouseModel" 153 "BreweryHouseModel" "watchOf" "[I" : Cond) ∈ lw_gd := tb_mem (i := 1842) (by decide +kernel) (by decide +kernel)
theorem mw_1843 : (.fieldLink "BreweryHouseModel" 156 "BreweryHouseModel" "watchLeast" "[J" : Cond) ∈ lw_gd := tb_mem (i := 1843) (by decide +kernel) (by decide +kernel)
theorem mw_1863 : (.fieldLink "BreweryHouseModel" 576 "BreweryHouseModel" "left" "I" : Cond) ∈ lw_gd := tb_mem (i := 1863) (by decide +kernel) (by decide +kernel)
theorem mw_1866 : (.fieldLink "BreweryHouseModel" 202 "BreweryHouseModel" "alarmSeconds" "[I" : Cond) ∈ lw_gd := tb_mem (i := 1866) (by decide +kernel) (by decide +kernel)
theorem mw_1867 : (.fieldLink "BreweryHouseModel" 205 "BreweryHouseModel" "alarmNodes" "[I" : Cond) ∈ lw_gd := tb_mem (i := 1867) (by decide +kernel) (by decide +kernel)
theorem mw_1868 : (.fieldLink "BreweryHouseModel" 208 "BreweryHouseModel" "alarmKinds" "[I" : Cond) ∈ lw_gd := tb_mem (i := 1868) (by decide +kernel) (by decide +kernel)
theorem mw_1869 : (.fieldLink "BreweryHouseModel" 294 "BreweryHouseModel" "wish" "I" : Cond) ∈ lw_gd := tb_mem (i := 1869) (by decide +kernel) (by decide +kernel)
theorem mw_1870 : (.fieldLink "BreweryHouseModel" 297 "BreweryHouseModel" "found" "I" : Cond) ∈ lw_gd := tb_mem (i := 1870) (by decide +kernel) (by decide +kernel)
theorem mw_2457 : (.constant "BreweryHouseModel" 423 1000000 : Cond) ∈ lw_gd := tb_mem (i := 2457) (by decide +kernel) (by decide +kernel)
theorem mw_2466 : (.methodLink "BreweryHouseModel" 436 y_Mo_perform : Cond) ∈ lw_gd := tb_mem (i := 2466) (by decide +kernel) (by decide +kernel)
theorem mw_2468 : (.instanceMethod y_Mo_perform : Cond) ∈ lw_gd := tb_mem (i := 2468) (by decide +kernel) (by decide +kernel)
theorem mw_2469 : (.code y_Mo_perform b_Mo_perform 7 (some .int) : Cond) ∈ lw_gd := tb_mem (i := 2469) (by decide +kernel) (by decide +kernel)
theorem mw_2513 : (.methodLink "BreweryHouseModel" 439 y_Mo_raise : Cond) ∈ lw_gd := tb_mem (i := 2513) (by decide +kernel) (by decide +kernel)
theorem mw_2515 : (.instanceMethod y_Mo_raise : Cond) ∈ lw_gd := tb_mem (i := 2515) (by decide +kernel) (by decide +kernel)
theorem mw_2516 : (.code y_Mo_raise b_Mo_raise 3 none : Cond) ∈ lw_gd := tb_mem (i := 2516) (by decide +kernel) (by decide +kernel)
theorem sl_160 : (.selects "BreweryHouseModel" y_Mo_perform y_Mo_perform : Cond) ∈ lw_gd := List.mem_filter.mpr ⟨List.mem_append_left _ (List.mem_of_getElem? (i := 160) (by decide +kernel)), by decide +kernel⟩
theorem sl_170 : (.selects "BreweryHouseModel" y_Mo_raise y_Mo_raise : Cond) ∈ lw_gd := List.mem_filter.mpr ⟨List.mem_append_left _ (List.mem_of_getElem? (i := 170) (by decide +kernel)), by decide +kernel⟩
theorem d_Mo_raise_0 : decode b_Mo_raise 0 = .ok (.aload_n 0, 1) := by decide +kernel
theorem d_Mo_raise_1 : decode b_Mo_raise 1 = .ok (.getfield 433, 3) := by decide +kernel
theorem d_Mo_raise_4 : decode b_Mo_raise 4 = .ok (.sipush 200, 3) := by decide +kernel
theorem d_Mo_raise_7 : decode b_Mo_raise 7 = .ok (.if_icmp .ge 46, 3) := by decide +kernel
theorem d_Mo_raise_10 : decode b_Mo_raise 10 = .ok (.aload_n 0, 1) := by decide +kernel
theorem d_Mo_raise_11 : decode b_Mo_raise 11 = .ok (.getfield 202, 3) := by decide +kernel
theorem d_Mo_raise_14 : decode b_Mo_raise 14 = .ok (.aload_n 0, 1) := by decide +kernel
theorem d_Mo_raise_15 : decode b_Mo_raise 15 = .ok (.getfield 433, 3) := by decide +kernel
theorem d_Mo_raise_18 : decode b_Mo_raise 18 = .ok (.aload_n 0, 1) := by decide +kernel
theorem d_Mo_raise_19 : decode b_Mo_raise 19 = .ok (.getfield 326, 3) := by decide +kernel
theorem d_Mo_raise_22 : decode b_Mo_raise 22 = .ok (.iastore, 1) := by decide +kernel
theorem d_Mo_raise_23 : decode b_Mo_raise 23 = .ok (.aload_n 0, 1) := by decide +kernel
theorem d_Mo_raise_24 : decode b_Mo_raise 24 = .ok (.getfield 205, 3) := by decide +kernel
theorem d_Mo_raise_27 : decode b_Mo_raise 27 = .ok (.aload_n 0, 1) := by decide +kernel
theorem d_Mo_raise_28 : decode b_Mo_raise 28 = .ok (.getfield 433, 3) := by decide +kernel
theorem d_Mo_raise_31 : decode b_Mo_raise 31 = .ok (.iload_n 1, 1) := by decide +kernel
theorem d_Mo_raise_32 : decode b_Mo_raise 32 = .ok (.iastore, 1) := by decide +kernel
theorem d_Mo_raise_33 : decode b_Mo_raise 33 = .ok (.aload_n 0, 1) := by decide +kernel
theorem d_Mo_raise_34 : decode b_Mo_raise 34 = .ok (.getfield 208, 3) := by decide +kernel
theorem d_Mo_raise_37 : decode b_Mo_raise 37 = .ok (.aload_n 0, 1) := by decide +kernel
theorem d_Mo_raise_38 : decode b_Mo_raise 38 = .ok (.getfield 433, 3) := by decide +kernel
theorem d_Mo_raise_41 : decode b_Mo_raise 41 = .ok (.iload_n 2, 1) := by decide +kernel
theorem d_Mo_raise_42 : decode b_Mo_raise 42 = .ok (.iastore, 1) := by decide +kernel
theorem d_Mo_raise_43 : decode b_Mo_raise 43 = .ok (.aload_n 0, 1) := by decide +kernel
theorem d_Mo_raise_44 : decode b_Mo_raise 44 = .ok (.dup, 1) := by decide +kernel
theorem d_Mo_raise_45 : decode b_Mo_raise 45 = .ok (.getfield 433, 3) := by decide +kernel
theorem d_Mo_raise_48 : decode b_Mo_raise 48 = .ok (.iconst 1, 1) := by decide +kernel
theorem d_Mo_raise_49 : decode b_Mo_raise 49 = .ok (.iadd, 1) := by decide +kernel
theorem d_Mo_raise_50 : decode b_Mo_raise 50 = .ok (.putfield 433, 3) := by decide +kernel
theorem d_Mo_raise_53 : decode b_Mo_raise 53 = .ok (.return_, 1) := by decide +kernel
set_option maxHeartbeats 4000000 in
set_option maxRecDepth 100000 in
theorem c_Mo_raise (l : Launch) (dC : Nat → ClassId) (dI : Nat → Nat → Nat) (cI cB cZ cJ : ClassId) (no : Int32) (ki : Int32) (oM : Nat) (am_alarmSeconds : Nat) (am_alarmNodes : Nat) (am_alarmKinds : Nat) (fm : List Value) (hm_now : fm[78]? = some (.int 0)) (hm_alarms : fm[79]? = some (.int 0)) (hm_alarmSeconds : fm[80]? = some (.ref am_alarmSeconds)) (hm_alarmNodes : fm[81]? = some (.ref am_alarmNodes)) (hm_alarmKinds : fm[82]? = some (.ref am_alarmKinds)) (sz : Nat) : Met l y_Mo_raise w_Mo_raise ({ frames := 0, cells := 0, slots := 0, locals := 0 }) (va_Pc [.ref oM, .int no, .int ki] (PW dC dI cI cB cZ cJ [(oM, .inr (12, fm)), (am_alarmSeconds, .inl (cI, 200, .inl (fun _ => 0))), (am_alarmNodes, .inl (cI, 200, .inl (fun _ => 0))), (am_alarmKinds, .inl (cI, 200, .inl (fun _ => 0)))] sz)) (va_Qv (fun _ : Unit => True) (fun _ _ => True) (va_A [(oM, .inr (12, fm)), (am_alarmSeconds, .inl (cI, 200, .inl (fun _ => 0))), (am_alarmNodes, .inl (cI, 200, .inl (fun _ => 0))), (am_alarmKinds, .inl (cI, 200, .inl (fun _ => 0)))] sz)) 0 0 (va_A [(oM, .inr (12, fm)), (am_alarmSeconds, .inl (cI, 200, .inl (fun _ => 0))), (am_alarmNodes, .inl (cI, 200, .inl (fun _ => 0))), (am_alarmKinds, .inl (cI, 200, .inl (fun _ => 0)))] sz) := by
  refine Met.ofW (cc := b_Mo_raise) (maxL := 3) (ret := none) (by decide) rfl ?_
  intro p e s m args below meth c s₁ B hml hv
  obtain ⟨rfl, hsz, hP, hK, hD⟩ := hv
  have hx := B.exec
  have hb := B.bytes
  have hr := B.returns
  have hts := atoms_spec (ws := w_Mo_raise) B.pre
  have hown : s.vm.findClass R_Mo = some m.cls := findClass_of_methodNamed B.named
  have hlocks := B.notSynchronized
  subst hsz
  have hD := hD.self (sz := s.heap.size)
  generalize hAe : va_A [(oM, .inr (12, fm)), (am_alarmSeconds, .inl (cI, 200, .inl (fun _ => 0))), (am_alarmNodes, .inl (cI, 200, .inl (fun _ => 0))), (am_alarmKinds, .inl (cI, 200, .inl (fun _ => 0)))] s.heap.size = A at hD ⊢
  have hA : ∀ q : Nat, s.heap.size ≤ q → A q := fun q h => by rw [← hAe]; exact Or.inr h
  have hS : va_S A s.heap s.heap [] := va_S.rf
  have hP : va_P (dC, dI) classes [(oM, .inr (12, fm)), (am_alarmSeconds, .inl (cI, 200, .inl (fun _ => 0))), (am_alarmNodes, .inl (cI, 200, .inl (fun _ => 0))), (am_alarmKinds, .inl (cI, 200, .inl (fun _ => 0)))] s.heap := hP
  have hl := lv_entry ([.ref oM, .int no, .int ki]) (n := 3) (Nat.le_of_ble_eq_true rfl)
  rw [lg_entry_eq]
  generalize (lg_sl ([.ref oM, .int no, .int ki]) ++ List.replicate (3 - (lg_sl ([.ref oM, .int no, .int ki])).length) Slot.unset).toArray = ls at hl ⊢
  have hl : lv_has ls 3 [(0, .ref oM), (1, .int no), (2, .int ki)] := hl
  refine lv_aload_n hx hb d_Mo_raise_0 rfl (lv_at hl 0 rfl) ?_
  refine va_get (D := (dC, dI)) (ci := 12) (v := .int 0) (C := R_Mo) (T := F_Mo) (N := 87) hx hb hts (fun w h => List.mem_cons_of_mem _ (in_Mo w h)) hown hK.1 hP 0 rfl rfl 79 (by decide) (hts _ (List.mem_cons_of_mem _ mw_1865)) (fun _ h9 => h9) hm_alarms d_Mo_raise_1 ?_
  refine lv_sipush (v := 200) hx hb d_Mo_raise_4 (by decide) ?_
  refine lv_icmp_ge (tgt := 53) hx hb d_Mo_raise_7 (by decide) (fun h => absurd h (by decide)) (fun _ => ?_)
  refine lv_aload_n hx hb d_Mo_raise_10 rfl (lv_at hl 0 rfl) ?_
  refine va_get (D := (dC, dI)) (ci := 12) (v := .ref am_alarmSeconds) (C := R_Mo) (T := F_Mo) (N := 87) hx hb hts (fun w h => List.mem_cons_of_mem _ (in_Mo w h)) hown hK.1 hP 0 rfl rfl 80 (by decide) (hts _ (List.mem_cons_of_mem _ mw_1866)) (fun _ h9 => h9) hm_alarmSeconds d_Mo_raise_11 ?_
  refine lv_aload_n hx hb d_Mo_raise_14 rfl (lv_at hl 0 rfl) ?_
  refine va_get (D := (dC, dI)) (ci := 12) (v := .int 0) (C := R_Mo) (T := F_Mo) (N := 87) hx hb hts (fun w h => List.mem_cons_of_mem _ (in_Mo w h)) hown hK.1 hP 0 rfl rfl 79 (by decide) (hts _ (List.mem_cons_of_mem _ mw_1865)) (fun _ h9 => h9) hm_alarms d_Mo_raise_15 ?_
  refine lv_aload_n hx hb d_Mo_raise_18 rfl (lv_at hl 0 rfl) ?_
  refine va_get (D := (dC, dI)) (ci := 12) (v := .int 0) (C := R_Mo) (T := F_Mo) (N := 87) hx hb hts (fun w h => List.mem_cons_of_mem _ (in_Mo w h)) hown hK.1 hP 0 rfl rfl 78 (by decide) (hts _ (List.mem_cons_of_mem _ mw_1864)) (fun _ h9 => h9) hm_now d_Mo_raise_19 ?_
  refine va_iast hx hb hK.1 hP hD hS 1 0 rfl rfl (vp_in_iff.mpr (by decide)) d_Mo_raise_22 (fun H locs hP hD hS => ?_)
  have hP : va_P (dC, dI) classes [(oM, .inr (12, fm)), (am_alarmSeconds, .inl (cI, 200, .inl ((upd (fun _ => 0) (0 : Int32).toNatClampNeg 0)))), (am_alarmNodes, .inl (cI, 200, .inl (fun _ => 0))), (am_alarmKinds, .inl (cI, 200, .inl (fun _ => 0)))] H := hP
  have hD : va_D A [(oM, .inr (12, fm)), (am_alarmSeconds, .inl (cI, 200, .inl ((upd (fun _ => 0) (0 : Int32).toNatClampNeg 0)))), (am_alarmNodes, .inl (cI, 200, .inl (fun _ => 0))), (am_alarmKinds, .inl (cI, 200, .inl (fun _ => 0)))] := hD
  generalize (upd (fun _ => 0) (0 : Int32).toNatClampNeg 0) = f22_1 at hP hD
  refine lv_aload_n hx hb d_Mo_raise_23 rfl (lv_at hl 0 rfl) ?_
  refine va_get (D := (dC, dI)) (ci := 12) (v := .ref am_alarmNodes) (C := R_Mo) (T := F_Mo) (N := 87) hx hb hts (fun w h => List.mem_cons_of_mem _ (in_Mo w h)) hown hK.1 hP 0 rfl rfl 81 (by decide) (hts _ (List.mem_cons_of_mem _ mw_1867)) (fun _ h9 => h9) hm_alarmNodes d_Mo_raise_24 ?_
  refine lv_aload_n hx hb d_Mo_raise_27 rfl (lv_at hl 0 rfl) ?_
  refine va_get (D := (dC, dI)) (ci := 12) (v := .int 0) (C := R_Mo) (T := F_Mo) (N := 87) hx hb hts (fun w h => List.mem_cons_of_mem _ (in_Mo w h)) hown hK.1 hP 0 rfl rfl 79 (by decide) (hts _ (List.mem_cons_of_mem _ mw_1865)) (fun _ h9 => h9) hm_alarms d_Mo_raise_28 ?_
  refine lv_iload_n hx hb d_Mo_raise_31 rfl (lv_at hl 1 rfl) ?_
  refine va_iast hx hb hK.1 hP hD hS 2 0 rfl rfl (vp_in_iff.mpr (by decide)) d_Mo_raise_32 (fun H locs hP hD hS => ?_)
  have hP : va_P (dC, dI) classes [(oM, .inr (12, fm)), (am_alarmSeconds, .inl (cI, 200, .inl f22_1)), (am_alarmNodes, .inl (cI, 200, .inl ((upd (fun _ => 0) (0 : Int32).toNatClampNeg no)))), (am_alarmKinds, .inl (cI, 200, .inl (fun _ => 0)))] H := hP
  have hD : va_D A [(oM, .inr (12, fm)), (am_alarmSeconds, .inl (cI, 200, .inl f22_1)), (am_alarmNodes, .inl (cI, 200, .inl ((upd (fun _ => 0) (0 : Int32).toNatClampNeg no)))), (am_alarmKinds, .inl (cI, 200, .inl (fun _ => 0)))] := hD
  generalize (upd (fun _ => 0) (0 : Int32).toNatClampNeg no) = f32_2 at hP hD
  refine lv_aload_n hx hb d_Mo_raise_33 rfl (lv_at hl 0 rfl) ?_
  refine va_get (D := (dC, dI)) (ci := 12) (v := .ref am_alarmKinds) (C := R_Mo) (T := F_Mo) (N := 87) hx hb hts (fun w h => List.mem_cons_of_mem _ (in_Mo w h)) hown hK.1 hP 0 rfl rfl 82 (by decide) (hts _ (List.mem_cons_of_mem _ mw_1868)) (fun _ h9 => h9) hm_alarmKinds d_Mo_raise_34 ?_
  refine lv_aload_n hx hb d_Mo_raise_37 rfl (lv_at hl 0 rfl) ?_
  refine va_get (D := (dC, dI)) (ci := 12) (v := .int 0) (C := R_Mo) (T := F_Mo) (N := 87) hx hb hts (fun w h => List.mem_cons_of_mem _ (in_Mo w h)) hown hK.1 hP 0 rfl rfl 79 (by decide) (hts _ (List.mem_cons_of_mem _ mw_1865)) (fun _ h9 => h9) hm_alarms d_Mo_raise_38 ?_
  refine lv_iload_n hx hb d_Mo_raise_41 rfl (lv_at hl 2 rfl) ?_
  refine va_iast hx hb hK.1 hP hD hS 3 0 rfl rfl (vp_in_iff.mpr (by decide)) d_Mo_raise_42 (fun H locs hP hD hS => ?_)
  have hP : va_P (dC, dI) classes [(oM, .inr (12, fm)), (am_alarmSeconds, .inl (cI, 200, .inl f22_1)), (am_alarmNodes, .inl (cI, 200, .inl f32_2)), (am_alarmKinds, .inl (cI, 200, .inl ((upd (fun _ => 0) (0 : Int32).toNatClampNeg ki))))] H := hP
  have hD : va_D A [(oM, .inr (12, fm)), (am_alarmSeconds, .inl (cI, 200, .inl f22_1)), (am_alarmNodes, .inl (cI, 200, .inl f32_2)), (am_alarmKinds, .inl (cI, 200, .inl ((upd (fun _ => 0) (0 : Int32).toNatClampNeg ki))))] := hD
  generalize (upd (fun _ => 0) (0 : Int32).toNatClampNeg ki) = f42_3 at hP hD
  refine lv_aload_n hx hb d_Mo_raise_43 rfl (lv_at hl 0 rfl) ?_
  refine lv_dup hx hb d_Mo_raise_44 rfl ?_
  refine va_get (D := (dC, dI)) (ci := 12) (v := .int 0) (C := R_Mo) (T := F_Mo) (N := 87) hx hb hts (fun w h => List.mem_cons_of_mem _ (in_Mo w h)) hown hK.1 hP 0 rfl rfl 79 (by decide) (hts _ (List.mem_cons_of_mem _ mw_1865)) (fun _ h9 => h9) hm_alarms d_Mo_raise_45 ?_
  refine lv_iconst (v := 1) hx hb d_Mo_raise_48 (by decide) ?_
  refine lv_iadd hx hb d_Mo_raise_49 ?_
  refine lv_topi (fun x0 e0 => ?_)
  obtain rfl : x0 = 1 := e0.trans (by decide)
  refine va_put (D := (dC, dI)) (ci := 12) (v := .int 1) (ty := .int) (C := R_Mo) (T := F_Mo) (N := 87) hx hb hts (fun w h => List.mem_cons_of_mem _ (in_Mo w h)) t_Mo t_Mo_ok n_Mo hown hK.1 hP hD hS 0 rfl rfl 79 (by decide) (hts _ (List.mem_cons_of_mem _ mw_1865)) (fun _ h9 => h9) rfl (by decide +kernel) rfl rfl (st_lt hm_alarms) d_Mo_raise_50 (fun H locs hP hD hS => ?_)
  have g50_82 : (fm.set 79 (.int 1))[82]? = some (.ref am_alarmKinds) := (st_ne hm_alarmKinds (by decide))
  have g50_81 : (fm.set 79 (.int 1))[81]? = some (.ref am_alarmNodes) := (st_ne hm_alarmNodes (by decide))
  have g50_80 : (fm.set 79 (.int 1))[80]? = some (.ref am_alarmSeconds) := (st_ne hm_alarmSeconds (by decide))
  have g50_79 : (fm.set 79 (.int 1))[79]? = some (.int 1) := (st_eq hm_alarms)
  have g50_78 : (fm.set 79 (.int 1))[78]? = some (.int 0) := (st_ne hm_now (by decide))
  have hP : va_P (dC, dI) classes [(oM, .inr (12, (fm.set 79 (.int 1)))), (am_alarmSeconds, .inl (cI, 200, .inl f22_1)), (am_alarmNodes, .inl (cI, 200, .inl f32_2)), (am_alarmKinds, .inl (cI, 200, .inl f42_3))] H := hP
  have hD : va_D A [(oM, .inr (12, (fm.set 79 (.int 1)))), (am_alarmSeconds, .inl (cI, 200, .inl f22_1)), (am_alarmNodes, .inl (cI, 200, .inl f32_2)), (am_alarmKinds, .inl (cI, 200, .inl f42_3))] := hD
  exact W.vret hx hb hr (fun t ht hW => ⟨⟨(), rfl, trivial, trivial⟩, hS.F ht⟩) hS.2.2 d_Mo_raise_53
theorem d_Mo_perform_0 : decode b_Mo_perform 0 = .ok (.aload_n 0, 1) := by decide +kernel
theorem d_Mo_perform_1 : decode b_Mo_perform 1 = .ok (.getfield 135, 3) := by decide +kernel
theorem d_Mo_perform_4 : decode b_Mo_perform 4 = .ok (.iload_n 1, 1) := by decide +kernel
theorem d_Mo_perform_5 : decode b_Mo_perform 5 = .ok (.iaload, 1) := by decide +kernel
theorem d_Mo_perform_6 : decode b_Mo_perform 6 = .ok (.istore_n 2, 1) := by decide +kernel
theorem d_Mo_perform_7 : decode b_Mo_perform 7 = .ok (.aload_n 0, 1) := by decide +kernel
theorem d_Mo_perform_8 : decode b_Mo_perform 8 = .ok (.getfield 138, 3) := by decide +kernel
theorem d_Mo_perform_11 : decode b_Mo_perform 11 = .ok (.iload_n 1, 1) := by decide +kernel
theorem d_Mo_perform_12 : decode b_Mo_perform 12 = .ok (.iaload, 1) := by decide +kernel
theorem d_Mo_perform_13 : decode b_Mo_perform 13 = .ok (.istore_n 3, 1) := by decide +kernel
theorem d_Mo_perform_14 : decode b_Mo_perform 14 = .ok (.aload_n 0, 1) := by decide +kernel
theorem d_Mo_perform_15 : decode b_Mo_perform 15 = .ok (.getfield 132, 3) := by decide +kernel
theorem d_Mo_perform_18 : decode b_Mo_perform 18 = .ok (.iload_n 1, 1) := by decide +kernel
theorem d_Mo_perform_19 : decode b_Mo_perform 19 = .ok (.iaload, 1) := by decide +kernel
theorem d_Mo_perform_20 : decode b_Mo_perform 20 = .ok (.istore 4, 2) := by decide +kernel
theorem d_Mo_perform_22 : decode b_Mo_perform 22 = .ok (.iload 4, 2) := by decide +kernel
theorem d_Mo_perform_24 : decode b_Mo_perform 24 = .ok (.ifCond .eq 9, 3) := by decide +kernel
theorem d_Mo_perform_27 : decode b_Mo_perform 27 = .ok (.iload 4, 2) := by decide +kernel
theorem d_Mo_perform_29 : decode b_Mo_perform 29 = .ok (.iconst 1, 1) := by decide +kernel
theorem d_Mo_perform_30 : decode b_Mo_perform 30 = .ok (.if_icmp .ne 32, 3) := by decide +kernel
theorem d_Mo_perform_62 : decode b_Mo_perform 62 = .ok (.iload 4, 2) := by decide +kernel
theorem d_Mo_perform_64 : decode b_Mo_perform 64 = .ok (.iconst 2, 1) := by decide +kernel
theorem d_Mo_perform_65 : decode b_Mo_perform 65 = .ok (.if_icmp .ne 11, 3) := by decide +kernel
theorem d_Mo_perform_76 : decode b_Mo_perform 76 = .ok (.iload 4, 2) := by decide +kernel
theorem d_Mo_perform_78 : decode b_Mo_perform 78 = .ok (.iconst (-1), 1) := by decide +kernel
theorem d_Mo_perform_79 : decode b_Mo_perform 79 = .ok (.if_icmp .eq 15, 3) := by decide +kernel
theorem d_Mo_perform_94 : decode b_Mo_perform 94 = .ok (.iconst 0, 1) := by decide +kernel
theorem d_Mo_perform_95 : decode b_Mo_perform 95 = .ok (.istore 5, 2) := by decide +kernel
theorem d_Mo_perform_97 : decode b_Mo_perform 97 = .ok (.iload 5, 2) := by decide +kernel
theorem d_Mo_perform_99 : decode b_Mo_perform 99 = .ok (.ifCond .ne 5, 3) := by decide +kernel
theorem d_Mo_perform_102 : decode b_Mo_perform 102 = .ok (.iconst 1, 1) := by decide +kernel
theorem d_Mo_perform_103 : decode b_Mo_perform 103 = .ok (.ireturn, 1) := by decide +kernel
set_option maxHeartbeats 4000000 in
set_option maxRecDepth 100000 in
theorem c_Mo_perform (l : Launch) (dC : Nat → ClassId) (dI : Nat → Nat → Nat) (cI cB cZ cJ : ClassId) (ka : Int32) (hka0 : ¬ ka < 0) (hka1 : ¬ 31 < ka) (oM : Nat) (am_xs : Nat) (am_ys : Nat) (am_does : Nat) (fm : List Value) (hm_does : fm[49]? = some (.ref am_does)) (hm_xs : fm[50]? = some (.ref am_xs)) (hm_ys : fm[51]? = some (.ref am_ys)) (sz : Nat) : Met l y_Mo_perform w_Mo_perform ({ frames := 0, cells := 0, slots := 0, locals := 0 }) (va_Pc [.ref oM, .int ka] (PW dC dI cI cB cZ cJ [(oM, .inr (12, fm)), (am_xs, .inl (cI, 32, .inl (fun _ => 0))), (am_ys, .inl (cI, 32, .inl (fun _ => 0))), (am_does, .inl (cI, 32, .inl ((fun _ => (-1)))))] sz)) (va_Qi (fun (r : Int32) (_ : Unit) => r = 1) (fun _ _ => True) (va_A [] sz)) 0 0 (va_A [] sz) := by
  refine Met.ofW (cc := b_Mo_perform) (maxL := 7) (ret := (some .int)) (by decide) rfl ?_
  intro p e s m args below meth c s₁ B hml hv
  obtain ⟨rfl, hsz, hP, hK, hD⟩ := hv
  have hx := B.exec
  have hb := B.bytes
  have hr := B.returns
  have hts := atoms_spec (ws := w_Mo_perform) B.pre
  have hown : s.vm.findClass R_Mo = some m.cls := findClass_of_methodNamed B.named
  have hlocks := B.notSynchronized
  subst hsz
  generalize hAe : va_A [] s.heap.size = A at ⊢
  have hA : ∀ q : Nat, s.heap.size ≤ q → A q := fun q h => by rw [← hAe]; exact Or.inr h
  have hS : va_S A s.heap s.heap [] := va_S.rf
  have hP : va_P (dC, dI) classes [(oM, .inr (12, fm)), (am_xs, .inl (cI, 32, .inl (fun _ => 0))), (am_ys, .inl (cI, 32, .inl (fun _ => 0))), (am_does, .inl (cI, 32, .inl ((fun _ => (-1)))))] s.heap := hP
  have hl := lv_entry ([.ref oM, .int ka]) (n := 7) (Nat.le_of_ble_eq_true rfl)
  rw [lg_entry_eq]
  generalize (lg_sl ([.ref oM, .int ka]) ++ List.replicate (7 - (lg_sl ([.ref oM, .int ka])).length) Slot.unset).toArray = ls at hl ⊢
  have hl : lv_has ls 7 [(0, .ref oM), (1, .int ka)] := hl
  refine lv_aload_n hx hb d_Mo_perform_0 rfl (lv_at hl 0 rfl) ?_
  refine va_get (D := (dC, dI)) (ci := 12) (v := .ref am_xs) (C := R_Mo) (T := F_Mo) (N := 87) hx hb hts (fun w h => List.mem_cons_of_mem _ (in_Mo w h)) hown hK.1 hP 0 rfl rfl 50 (by decide) (hts _ (List.mem_cons_of_mem _ mw_1836)) (fun _ h9 => h9) hm_xs d_Mo_perform_1 ?_
  refine lv_iload_n hx hb d_Mo_perform_4 rfl (lv_at hl 1 rfl) ?_
  refine va_iald hx hb hK.1 hP 1 0 rfl rfl (ir_in hka0 hka1 (by decide) (by decide)) d_Mo_perform_5 ?_
  refine lv_istore_n hx hb d_Mo_perform_6 rfl hl (by decide) rfl (fun ls hl => ?_)
  have hl : lv_has ls 7 [(2, .int 0), (0, .ref oM), (1, .int ka)] := hl
  refine lv_aload_n hx hb d_Mo_perform_7 rfl (lv_at hl 1 rfl) ?_
  refine va_get (D := (dC, dI)) (ci := 12) (v := .ref am_ys) (C := R_Mo) (T := F_Mo) (N := 87) hx hb hts (fun w h => List.mem_cons_of_mem _ (in_Mo w h)) hown hK.1 hP 0 rfl rfl 51 (by decide) (hts _ (List.mem_cons_of_mem _ mw_1837)) (fun _ h9 => h9) hm_ys d_Mo_perform_8 ?_
  refine lv_iload_n hx hb d_Mo_perform_11 rfl (lv_at hl 2 rfl) ?_
  refine va_iald hx hb hK.1 hP 2 0 rfl rfl (ir_in hka0 hka1 (by decide) (by decide)) d_Mo_perform_12 ?_
  refine lv_istore_n hx hb d_Mo_perform_13 rfl hl (by decide) rfl (fun ls hl => ?_)
  have hl : lv_has ls 7 [(3, .int 0), (2, .int 0), (0, .ref oM), (1, .int ka)] := hl
  refine lv_aload_n hx hb d_Mo_perform_14 rfl (lv_at hl 2 rfl) ?_
  refine va_get (D := (dC, dI)) (ci := 12) (v := .ref am_does) (C := R_Mo) (T := F_Mo) (N := 87) hx hb hts (fun w h => List.mem_cons_of_mem _ (in_Mo w h)) hown hK.1 hP 0 rfl rfl 49 (by decide) (hts _ (List.mem_cons_of_mem _ mw_1835)) (fun _ h9 => h9) hm_does d_Mo_perform_15 ?_
  refine lv_iload_n hx hb d_Mo_perform_18 rfl (lv_at hl 3 rfl) ?_
  refine va_iald hx hb hK.1 hP 3 0 rfl rfl (ir_in hka0 hka1 (by decide) (by decide)) d_Mo_perform_19 ?_
  refine lv_istore hx hb d_Mo_perform_20 hl (by decide) rfl (fun ls hl => ?_)
  have hl : lv_has ls 7 [(4, .int (-1)), (3, .int 0), (2, .int 0), (0, .ref oM), (1, .int ka)] := hl
  refine lv_iload hx hb d_Mo_perform_22 (lv_at hl 0 rfl) ?_
  refine lv_if_eq (tgt := 33) hx hb d_Mo_perform_24 (by decide) (fun h => absurd h (by decide)) (fun _ => ?_)
  refine lv_iload hx hb d_Mo_perform_27 (lv_at hl 0 rfl) ?_
  refine lv_iconst (v := 1) hx hb d_Mo_perform_29 (by decide) ?_
  refine lv_icmp_ne (tgt := 62) hx hb d_Mo_perform_30 (by decide) (fun _ => ?_) (fun h => absurd h (by decide))
  refine lv_iload hx hb d_Mo_perform_62 (lv_at hl 0 rfl) ?_
  refine lv_iconst (v := 2) hx hb d_Mo_perform_64 (by decide) ?_
  refine lv_icmp_ne (tgt := 76) hx hb d_Mo_perform_65 (by decide) (fun _ => ?_) (fun h => absurd h (by decide))
  refine lv_iload hx hb d_Mo_perform_76 (lv_at hl 0 rfl) ?_
  refine lv_iconst (v := (-1)) hx hb d_Mo_perform_78 (by decide) ?_
  refine lv_icmp_eq (tgt := 94) hx hb d_Mo_perform_79 (by decide) (fun _ => ?_) (fun h => absurd (by decide) h)
  refine lv_iconst (v := 0) hx hb d_Mo_perform_94 (by decide) ?_
  refine lv_istore hx hb d_Mo_perform_95 hl (by decide) rfl (fun ls hl => ?_)
  have hl : lv_has ls 7 [(5, .int 0), (4, .int (-1)), (3, .int 0), (2, .int 0), (0, .ref oM), (1, .int ka)] := hl
  refine lv_iload hx hb d_Mo_perform_97 (lv_at hl 0 rfl) ?_
  refine lv_if_ne (tgt := 104) hx hb d_Mo_perform_99 (by decide) (fun h => absurd rfl h) (fun _ => ?_)
  refine lv_iconst (v := 1) hx hb d_Mo_perform_102 (by decide) ?_
  exact W.iret (v := 1) hx hb hr (fun t ht hW => ⟨⟨_, (), rfl, (rfl), trivial⟩, hS.F ht⟩) hS.2.2 d_Mo_perform_103
theorem d_Mo_act_0 : decode b_Mo_act 0 = .ok (.iload_n 1, 1) := by decide +kernel
theorem d_Mo_act_1 : decode b_Mo_act 1 = .ok (.ifCond .lt 9, 3) := by decide +kernel
theorem d_Mo_act_4 : decode b_Mo_act 4 = .ok (.iload_n 1, 1) := by decide +kernel
theorem d_Mo_act_5 : decode b_Mo_act 5 = .ok (.bipush 31, 2) := by decide +kernel
theorem d_Mo_act_7 : decode b_Mo_act 7 = .ok (.if_icmp .le 5, 3) := by decide +kernel
theorem d_Mo_act_10 : decode b_Mo_act 10 = .ok (.iconst (-1), 1) := by decide +kernel
theorem d_Mo_act_11 : decode b_Mo_act 11 = .ok (.ireturn, 1) := by decide +kernel
theorem d_Mo_act_12 : decode b_Mo_act 12 = .ok (.aload_n 0, 1) := by decide +kernel
theorem d_Mo_act_13 : decode b_Mo_act 13 = .ok (.iload_n 1, 1) := by decide +kernel
theorem d_Mo_act_14 : decode b_Mo_act 14 = .ok (.invokevirtual 436, 3) := by decide +kernel
theorem d_Mo_act_17 : decode b_Mo_act 17 = .ok (.istore_n 2, 1) := by decide +kernel
theorem d_Mo_act_18 : decode b_Mo_act 18 = .ok (.iload_n 2, 1) := by decide +kernel
theorem d_Mo_act_19 : decode b_Mo_act 19 = .ok (.ifCond .le 12, 3) := by decide +kernel
theorem d_Mo_act_22 : decode b_Mo_act 22 = .ok (.aload_n 0, 1) := by decide +kernel
theorem d_Mo_act_23 : decode b_Mo_act 23 = .ok (.iconst (-1), 1) := by decide +kernel
theorem d_Mo_act_24 : decode b_Mo_act 24 = .ok (.bipush 10, 2) := by decide +kernel
theorem d_Mo_act_26 : decode b_Mo_act 26 = .ok (.iload_n 2, 1) := by decide +kernel
theorem d_Mo_act_27 : decode b_Mo_act 27 = .ok (.iadd, 1) := by decide +kernel
theorem d_Mo_act_28 : decode b_Mo_act 28 = .ok (.invokevirtual 439, 3) := by decide +kernel
theorem d_Mo_act_31 : decode b_Mo_act 31 = .ok (.iload_n 2, 1) := by decide +kernel
theorem d_Mo_act_32 : decode b_Mo_act 32 = .ok (.ireturn, 1) := by decide +kernel
def fn_Mo_act (ka : Int32) : Int32 := (if ka < 0 then (-1) else (if ka ≤ 31 then 1 else (-1)))
set_option maxHeartbeats 4000000 in
set_option maxRecDepth 100000 in
theorem c_Mo_act (l : Launch) (dC : Nat → ClassId) (dI : Nat → Nat → Nat) (cI cB cZ cJ : ClassId) (ka : Int32) (oM : Nat) (am_xs : Nat) (am_ys : Nat) (am_does : Nat) (am_alarmSeconds : Nat) (am_alarmNodes : Nat) (am_alarmKinds : Nat) (fm : List Value) (hm_does : fm[49]? = some (.ref am_does)) (hm_xs : fm[50]? = some (.ref am_xs)) (hm_ys : fm[51]? = some (.ref am_ys)) (hm_now : fm[78]? = some (.int 0)) (hm_alarms : fm[79]? = some (.int 0)) (hm_alarmSeconds : fm[80]? = some (.ref am_alarmSeconds)) (hm_alarmNodes : fm[81]? = some (.ref am_alarmNodes)) (hm_alarmKinds : fm[82]? = some (.ref am_alarmKinds)) (sz : Nat) : Met l y_Mo_act w_Mo_act ({ frames := 1, cells := 0, slots := 0, locals := 26 }) (va_Pc [.ref oM, .int ka] (PW dC dI cI cB cZ cJ [(oM, .inr (12, fm)), (am_xs, .inl (cI, 32, .inl (fun _ => 0))), (am_ys, .inl (cI, 32, .inl (fun _ => 0))), (am_does, .inl (cI, 32, .inl ((fun _ => (-1))))), (am_alarmSeconds, .inl (cI, 200, .inl (fun _ => 0))), (am_alarmNodes, .inl (cI, 200, .inl (fun _ => 0))), (am_alarmKinds, .inl (cI, 200, .inl (fun _ => 0)))] sz)) (va_Qi (fun (r : Int32) (_ : Unit) => r = fn_Mo_act ka) (fun _ _ => True) (va_A [(oM, .inr (12, fm)), (am_xs, .inl (cI, 32, .inl (fun _ => 0))), (am_ys, .inl (cI, 32, .inl (fun _ => 0))), (am_does, .inl (cI, 32, .inl ((fun _ => (-1))))), (am_alarmSeconds, .inl (cI, 200, .inl (fun _ => 0))), (am_alarmNodes, .inl (cI, 200, .inl (fun _ => 0))), (am_alarmKinds, .inl (cI, 200, .inl (fun _ => 0)))] sz)) 0 0 (va_A [(oM, .inr (12, fm)), (am_xs, .inl (cI, 32, .inl (fun _ => 0))), (am_ys, .inl (cI, 32, .inl (fun _ => 0))), (am_does, .inl (cI, 32, .inl ((fun _ => (-1))))), (am_alarmSeconds, .inl (cI, 200, .inl (fun _ => 0))), (am_alarmNodes, .inl (cI, 200, .inl (fun _ => 0))), (am_alarmKinds, .inl (cI, 200, .inl (fun _ => 0)))] sz) := by
  refine Met.ofW (cc := b_Mo_act) (maxL := 3) (ret := (some .int)) (by decide) rfl ?_
  intro p e s m args below meth c s₁ B hml hv
  obtain ⟨rfl, hsz, hP, hK, hD⟩ := hv
  have hx := B.exec
  have hb := B.bytes
  have hr := B.returns
  have hts := atoms_spec (ws := w_Mo_act) B.pre
  have hown : s.vm.findClass R_Mo = some m.cls := findClass_of_methodNamed B.named
  have hlocks := B.notSynchronized
  subst hsz
  have hD := hD.self (sz := s.heap.size)
  generalize hAe : va_A [(oM, .inr (12, fm)), (am_xs, .inl (cI, 32, .inl (fun _ => 0))), (am_ys, .inl (cI, 32, .inl (fun _ => 0))), (am_does, .inl (cI, 32, .inl ((fun _ => (-1))))), (am_alarmSeconds, .inl (cI, 200, .inl (fun _ => 0))), (am_alarmNodes, .inl (cI, 200, .inl (fun _ => 0))), (am_alarmKinds, .inl (cI, 200, .inl (fun _ => 0)))] s.heap.size = A at hD ⊢
  have hA : ∀ q : Nat, s.heap.size ≤ q → A q := fun q h => by rw [← hAe]; exact Or.inr h
  have hS : va_S A s.heap s.heap [] := va_S.rf
  have hP : va_P (dC, dI) classes [(oM, .inr (12, fm)), (am_xs, .inl (cI, 32, .inl (fun _ => 0))), (am_ys, .inl (cI, 32, .inl (fun _ => 0))), (am_does, .inl (cI, 32, .inl ((fun _ => (-1))))), (am_alarmSeconds, .inl (cI, 200, .inl (fun _ => 0))), (am_alarmNodes, .inl (cI, 200, .inl (fun _ => 0))), (am_alarmKinds, .inl (cI, 200, .inl (fun _ => 0)))] s.heap := hP
  have hl := lv_entry ([.ref oM, .int ka]) (n := 3) (Nat.le_of_ble_eq_true rfl)
  rw [lg_entry_eq]
  generalize (lg_sl ([.ref oM, .int ka]) ++ List.replicate (3 - (lg_sl ([.ref oM, .int ka])).length) Slot.unset).toArray = ls at hl ⊢
  have hl : lv_has ls 3 [(0, .ref oM), (1, .int ka)] := hl
  refine lv_iload_n hx hb d_Mo_act_0 rfl (lv_at hl 1 rfl) ?_
  refine lv_if_lt (tgt := 10) hx hb d_Mo_act_1 (by decide) (fun h1 => ?_) (fun h1 => ?_)
  · refine lv_iconst (v := (-1)) hx hb d_Mo_act_10 (by decide) ?_
    exact W.iret (v := (-1)) hx hb hr (fun t ht hW => ⟨⟨_, (), rfl, (by unfold fn_Mo_act; rw [if_pos h1]), trivial⟩, hS.F ht⟩) hS.2.2 d_Mo_act_11
  · refine lv_iload_n hx hb d_Mo_act_4 rfl (lv_at hl 1 rfl) ?_
    refine lv_bipush (v := 31) hx hb d_Mo_act_5 (by decide) ?_
    refine lv_icmp_le (tgt := 12) hx hb d_Mo_act_7 (by decide) (fun h7 => ?_) (fun h7 => ?_)
    · refine lv_aload_n hx hb d_Mo_act_12 rfl (lv_at hl 0 rfl) ?_
      refine lv_iload_n hx hb d_Mo_act_13 rfl (lv_at hl 1 rfl) ?_
      have hPc := hP.sub (ws' := [(oM, .inr (12, fm)), (am_xs, .inl (cI, 32, .inl (fun _ => 0))), (am_ys, .inl (cI, 32, .inl (fun _ => 0))), (am_does, .inl (cI, 32, .inl ((fun _ => (-1)))))]) [0, 1, 2, 3] rfl
      have hDc := hD.sub (ws' := [(oM, .inr (12, fm)), (am_xs, .inl (cI, 32, .inl (fun _ => 0))), (am_ys, .inl (cI, 32, .inl (fun _ => 0))), (am_does, .inl (cI, 32, .inl ((fun _ => (-1)))))]) [0, 1, 2, 3] (by decide) rfl
      have hFc := pu_free hS hA
      refine va_calli (va_runV (C := R_Mo) (As := [.int ka]) (rest := []) ⟨hx, hb, hml, hown, hts⟩ (c_Mo_perform l dC dI cI cB cZ cJ ka h1 (Int32.not_lt.mpr h7) oM am_xs am_ys am_does fm hm_does hm_xs hm_ys s.heap.size) (cwV 1 hts (tb_V mw_2466 mw_2468 sl_160 mw_18 mw_2469) rfl rfl rfl ⟨rfl, by decide +kernel, by decide +kernel, by decide +kernel⟩ ⟨(Nat.le_of_ble_eq_true rfl), (Nat.le_of_ble_eq_true rfl)⟩) ⟨pw_blind, va_recv (q := (R_Mo, F_Mo, 87)) hK.1 hP (ci := 12) (q0 := 0) rfl rfl, pw_pre hPc hK hDc⟩ rfl rfl hl.1 rfl (lv_room (Nat.le_of_ble_eq_true rfl)) d_Mo_act_14 ⟨(Nat.le_of_ble_eq_true rfl), (Nat.le_of_ble_eq_true rfl)⟩) hS (fun q _ h => hFc q h) hFc (fun r u t H locs ht hvm hw hB hz1 hk1 hS => ?_)
      have hP := pu_kept hP hk1
      obtain rfl : r = 1 := hw
      refine lv_istore_n hx hb d_Mo_act_17 rfl hl (by decide) rfl (fun ls hl => ?_)
      have hl : lv_has ls 3 [(2, .int 1), (0, .ref oM), (1, .int ka)] := hl
      refine lv_iload_n hx hb d_Mo_act_18 rfl (lv_at hl 0 rfl) ?_
      refine lv_if_le (tgt := 31) hx hb d_Mo_act_19 (by decide) (fun h => absurd h (by decide)) (fun _ => ?_)
      refine lv_aload_n hx hb d_Mo_act_22 rfl (lv_at hl 1 rfl) ?_
      refine lv_iconst (v := (-1)) hx hb d_Mo_act_23 (by decide) ?_
      refine lv_bipush (v := 10) hx hb d_Mo_act_24 (by decide) ?_
      refine lv_iload_n hx hb d_Mo_act_26 rfl (lv_at hl 0 rfl) ?_
      refine lv_iadd hx hb d_Mo_act_27 ?_
      refine lv_topi (fun x0 e0 => ?_)
      obtain rfl : x0 = 11 := e0.trans (by decide)
      have hPc := hP.sub (ws' := [(oM, .inr (12, fm)), (am_alarmSeconds, .inl (cI, 200, .inl (fun _ => 0))), (am_alarmNodes, .inl (cI, 200, .inl (fun _ => 0))), (am_alarmKinds, .inl (cI, 200, .inl (fun _ => 0)))]) [0, 4, 5, 6] rfl
      have hDc := hD.sub (ws' := [(oM, .inr (12, fm)), (am_alarmSeconds, .inl (cI, 200, .inl (fun _ => 0))), (am_alarmNodes, .inl (cI, 200, .inl (fun _ => 0))), (am_alarmKinds, .inl (cI, 200, .inl (fun _ => 0)))]) [0, 4, 5, 6] (by decide) rfl
      have hFc := va_free (wc := [(oM, .inr (12, fm)), (am_alarmSeconds, .inl (cI, 200, .inl (fun _ => 0))), (am_alarmNodes, .inl (cI, 200, .inl (fun _ => 0))), (am_alarmKinds, .inl (cI, 200, .inl (fun _ => 0)))]) hD hS hA [0, 4, 5, 6] rfl
      refine va_callv (va_runV (C := R_Mo) (As := [.int (-1), .int 11]) (rest := []) ⟨hx, hb, hml, hown, hts⟩ (c_Mo_raise l dC dI cI cB cZ cJ (-1) 11 oM am_alarmSeconds am_alarmNodes am_alarmKinds fm hm_now hm_alarms hm_alarmSeconds hm_alarmNodes hm_alarmKinds H.size) (cwV 2 hts (tb_V mw_2513 mw_2515 sl_170 mw_18 mw_2516) rfl rfl rfl ⟨rfl, by decide +kernel, by decide +kernel, by decide +kernel⟩ ⟨(Nat.le_of_ble_eq_true rfl), (Nat.le_of_ble_eq_true rfl)⟩) ⟨pw_blind, va_recv (q := (R_Mo, F_Mo, 87)) hK.1 hP (ci := 12) (q0 := 0) rfl rfl, pw_pre hPc hK hDc⟩ rfl rfl hl.1 rfl (lv_room (Nat.le_of_ble_eq_true rfl)) d_Mo_act_28 ⟨(Nat.le_of_ble_eq_true rfl), (Nat.le_of_ble_eq_true rfl)⟩) hS (fun q _ h => hFc q h) hFc (fun u t H locs ht hvm hw hB hz1 hk1 hS => ?_)
      obtain ⟨hP, hD⟩ := va_join (wr := [(am_xs, .inl (cI, 32, .inl (fun _ => 0))), (am_ys, .inl (cI, 32, .inl (fun _ => 0))), (am_does, .inl (cI, 32, .inl ((fun _ => (-1)))))]) (w1 := []) hP hD [0, 4, 5, 6] [1, 2, 3] rfl rfl (by decide) (by decide) hk1 hFc wn_P wn_D
      have hP : va_P (dC, dI) classes [(am_xs, .inl (cI, 32, .inl (fun _ => 0))), (am_ys, .inl (cI, 32, .inl (fun _ => 0))), (am_does, .inl (cI, 32, .inl ((fun _ => (-1)))))] H := hP
      have hD : va_D A [(am_xs, .inl (cI, 32, .inl (fun _ => 0))), (am_ys, .inl (cI, 32, .inl (fun _ => 0))), (am_does, .inl (cI, 32, .inl ((fun _ => (-1)))))] := hD
      refine lv_iload_n hx hb d_Mo_act_31 rfl (lv_at hl 0 rfl) ?_
      exact W.iret (v := 1) hx hb hr (fun t ht hW => ⟨⟨_, (), rfl, (by unfold fn_Mo_act; rw [if_neg h1, if_pos h7]), trivial⟩, hS.F ht⟩) hS.2.2 d_Mo_act_32
    · refine lv_iconst (v := (-1)) hx hb d_Mo_act_10 (by decide) ?_
      exact W.iret (v := (-1)) hx hb hr (fun t ht hW => ⟨⟨_, (), rfl, (by unfold fn_Mo_act; rw [if_neg h1, if_neg h7]), trivial⟩, hS.F ht⟩) hS.2.2 d_Mo_act_11
theorem d_Mo_watch_0 : decode b_Mo_watch 0 = .ok (.iload_n 1, 1) := by decide +kernel
theorem d_Mo_watch_1 : decode b_Mo_watch 1 = .ok (.ifCond .lt 18, 3) := by decide +kernel
theorem d_Mo_watch_4 : decode b_Mo_watch 4 = .ok (.iload_n 1, 1) := by decide +kernel
theorem d_Mo_watch_5 : decode b_Mo_watch 5 = .ok (.bipush 15, 2) := by decide +kernel
theorem d_Mo_watch_7 : decode b_Mo_watch 7 = .ok (.if_icmp .gt 12, 3) := by decide +kernel
theorem d_Mo_watch_10 : decode b_Mo_watch 10 = .ok (.iload_n 2, 1) := by decide +kernel
theorem d_Mo_watch_11 : decode b_Mo_watch 11 = .ok (.ifCond .lt 8, 3) := by decide +kernel
theorem d_Mo_watch_14 : decode b_Mo_watch 14 = .ok (.iload_n 2, 1) := by decide +kernel
theorem d_Mo_watch_15 : decode b_Mo_watch 15 = .ok (.iconst 5, 1) := by decide +kernel
theorem d_Mo_watch_16 : decode b_Mo_watch 16 = .ok (.if_icmp .le 5, 3) := by decide +kernel
theorem d_Mo_watch_19 : decode b_Mo_watch 19 = .ok (.iconst 0, 1) := by decide +kernel
theorem d_Mo_watch_20 : decode b_Mo_watch 20 = .ok (.ireturn, 1) := by decide +kernel
theorem d_Mo_watch_21 : decode b_Mo_watch 21 = .ok (.aload_n 0, 1) := by decide +kernel
theorem d_Mo_watch_22 : decode b_Mo_watch 22 = .ok (.getfield 150, 3) := by decide +kernel
theorem d_Mo_watch_25 : decode b_Mo_watch 25 = .ok (.iload_n 1, 1) := by decide +kernel
theorem d_Mo_watch_26 : decode b_Mo_watch 26 = .ok (.iload_n 2, 1) := by decide +kernel
theorem d_Mo_watch_27 : decode b_Mo_watch 27 = .ok (.iastore, 1) := by decide +kernel
theorem d_Mo_watch_28 : decode b_Mo_watch 28 = .ok (.aload_n 0, 1) := by decide +kernel
theorem d_Mo_watch_29 : decode b_Mo_watch 29 = .ok (.getfield 153, 3) := by decide +kernel
theorem d_Mo_watch_32 : decode b_Mo_watch 32 = .ok (.iload_n 1, 1) := by decide +kernel
theorem d_Mo_watch_33 : decode b_Mo_watch 33 = .ok (.iload_n 3, 1) := by decide +kernel
theorem d_Mo_watch_34 : decode b_Mo_watch 34 = .ok (.iastore, 1) := by decide +kernel
theorem d_Mo_watch_35 : decode b_Mo_watch 35 = .ok (.aload_n 0, 1) := by decide +kernel
theorem d_Mo_watch_36 : decode b_Mo_watch 36 = .ok (.getfield 156, 3) := by decide +kernel
theorem d_Mo_watch_39 : decode b_Mo_watch 39 = .ok (.iload_n 1, 1) := by decide +kernel
theorem d_Mo_watch_40 : decode b_Mo_watch 40 = .ok (.lload 4, 2) := by decide +kernel
theorem d_Mo_watch_42 : decode b_Mo_watch 42 = .ok (.lastore, 1) := by decide +kernel
theorem d_Mo_watch_43 : decode b_Mo_watch 43 = .ok (.iconst 1, 1) := by decide +kernel
theorem d_Mo_watch_44 : decode b_Mo_watch 44 = .ok (.ireturn, 1) := by decide +kernel
def fn_Mo_watch (cc_ : Int32) (wh : Int32) (xx : Int32) (le : Int64) : Int32 := (if cc_ < 0 then 0 else (if 15 < cc_ then 0 else (if wh < 0 then 0 else (if wh ≤ 5 then 1 else 0))))
set_option maxHeartbeats 4000000 in
set_option maxRecDepth 100000 in
theorem c_Mo_watch (l : Launch) (dC : Nat → ClassId) (dI : Nat → Nat → Nat) (cI cB cZ cJ : ClassId) (cc_ : Int32) (wh : Int32) (xx : Int32) (le : Int64) (oM : Nat) (am_watchWhat : Nat) (am_watchOf : Nat) (am_watchLeast : Nat) (fm : List Value) (hm_watchWhat : fm[55]? = some (.ref am_watchWhat)) (hm_watchOf : fm[56]? = some (.ref am_watchOf)) (hm_watchLeast : fm[57]? = some (.ref am_watchLeast)) (sz : Nat) : Met l y_Mo_watch w_Mo_watch ({ frames := 0, cells := 0, slots := 0, locals := 0 }) (va_Pc [.ref oM, .int cc_, .int wh, .int xx, .long le] (PW dC dI cI cB cZ cJ [(oM, .inr (12, fm)), (am_watchWhat, .inl (cI, 16, .inl ((fun _ => (-1))))), (am_watchOf, .inl (cI, 16, .inl (fun _ => 0))), (am_watchLeast, .inl (cJ, 16, .inr (.inl (fun _ => 0))))] sz)) (va_Qi (fun (r : Int32) (_ : Unit) => r = fn_Mo_watch cc_ wh xx le) (fun _ _ => True) (va_A [(oM, .inr (12, fm)), (am_watchWhat, .inl (cI, 16, .inl ((fun _ => (-1))))), (am_watchOf, .inl (cI, 16, .inl (fun _ => 0))), (am_watchLeast, .inl (cJ, 16, .inr (.inl (fun _ => 0))))] sz)) 0 0 (va_A [(oM, .inr (12, fm)), (am_watchWhat, .inl (cI, 16, .inl ((fun _ => (-1))))), (am_watchOf, .inl (cI, 16, .inl (fun _ => 0))), (am_watchLeast, .inl (cJ, 16, .inr (.inl (fun _ => 0))))] sz) := by
  refine Met.ofW (cc := b_Mo_watch) (maxL := 6) (ret := (some .boolean)) (by decide) rfl ?_
  intro p e s m args below meth c s₁ B hml hv
  obtain ⟨rfl, hsz, hP, hK, hD⟩ := hv
  have hx := B.exec
  have hb := B.bytes
  have hr := B.returns
  have hts := atoms_spec (ws := w_Mo_watch) B.pre
  have hown : s.vm.findClass R_Mo = some m.cls := findClass_of_methodNamed B.named
  have hlocks := B.notSynchronized
  subst hsz
  have hD := hD.self (sz := s.heap.size)
  generalize hAe : va_A [(oM, .inr (12, fm)), (am_watchWhat, .inl (cI, 16, .inl ((fun _ => (-1))))), (am_watchOf, .inl (cI, 16, .inl (fun _ => 0))), (am_watchLeast, .inl (cJ, 16, .inr (.inl (fun _ => 0))))] s.heap.size = A at hD ⊢
  have hA : ∀ q : Nat, s.heap.size ≤ q → A q := fun q h => by rw [← hAe]; exact Or.inr h
  have hS : va_S A s.heap s.heap [] := va_S.rf
  have hP : va_P (dC, dI) classes [(oM, .inr (12, fm)), (am_watchWhat, .inl (cI, 16, .inl ((fun _ => (-1))))), (am_watchOf, .inl (cI, 16, .inl (fun _ => 0))), (am_watchLeast, .inl (cJ, 16, .inr (.inl (fun _ => 0))))] s.heap := hP
  have hl := lv_entry ([.ref oM, .int cc_, .int wh, .int xx, .long le]) (n := 6) (Nat.le_of_ble_eq_true rfl)
  rw [lg_entry_eq]
  generalize (lg_sl ([.ref oM, .int cc_, .int wh, .int xx, .long le]) ++ List.replicate (6 - (lg_sl ([.ref oM, .int cc_, .int wh, .int xx, .long le])).length) Slot.unset).toArray = ls at hl ⊢
  have hl : lv_has ls 6 [(0, .ref oM), (1, .int cc_), (2, .int wh), (3, .int xx), (4, .long le)] := hl
  refine lv_iload_n hx hb d_Mo_watch_0 rfl (lv_at hl 1 rfl) ?_
  refine lv_if_lt (tgt := 19) hx hb d_Mo_watch_1 (by decide) (fun h1 => ?_) (fun h1 => ?_)
  · refine lv_iconst (v := 0) hx hb d_Mo_watch_19 (by decide) ?_
    exact W.zret (v := 0) (ty := .boolean) hx hb hr (by decide) (fun t ht hW => ⟨⟨_, (), rfl, (by unfold fn_Mo_watch; rw [if_pos h1]), trivial⟩, hS.F ht⟩) hS.2.2 d_Mo_watch_20
  · refine lv_iload_n hx hb d_Mo_watch_4 rfl (lv_at hl 1 rfl) ?_
    refine lv_bipush (v := 15) hx hb d_Mo_watch_5 (by decide) ?_
    refine lv_icmp_gt (tgt := 19) hx hb d_Mo_watch_7 (by decide) (fun h7 => ?_) (fun h7 => ?_)
    · refine lv_iconst (v := 0) hx hb d_Mo_watch_19 (by decide) ?_
      exact W.zret (v := 0) (ty := .boolean) hx hb hr (by decide) (fun t ht hW => ⟨⟨_, (), rfl, (by unfold fn_Mo_watch; rw [if_neg h1, if_pos h7]), trivial⟩, hS.F ht⟩) hS.2.2 d_Mo_watch_20
    · refine lv_iload_n hx hb d_Mo_watch_10 rfl (lv_at hl 2 rfl) ?_
      refine lv_if_lt (tgt := 19) hx hb d_Mo_watch_11 (by decide) (fun h11 => ?_) (fun h11 => ?_)
      · refine lv_iconst (v := 0) hx hb d_Mo_watch_19 (by decide) ?_
        exact W.zret (v := 0) (ty := .boolean) hx hb hr (by decide) (fun t ht hW => ⟨⟨_, (), rfl, (by unfold fn_Mo_watch; rw [if_neg h1, if_neg h7, if_pos h11]), trivial⟩, hS.F ht⟩) hS.2.2 d_Mo_watch_20
      · refine lv_iload_n hx hb d_Mo_watch_14 rfl (lv_at hl 2 rfl) ?_
        refine lv_iconst (v := 5) hx hb d_Mo_watch_15 (by decide) ?_
        refine lv_icmp_le (tgt := 21) hx hb d_Mo_watch_16 (by decide) (fun h16 => ?_) (fun h16 => ?_)
        · refine lv_aload_n hx hb d_Mo_watch_21 rfl (lv_at hl 0 rfl) ?_
          refine va_get (D := (dC, dI)) (ci := 12) (v := .ref am_watchWhat) (C := R_Mo) (T := F_Mo) (N := 87) hx hb hts (fun w h => List.mem_cons_of_mem _ (in_Mo w h)) hown hK.1 hP 0 rfl rfl 55 (by decide) (hts _ (List.mem_cons_of_mem _ mw_1841)) (fun _ h9 => h9) hm_watchWhat d_Mo_watch_22 ?_
          refine lv_iload_n hx hb d_Mo_watch_25 rfl (lv_at hl 1 rfl) ?_
          refine lv_iload_n hx hb d_Mo_watch_26 rfl (lv_at hl 2 rfl) ?_
          refine va_iast hx hb hK.1 hP hD hS 1 0 rfl rfl (ir_in h1 h7 (by decide) (by decide)) d_Mo_watch_27 (fun H locs hP hD hS => ?_)
          have hP : va_P (dC, dI) classes [(oM, .inr (12, fm)), (am_watchWhat, .inl (cI, 16, .inl ((upd ((fun _ => (-1))) (cc_ : Int32).toNatClampNeg wh)))), (am_watchOf, .inl (cI, 16, .inl (fun _ => 0))), (am_watchLeast, .inl (cJ, 16, .inr (.inl (fun _ => 0))))] H := hP
          have hD : va_D A [(oM, .inr (12, fm)), (am_watchWhat, .inl (cI, 16, .inl ((upd ((fun _ => (-1))) (cc_ : Int32).toNatClampNeg wh)))), (am_watchOf, .inl (cI, 16, .inl (fun _ => 0))), (am_watchLeast, .inl (cJ, 16, .inr (.inl (fun _ => 0))))] := hD
          generalize (upd ((fun _ => (-1))) (cc_ : Int32).toNatClampNeg wh) = f27_5 at hP hD
          refine lv_aload_n hx hb d_Mo_watch_28 rfl (lv_at hl 0 rfl) ?_
          refine va_get (D := (dC, dI)) (ci := 12) (v := .ref am_watchOf) (C := R_Mo) (T := F_Mo) (N := 87) hx hb hts (fun w h => List.mem_cons_of_mem _ (in_Mo w h)) hown hK.1 hP 0 rfl rfl 56 (by decide) (hts _ (List.mem_cons_of_mem _ mw_1842)) (fun _ h9 => h9) hm_watchOf d_Mo_watch_29 ?_
          refine lv_iload_n hx hb d_Mo_watch_32 rfl (lv_at hl 1 rfl) ?_
          refine lv_iload_n hx hb d_Mo_watch_33 rfl (lv_at hl 3 rfl) ?_
          refine va_iast hx hb hK.1 hP hD hS 2 0 rfl rfl (ir_in h1 h7 (by decide) (by decide)) d_Mo_watch_34 (fun H locs hP hD hS => ?_)
          have hP : va_P (dC, dI) classes [(oM, .inr (12, fm)), (am_watchWhat, .inl (cI, 16, .inl f27_5)), (am_watchOf, .inl (cI, 16, .inl ((upd (fun _ => 0) (cc_ : Int32).toNatClampNeg xx)))), (am_watchLeast, .inl (cJ, 16, .inr (.inl (fun _ => 0))))] H := hP
          have hD : va_D A [(oM, .inr (12, fm)), (am_watchWhat, .inl (cI, 16, .inl f27_5)), (am_watchOf, .inl (cI, 16, .inl ((upd (fun _ => 0) (cc_ : Int32).toNatClampNeg xx)))), (am_watchLeast, .inl (cJ, 16, .inr (.inl (fun _ => 0))))] := hD
          generalize (upd (fun _ => 0) (cc_ : Int32).toNatClampNeg xx) = f34_6 at hP hD
          refine lv_aload_n hx hb d_Mo_watch_35 rfl (lv_at hl 0 rfl) ?_
          refine va_get (D := (dC, dI)) (ci := 12) (v := .ref am_watchLeast) (C := R_Mo) (T := F_Mo) (N := 87) hx hb hts (fun w h => List.mem_cons_of_mem _ (in_Mo w h)) hown hK.1 hP 0 rfl rfl 57 (by decide) (hts _ (List.mem_cons_of_mem _ mw_1843)) (fun _ h9 => h9) hm_watchLeast d_Mo_watch_36 ?_
          refine lv_iload_n hx hb d_Mo_watch_39 rfl (lv_at hl 1 rfl) ?_
          refine lv_lload hx hb d_Mo_watch_40 (lv_at hl 4 rfl) ?_
          refine va_last hx hb hK.1 hP hD hS 3 3 rfl rfl (ir_in h1 h7 (by decide) (by decide)) d_Mo_watch_42 (fun H locs hP hD hS => ?_)
          have hP : va_P (dC, dI) classes [(oM, .inr (12, fm)), (am_watchWhat, .inl (cI, 16, .inl f27_5)), (am_watchOf, .inl (cI, 16, .inl f34_6)), (am_watchLeast, .inl (cJ, 16, .inr (.inl ((vp_updL (fun _ => 0) (cc_ : Int32).toNatClampNeg le)))))] H := hP
          have hD : va_D A [(oM, .inr (12, fm)), (am_watchWhat, .inl (cI, 16, .inl f27_5)), (am_watchOf, .inl (cI, 16, .inl f34_6)), (am_watchLeast, .inl (cJ, 16, .inr (.inl ((vp_updL (fun _ => 0) (cc_ : Int32).toNatClampNeg le)))))] := hD
          generalize (vp_updL (fun _ => 0) (cc_ : Int32).toNatClampNeg le) = f42_7 at hP hD
          refine lv_iconst (v := 1) hx hb d_Mo_watch_43 (by decide) ?_
          exact W.zret (v := 1) (ty := .boolean) hx hb hr (by decide) (fun t ht hW => ⟨⟨_, (), rfl, (by unfold fn_Mo_watch; rw [if_neg h1, if_neg h7, if_neg h11, if_pos h16]), trivial⟩, hS.F ht⟩) hS.2.2 d_Mo_watch_44
        · refine lv_iconst (v := 0) hx hb d_Mo_watch_19 (by decide) ?_
          exact W.zret (v := 0) (ty := .boolean) hx hb hr (by decide) (fun t ht hW => ⟨⟨_, (), rfl, (by unfold fn_Mo_watch; rw [if_neg h1, if_neg h7, if_neg h11, if_neg h16]), trivial⟩, hS.F ht⟩) hS.2.2 d_Mo_watch_20
theorem d_Mo_bind_0 : decode b_Mo_bind 0 = .ok (.iload_n 1, 1) := by decide +kernel
theorem d_Mo_bind_1 : decode b_Mo_bind 1 = .ok (.ifCond .lt 69, 3) := by decide +kernel
theorem d_Mo_bind_4 : decode b_Mo_bind 4 = .ok (.iload_n 1, 1) := by decide +kernel
theorem d_Mo_bind_5 : decode b_Mo_bind 5 = .ok (.bipush 31, 2) := by decide +kernel
theorem d_Mo_bind_7 : decode b_Mo_bind 7 = .ok (.if_icmp .gt 63, 3) := by decide +kernel
theorem d_Mo_bind_10 : decode b_Mo_bind 10 = .ok (.iload_n 2, 1) := by decide +kernel
theorem d_Mo_bind_11 : decode b_Mo_bind 11 = .ok (.ifCond .lt 59, 3) := by decide +kernel
theorem d_Mo_bind_14 : decode b_Mo_bind 14 = .ok (.iload_n 2, 1) := by decide +kernel
theorem d_Mo_bind_15 : decode b_Mo_bind 15 = .ok (.iconst 4, 1) := by decide +kernel
theorem d_Mo_bind_16 : decode b_Mo_bind 16 = .ok (.if_icmp .gt 54, 3) := by decide +kernel
theorem d_Mo_bind_19 : decode b_Mo_bind 19 = .ok (.iload_n 2, 1) := by decide +kernel
theorem d_Mo_bind_20 : decode b_Mo_bind 20 = .ok (.ifCond .ne 16, 3) := by decide +kernel
theorem d_Mo_bind_23 : decode b_Mo_bind 23 = .ok (.iload 5, 2) := by decide +kernel
theorem d_Mo_bind_25 : decode b_Mo_bind 25 = .ok (.iconst 1, 1) := by decide +kernel
theorem d_Mo_bind_26 : decode b_Mo_bind 26 = .ok (.if_icmp .lt 44, 3) := by decide +kernel
theorem d_Mo_bind_29 : decode b_Mo_bind 29 = .ok (.iload 5, 2) := by decide +kernel
theorem d_Mo_bind_31 : decode b_Mo_bind 31 = .ok (.bipush 100, 2) := by decide +kernel
theorem d_Mo_bind_33 : decode b_Mo_bind 33 = .ok (.if_icmp .gt 37, 3) := by decide +kernel
theorem d_Mo_bind_36 : decode b_Mo_bind 36 = .ok (.iload_n 2, 1) := by decide +kernel
theorem d_Mo_bind_37 : decode b_Mo_bind 37 = .ok (.iconst 2, 1) := by decide +kernel
theorem d_Mo_bind_38 : decode b_Mo_bind 38 = .ok (.if_icmp .ne 15, 3) := by decide +kernel
theorem d_Mo_bind_41 : decode b_Mo_bind 41 = .ok (.iload 4, 2) := by decide +kernel
theorem d_Mo_bind_43 : decode b_Mo_bind 43 = .ok (.ifCond .lt 27, 3) := by decide +kernel
theorem d_Mo_bind_46 : decode b_Mo_bind 46 = .ok (.iload 4, 2) := by decide +kernel
theorem d_Mo_bind_48 : decode b_Mo_bind 48 = .ok (.bipush 9, 2) := by decide +kernel
theorem d_Mo_bind_50 : decode b_Mo_bind 50 = .ok (.if_icmp .gt 20, 3) := by decide +kernel
theorem d_Mo_bind_53 : decode b_Mo_bind 53 = .ok (.iload_n 2, 1) := by decide +kernel
theorem d_Mo_bind_54 : decode b_Mo_bind 54 = .ok (.iconst 3, 1) := by decide +kernel
theorem d_Mo_bind_55 : decode b_Mo_bind 55 = .ok (.if_icmp .ne 17, 3) := by decide +kernel
theorem d_Mo_bind_58 : decode b_Mo_bind 58 = .ok (.iload 4, 2) := by decide +kernel
theorem d_Mo_bind_60 : decode b_Mo_bind 60 = .ok (.iconst 1, 1) := by decide +kernel
theorem d_Mo_bind_61 : decode b_Mo_bind 61 = .ok (.if_icmp .lt 9, 3) := by decide +kernel
theorem d_Mo_bind_64 : decode b_Mo_bind 64 = .ok (.iload 4, 2) := by decide +kernel
theorem d_Mo_bind_66 : decode b_Mo_bind 66 = .ok (.iconst 5, 1) := by decide +kernel
theorem d_Mo_bind_67 : decode b_Mo_bind 67 = .ok (.if_icmp .le 5, 3) := by decide +kernel
theorem d_Mo_bind_70 : decode b_Mo_bind 70 = .ok (.iconst 0, 1) := by decide +kernel
theorem d_Mo_bind_71 : decode b_Mo_bind 71 = .ok (.ireturn, 1) := by decide +kernel
theorem d_Mo_bind_72 : decode b_Mo_bind 72 = .ok (.aload_n 0, 1) := by decide +kernel
theorem d_Mo_bind_73 : decode b_Mo_bind 73 = .ok (.getfield 132, 3) := by decide +kernel
theorem d_Mo_bind_76 : decode b_Mo_bind 76 = .ok (.iload_n 1, 1) := by decide +kernel
theorem d_Mo_bind_77 : decode b_Mo_bind 77 = .ok (.iload_n 2, 1) := by decide +kernel
theorem d_Mo_bind_78 : decode b_Mo_bind 78 = .ok (.iastore, 1) := by decide +kernel
theorem d_Mo_bind_79 : decode b_Mo_bind 79 = .ok (.aload_n 0, 1) := by decide +kernel
theorem d_Mo_bind_80 : decode b_Mo_bind 80 = .ok (.getfield 135, 3) := by decide +kernel
theorem d_Mo_bind_83 : decode b_Mo_bind 83 = .ok (.iload_n 1, 1) := by decide +kernel
theorem d_Mo_bind_84 : decode b_Mo_bind 84 = .ok (.iload_n 3, 1) := by decide +kernel
theorem d_Mo_bind_85 : decode b_Mo_bind 85 = .ok (.iastore, 1) := by decide +kernel
theorem d_Mo_bind_86 : decode b_Mo_bind 86 = .ok (.aload_n 0, 1) := by decide +kernel
theorem d_Mo_bind_87 : decode b_Mo_bind 87 = .ok (.getfield 138, 3) := by decide +kernel
theorem d_Mo_bind_90 : decode b_Mo_bind 90 = .ok (.iload_n 1, 1) := by decide +kernel
theorem d_Mo_bind_91 : decode b_Mo_bind 91 = .ok (.iload 4, 2) := by decide +kernel
theorem d_Mo_bind_93 : decode b_Mo_bind 93 = .ok (.iastore, 1) := by decide +kernel
theorem d_Mo_bind_94 : decode b_Mo_bind 94 = .ok (.aload_n 0, 1) := by decide +kernel
theorem d_Mo_bind_95 : decode b_Mo_bind 95 = .ok (.getfield 141, 3) := by decide +kernel
theorem d_Mo_bind_98 : decode b_Mo_bind 98 = .ok (.iload_n 1, 1) := by decide +kernel
theorem d_Mo_bind_99 : decode b_Mo_bind 99 = .ok (.iload 5, 2) := by decide +kernel
theorem d_Mo_bind_101 : decode b_Mo_bind 101 = .ok (.iastore, 1) := by decide +kernel
theorem d_Mo_bind_102 : decode b_Mo_bind 102 = .ok (.iconst 1, 1) := by decide +kernel
theorem d_Mo_bind_103 : decode b_Mo_bind 103 = .ok (.ireturn, 1) := by decide +kernel
def fn_Mo_bind (ka : Int32) (wh : Int32) (xx : Int32) (yy : Int32) (zz : Int32) : Int32 := (if ka < 0 then 0 else (if 31 < ka then 0 else (if wh < 0 then 0 else (if 4 < wh then 0 else (if wh = 0 then (if zz < 1 then 0 else (if 100 < zz then 0 else (if wh = 2 then (if yy < 0 then 0 else (if 9 < yy then 0 else (if wh = 3 then (if yy < 1 then 0 else (if yy ≤ 5 then 1 else 0)) else 1))) else (if wh = 3 then (if yy < 1 then 0 else (if yy ≤ 5 then 1 else 0)) else 1)))) else (if wh = 2 then (if yy < 0 then 0 else (if 9 < yy then 0 else (if wh = 3 then (if yy < 1 then 0 else (if yy ≤ 5 then 1 else 0)) else 1))) else (if wh = 3 then (if yy < 1 then 0 else (if yy ≤ 5 then 1 else 0)) else 1)))))))
set_option maxHeartbeats 4000000 in
set_option maxRecDepth 100000 in
theorem c_Mo_bind (l : Launch) (dC : Nat → ClassId) (dI : Nat → Nat → Nat) (cI cB cZ cJ : ClassId) (ka : Int32) (wh : Int32) (xx : Int32) (yy : Int32) (zz : Int32) (oM : Nat) (am_does : Nat) (am_xs : Nat) (am_ys : Nat) (am_zs : Nat) (fm : List Value) (hm_does : fm[49]? = some (.ref am_does)) (hm_xs : fm[50]? = some (.ref am_xs)) (hm_ys : fm[51]? = some (.ref am_ys)) (hm_zs : fm[52]? = some (.ref am_zs)) (sz : Nat) : Met l y_Mo_bind w_Mo_bind ({ frames := 0, cells := 0, slots := 0, locals := 0 }) (va_Pc [.ref oM, .int ka, .int wh, .int xx, .int yy, .int zz] (PW dC dI cI cB cZ cJ [(oM, .inr (12, fm)), (am_does, .inl (cI, 32, .inl ((fun _ => (-1))))), (am_xs, .inl (cI, 32, .inl (fun _ => 0))), (am_ys, .inl (cI, 32, .inl (fun _ => 0))), (am_zs, .inl (cI, 32, .inl (fun _ => 0)))] sz)) (va_Qi (fun (r : Int32) (_ : Unit) => r = fn_Mo_bind ka wh xx yy zz) (fun _ _ => True) (va_A [(oM, .inr (12, fm)), (am_does, .inl (cI, 32, .inl ((fun _ => (-1))))), (am_xs, .inl (cI, 32, .inl (fun _ => 0))), (am_ys, .inl (cI, 32, .inl (fun _ => 0))), (am_zs, .inl (cI, 32, .inl (fun _ => 0)))] sz)) 0 0 (va_A [(oM, .inr (12, fm)), (am_does, .inl (cI, 32, .inl ((fun _ => (-1))))), (am_xs, .inl (cI, 32, .inl (fun _ => 0))), (am_ys, .inl (cI, 32, .inl (fun _ => 0))), (am_zs, .inl (cI, 32, .inl (fun _ => 0)))] sz) := by
  refine Met.ofW (cc := b_Mo_bind) (maxL := 6) (ret := (some .boolean)) (by decide) rfl ?_
  intro p e s m args below meth c s₁ B hml hv
  obtain ⟨rfl, hsz, hP, hK, hD⟩ := hv
  have hx := B.exec
  have hb := B.bytes
  have hr := B.returns
  have hts := atoms_spec (ws := w_Mo_bind) B.pre
  have hown : s.vm.findClass R_Mo = some m.cls := findClass_of_methodNamed B.named
  have hlocks := B.notSynchronized
  subst hsz
  have hD := hD.self (sz := s.heap.size)
  generalize hAe : va_A [(oM, .inr (12, fm)), (am_does, .inl (cI, 32, .inl ((fun _ => (-1))))), (am_xs, .inl (cI, 32, .inl (fun _ => 0))), (am_ys, .inl (cI, 32, .inl (fun _ => 0))), (am_zs, .inl (cI, 32, .inl (fun _ => 0)))] s.heap.size = A at hD ⊢
  have hA : ∀ q : Nat, s.heap.size ≤ q → A q := fun q h => by rw [← hAe]; exact Or.inr h
  have hS : va_S A s.heap s.heap [] := va_S.rf
  have hP : va_P (dC, dI) classes [(oM, .inr (12, fm)), (am_does, .inl (cI, 32, .inl ((fun _ => (-1))))), (am_xs, .inl (cI, 32, .inl (fun _ => 0))), (am_ys, .inl (cI, 32, .inl (fun _ => 0))), (am_zs, .inl (cI, 32, .inl (fun _ => 0)))] s.heap := hP
  have hl := lv_entry ([.ref oM, .int ka, .int wh, .int xx, .int yy, .int zz]) (n := 6) (Nat.le_of_ble_eq_true rfl)
  rw [lg_entry_eq]
  generalize (lg_sl ([.ref oM, .int ka, .int wh, .int xx, .int yy, .int zz]) ++ List.replicate (6 - (lg_sl ([.ref oM, .int ka, .int wh, .int xx, .int yy, .int zz])).length) Slot.unset).toArray = ls at hl ⊢
  have hl : lv_has ls 6 [(0, .ref oM), (1, .int ka), (2, .int wh), (3, .int xx), (4, .int yy), (5, .int zz)] := hl
  refine lv_iload_n hx hb d_Mo_bind_0 rfl (lv_at hl 1 rfl) ?_
  refine lv_if_lt (tgt := 70) hx hb d_Mo_bind_1 (by decide) (fun h1 => ?_) (fun h1 => ?_)
  · refine lv_iconst (v := 0) hx hb d_Mo_bind_70 (by decide) ?_
    exact W.zret (v := 0) (ty := .boolean) hx hb hr (by decide) (fun t ht hW => ⟨⟨_, (), rfl, (by unfold fn_Mo_bind; rw [if_pos h1]), trivial⟩, hS.F ht⟩) hS.2.2 d_Mo_bind_71
  · refine lv_iload_n hx hb d_Mo_bind_4 rfl (lv_at hl 1 rfl) ?_
    refine lv_bipush (v := 31) hx hb d_Mo_bind_5 (by decide) ?_
    refine lv_icmp_gt (tgt := 70) hx hb d_Mo_bind_7 (by decide) (fun h7 => ?_) (fun h7 => ?_)
    · refine lv_iconst (v := 0) hx hb d_Mo_bind_70 (by decide) ?_
      exact W.zret (v := 0) (ty := .boolean) hx hb hr (by decide) (fun t ht hW => ⟨⟨_, (), rfl, (by unfold fn_Mo_bind; rw [if_neg h1, if_pos h7]), trivial⟩, hS.F ht⟩) hS.2.2 d_Mo_bind_71
    · refine lv_iload_n hx hb d_Mo_bind_10 rfl (lv_at hl 2 rfl) ?_
      refine lv_if_lt (tgt := 70) hx hb d_Mo_bind_11 (by decide) (fun h11 => ?_) (fun h11 => ?_)
      · refine lv_iconst (v := 0) hx hb d_Mo_bind_70 (by decide) ?_
        exact W.zret (v := 0) (ty := .boolean) hx hb hr (by decide) (fun t ht hW => ⟨⟨_, (), rfl, (by unfold fn_Mo_bind; rw [if_neg h1, if_neg h7, if_pos h11]), trivial⟩, hS.F ht⟩) hS.2.2 d_Mo_bind_71
      · refine lv_iload_n hx hb d_Mo_bind_14 rfl (lv_at hl 2 rfl) ?_
        refine lv_iconst (v := 4) hx hb d_Mo_bind_15 (by decide) ?_
        refine lv_icmp_gt (tgt := 70) hx hb d_Mo_bind_16 (by decide) (fun h16 => ?_) (fun h16 => ?_)
        · refine lv_iconst (v := 0) hx hb d_Mo_bind_70 (by decide) ?_
          exact W.zret (v := 0) (ty := .boolean) hx hb hr (by decide) (fun t ht hW => ⟨⟨_, (), rfl, (by unfold fn_Mo_bind; rw [if_neg h1, if_neg h7, if_neg h11, if_pos h16]), trivial⟩, hS.F ht⟩) hS.2.2 d_Mo_bind_71
        · refine lv_iload_n hx hb d_Mo_bind_19 rfl (lv_at hl 2 rfl) ?_
          refine lv_if_ne (tgt := 36) hx hb d_Mo_bind_20 (by decide) (fun h20 => ?_) (fun h20 => ?_)
          · refine lv_iload_n hx hb d_Mo_bind_36 rfl (lv_at hl 2 rfl) ?_
            refine lv_iconst (v := 2) hx hb d_Mo_bind_37 (by decide) ?_
            refine lv_icmp_ne (tgt := 53) hx hb d_Mo_bind_38 (by decide) (fun h38 => ?_) (fun h38 => ?_)
            · refine lv_iload_n hx hb d_Mo_bind_53 rfl (lv_at hl 2 rfl) ?_
              refine lv_iconst (v := 3) hx hb d_Mo_bind_54 (by decide) ?_
              refine lv_icmp_ne (tgt := 72) hx hb d_Mo_bind_55 (by decide) (fun h55 => ?_) (fun h55 => ?_)
              · refine lv_aload_n hx hb d_Mo_bind_72 rfl (lv_at hl 0 rfl) ?_
                refine va_get (D := (dC, dI)) (ci := 12) (v := .ref am_does) (C := R_Mo) (T := F_Mo) (N := 87) hx hb hts (fun w h => List.mem_cons_of_mem _ (in_Mo w h)) hown hK.1 hP 0 rfl rfl 49 (by decide) (hts _ (List.mem_cons_of_mem _ mw_1835)) (fun _ h9 => h9) hm_does d_Mo_bind_73 ?_
                refine lv_iload_n hx hb d_Mo_bind_76 rfl (lv_at hl 1 rfl) ?_
                refine lv_iload_n hx hb d_Mo_bind_77 rfl (lv_at hl 2 rfl) ?_
                refine va_iast hx hb hK.1 hP hD hS 1 0 rfl rfl (ir_in h1 h7 (by decide) (by decide)) d_Mo_bind_78 (fun H locs hP hD hS => ?_)
                have hP : va_P (dC, dI) classes [(oM, .inr (12, fm)), (am_does, .inl (cI, 32, .inl ((upd ((fun _ => (-1))) (ka : Int32).toNatClampNeg wh)))), (am_xs, .inl (cI, 32, .inl (fun _ => 0))), (am_ys, .inl (cI, 32, .inl (fun _ => 0))), (am_zs, .inl (cI, 32, .inl (fun _ => 0)))] H := hP
                have hD : va_D A [(oM, .inr (12, fm)), (am_does, .inl (cI, 32, .inl ((upd ((fun _ => (-1))) (ka : Int32).toNatClampNeg wh)))), (am_xs, .inl (cI, 32, .inl (fun _ => 0))), (am_ys, .inl (cI, 32, .inl (fun _ => 0))), (am_zs, .inl (cI, 32, .inl (fun _ => 0)))] := hD
                generalize (upd ((fun _ => (-1))) (ka : Int32).toNatClampNeg wh) = f78_8 at hP hD
                refine lv_aload_n hx hb d_Mo_bind_79 rfl (lv_at hl 0 rfl) ?_
                refine va_get (D := (dC, dI)) (ci := 12) (v := .ref am_xs) (C := R_Mo) (T := F_Mo) (N := 87) hx hb hts (fun w h => List.mem_cons_of_mem _ (in_Mo w h)) hown hK.1 hP 0 rfl rfl 50 (by decide) (hts _ (List.mem_cons_of_mem _ mw_1836)) (fun _ h9 => h9) hm_xs d_Mo_bind_80 ?_
                refine lv_iload_n hx hb d_Mo_bind_83 rfl (lv_at hl 1 rfl) ?_
                refine lv_iload_n hx hb d_Mo_bind_84 rfl (lv_at hl 3 rfl) ?_
                refine va_iast hx hb hK.1 hP hD hS 2 0 rfl rfl (ir_in h1 h7 (by decide) (by decide)) d_Mo_bind_85 (fun H locs hP hD hS => ?_)
                have hP : va_P (dC, dI) classes [(oM, .inr (12, fm)), (am_does, .inl (cI, 32, .inl f78_8)), (am_xs, .inl (cI, 32, .inl ((upd (fun _ => 0) (ka : Int32).toNatClampNeg xx)))), (am_ys, .inl (cI, 32, .inl (fun _ => 0))), (am_zs, .inl (cI, 32, .inl (fun _ => 0)))] H := hP
                have hD : va_D A [(oM, .inr (12, fm)), (am_does, .inl (cI, 32, .inl f78_8)), (am_xs, .inl (cI, 32, .inl ((upd (fun _ => 0) (ka : Int32).toNatClampNeg xx)))), (am_ys, .inl (cI, 32, .inl (fun _ => 0))), (am_zs, .inl (cI, 32, .inl (fun _ => 0)))] := hD
                generalize (upd (fun _ => 0) (ka : Int32).toNatClampNeg xx) = f85_9 at hP hD
                refine lv_aload_n hx hb d_Mo_bind_86 rfl (lv_at hl 0 rfl) ?_
                refine va_get (D := (dC, dI)) (ci := 12) (v := .ref am_ys) (C := R_Mo) (T := F_Mo) (N := 87) hx hb hts (fun w h => List.mem_cons_of_mem _ (in_Mo w h)) hown hK.1 hP 0 rfl rfl 51 (by decide) (hts _ (List.mem_cons_of_mem _ mw_1837)) (fun _ h9 => h9) hm_ys d_Mo_bind_87 ?_
                refine lv_iload_n hx hb d_Mo_bind_90 rfl (lv_at hl 1 rfl) ?_
                refine lv_iload hx hb d_Mo_bind_91 (lv_at hl 4 rfl) ?_
                refine va_iast hx hb hK.1 hP hD hS 3 0 rfl rfl (ir_in h1 h7 (by decide) (by decide)) d_Mo_bind_93 (fun H locs hP hD hS => ?_)
                have hP : va_P (dC, dI) classes [(oM, .inr (12, fm)), (am_does, .inl (cI, 32, .inl f78_8)), (am_xs, .inl (cI, 32, .inl f85_9)), (am_ys, .inl (cI, 32, .inl ((upd (fun _ => 0) (ka : Int32).toNatClampNeg yy)))), (am_zs, .inl (cI, 32, .inl (fun _ => 0)))] H := hP
                have hD : va_D A [(oM, .inr (12, fm)), (am_does, .inl (cI, 32, .inl f78_8)), (am_xs, .inl (cI, 32, .inl f85_9)), (am_ys, .inl (cI, 32, .inl ((upd (fun _ => 0) (ka : Int32).toNatClampNeg yy)))), (am_zs, .inl (cI, 32, .inl (fun _ => 0)))] := hD
                generalize (upd (fun _ => 0) (ka : Int32).toNatClampNeg yy) = f93_10 at hP hD
                refine lv_aload_n hx hb d_Mo_bind_94 rfl (lv_at hl 0 rfl) ?_
                refine va_get (D := (dC, dI)) (ci := 12) (v := .ref am_zs) (C := R_Mo) (T := F_Mo) (N := 87) hx hb hts (fun w h => List.mem_cons_of_mem _ (in_Mo w h)) hown hK.1 hP 0 rfl rfl 52 (by decide) (hts _ (List.mem_cons_of_mem _ mw_1838)) (fun _ h9 => h9) hm_zs d_Mo_bind_95 ?_
                refine lv_iload_n hx hb d_Mo_bind_98 rfl (lv_at hl 1 rfl) ?_
                refine lv_iload hx hb d_Mo_bind_99 (lv_at hl 5 rfl) ?_
                refine va_iast hx hb hK.1 hP hD hS 4 0 rfl rfl (ir_in h1 h7 (by decide) (by decide)) d_Mo_bind_101 (fun H locs hP hD hS => ?_)
                have hP : va_P (dC, dI) classes [(oM, .inr (12, fm)), (am_does, .inl (cI, 32, .inl f78_8)), (am_xs, .inl (cI, 32, .inl f85_9)), (am_ys, .inl (cI, 32, .inl f93_10)), (am_zs, .inl (cI, 32, .inl ((upd (fun _ => 0) (ka : Int32).toNatClampNeg zz))))] H := hP
                have hD : va_D A [(oM, .inr (12, fm)), (am_does, .inl (cI, 32, .inl f78_8)), (am_xs, .inl (cI, 32, .inl f85_9)), (am_ys, .inl (cI, 32, .inl f93_10)), (am_zs, .inl (cI, 32, .inl ((upd (fun _ => 0) (ka : Int32).toNatClampNeg zz))))] := hD
                generalize (upd (fun _ => 0) (ka : Int32).toNatClampNeg zz) = f101_11 at hP hD
                refine lv_iconst (v := 1) hx hb d_Mo_bind_102 (by decide) ?_
                exact W.zret (v := 1) (ty := .boolean) hx hb hr (by decide) (fun t ht hW => ⟨⟨_, (), rfl, (by unfold fn_Mo_bind; rw [if_neg h1, if_neg h7, if_neg h11, if_neg h16, if_neg h20, if_neg h38, if_neg h55]), trivial⟩, hS.F ht⟩) hS.2.2 d_Mo_bind_103
              · refine lv_iload hx hb d_Mo_bind_58 (lv_at hl 4 rfl) ?_
                refine lv_iconst (v := 1) hx hb d_Mo_bind_60 (by decide) ?_
                refine lv_icmp_lt (tgt := 70) hx hb d_Mo_bind_61 (by decide) (fun h61 => ?_) (fun h61 => ?_)
                · refine lv_iconst (v := 0) hx hb d_Mo_bind_70 (by decide) ?_
                  exact W.zret (v := 0) (ty := .boolean) hx hb hr (by decide) (fun t ht hW => ⟨⟨_, (), rfl, (by unfold fn_Mo_bind; rw [if_neg h1, if_neg h7, if_neg h11, if_neg h16, if_neg h20, if_neg h38, if_pos h55, if_pos h61]), trivial⟩, hS.F ht⟩) hS.2.2 d_Mo_bind_71
                · refine lv_iload hx hb d_Mo_bind_64 (lv_at hl 4 rfl) ?_
                  refine lv_iconst (v := 5) hx hb d_Mo_bind_66 (by decide) ?_
                  refine lv_icmp_le (tgt := 72) hx hb d_Mo_bind_67 (by decide) (fun h67 => ?_) (fun h67 => ?_)
                  · refine lv_aload_n hx hb d_Mo_bind_72 rfl (lv_at hl 0 rfl) ?_
                    refine va_get (D := (dC, dI)) (ci := 12) (v := .ref am_does) (C := R_Mo) (T := F_Mo) (N := 87) hx hb hts (fun w h => List.mem_cons_of_mem _ (in_Mo w h)) hown hK.1 hP 0 rfl rfl 49 (by decide) (hts _ (List.mem_cons_of_mem _ mw_1835)) (fun _ h9 => h9) hm_does d_Mo_bind_73 ?_
                    refine lv_iload_n hx hb d_Mo_bind_76 rfl (lv_at hl 1 rfl) ?_
                    refine lv_iload_n hx hb d_Mo_bind_77 rfl (lv_at hl 2 rfl) ?_
                    refine va_iast hx hb hK.1 hP hD hS 1 0 rfl rfl (ir_in h1 h7 (by decide) (by decide)) d_Mo_bind_78 (fun H locs hP hD hS => ?_)
                    have hP : va_P (dC, dI) classes [(oM, .inr (12, fm)), (am_does, .inl (cI, 32, .inl ((upd ((fun _ => (-1))) (ka : Int32).toNatClampNeg wh)))), (am_xs, .inl (cI, 32, .inl (fun _ => 0))), (am_ys, .inl (cI, 32, .inl (fun _ => 0))), (am_zs, .inl (cI, 32, .inl (fun _ => 0)))] H := hP
                    have hD : va_D A [(oM, .inr (12, fm)), (am_does, .inl (cI, 32, .inl ((upd ((fun _ => (-1))) (ka : Int32).toNatClampNeg wh)))), (am_xs, .inl (cI, 32, .inl (fun _ => 0))), (am_ys, .inl (cI, 32, .inl (fun _ => 0))), (am_zs, .inl (cI, 32, .inl (fun _ => 0)))] := hD
                    generalize (upd ((fun _ => (-1))) (ka : Int32).toNatClampNeg wh) = f78_10 at hP hD
                    refine lv_aload_n hx hb d_Mo_bind_79 rfl (lv_at hl 0 rfl) ?_
                    refine va_get (D := (dC, dI)) (ci := 12) (v := .ref am_xs) (C := R_Mo) (T := F_Mo) (N := 87) hx hb hts (fun w h => List.mem_cons_of_mem _ (in_Mo w h)) hown hK.1 hP 0 rfl rfl 50 (by decide) (hts _ (List.mem_cons_of_mem _ mw_1836)) (fun _ h9 => h9) hm_xs d_Mo_bind_80 ?_
                    refine lv_iload_n hx hb d_Mo_bind_83 rfl (lv_at hl 1 rfl) ?_
                    refine lv_iload_n hx hb d_Mo_bind_84 rfl (lv_at hl 3 rfl) ?_
                    refine va_iast hx hb hK.1 hP hD hS 2 0 rfl rfl (ir_in h1 h7 (by decide) (by decide)) d_Mo_bind_85 (fun H locs hP hD hS => ?_)
                    have hP : va_P (dC, dI) classes [(oM, .inr (12, fm)), (am_does, .inl (cI, 32, .inl f78_10)), (am_xs, .inl (cI, 32, .inl ((upd (fun _ => 0) (ka : Int32).toNatClampNeg xx)))), (am_ys, .inl (cI, 32, .inl (fun _ => 0))), (am_zs, .inl (cI, 32, .inl (fun _ => 0)))] H := hP
                    have hD : va_D A [(oM, .inr (12, fm)), (am_does, .inl (cI, 32, .inl f78_10)), (am_xs, .inl (cI, 32, .inl ((upd (fun _ => 0) (ka : Int32).toNatClampNeg xx)))), (am_ys, .inl (cI, 32, .inl (fun _ => 0))), (am_zs, .inl (cI, 32, .inl (fun _ => 0)))] := hD
                    generalize (upd (fun _ => 0) (ka : Int32).toNatClampNeg xx) = f85_11 at hP hD
                    refine lv_aload_n hx hb d_Mo_bind_86 rfl (lv_at hl 0 rfl) ?_
                    refine va_get (D := (dC, dI)) (ci := 12) (v := .ref am_ys) (C := R_Mo) (T := F_Mo) (N := 87) hx hb hts (fun w h => List.mem_cons_of_mem _ (in_Mo w h)) hown hK.1 hP 0 rfl rfl 51 (by decide) (hts _ (List.mem_cons_of_mem _ mw_1837)) (fun _ h9 => h9) hm_ys d_Mo_bind_87 ?_
                    refine lv_iload_n hx hb d_Mo_bind_90 rfl (lv_at hl 1 rfl) ?_
                    refine lv_iload hx hb d_Mo_bind_91 (lv_at hl 4 rfl) ?_
                    refine va_iast hx hb hK.1 hP hD hS 3 0 rfl rfl (ir_in h1 h7 (by decide) (by decide)) d_Mo_bind_93 (fun H locs hP hD hS => ?_)
                    have hP : va_P (dC, dI) classes [(oM, .inr (12, fm)), (am_does, .inl (cI, 32, .inl f78_10)), (am_xs, .inl (cI, 32, .inl f85_11)), (am_ys, .inl (cI, 32, .inl ((upd (fun _ => 0) (ka : Int32).toNatClampNeg yy)))), (am_zs, .inl (cI, 32, .inl (fun _ => 0)))] H := hP
                    have hD : va_D A [(oM, .inr (12, fm)), (am_does, .inl (cI, 32, .inl f78_10)), (am_xs, .inl (cI, 32, .inl f85_11)), (am_ys, .inl (cI, 32, .inl ((upd (fun _ => 0) (ka : Int32).toNatClampNeg yy)))), (am_zs, .inl (cI, 32, .inl (fun _ => 0)))] := hD
                    generalize (upd (fun _ => 0) (ka : Int32).toNatClampNeg yy) = f93_12 at hP hD
                    refine lv_aload_n hx hb d_Mo_bind_94 rfl (lv_at hl 0 rfl) ?_
                    refine va_get (D := (dC, dI)) (ci := 12) (v := .ref am_zs) (C := R_Mo) (T := F_Mo) (N := 87) hx hb hts (fun w h => List.mem_cons_of_mem _ (in_Mo w h)) hown hK.1 hP 0 rfl rfl 52 (by decide) (hts _ (List.mem_cons_of_mem _ mw_1838)) (fun _ h9 => h9) hm_zs d_Mo_bind_95 ?_
                    refine lv_iload_n hx hb d_Mo_bind_98 rfl (lv_at hl 1 rfl) ?_
                    refine lv_iload hx hb d_Mo_bind_99 (lv_at hl 5 rfl) ?_
                    refine va_iast hx hb hK.1 hP hD hS 4 0 rfl rfl (ir_in h1 h7 (by decide) (by decide)) d_Mo_bind_101 (fun H locs hP hD hS => ?_)
                    have hP : va_P (dC, dI) classes [(oM, .inr (12, fm)), (am_does, .inl (cI, 32, .inl f78_10)), (am_xs, .inl (cI, 32, .inl f85_11)), (am_ys, .inl (cI, 32, .inl f93_12)), (am_zs, .inl (cI, 32, .inl ((upd (fun _ => 0) (ka : Int32).toNatClampNeg zz))))] H := hP
                    have hD : va_D A [(oM, .inr (12, fm)), (am_does, .inl (cI, 32, .inl f78_10)), (am_xs, .inl (cI, 32, .inl f85_11)), (am_ys, .inl (cI, 32, .inl f93_12)), (am_zs, .inl (cI, 32, .inl ((upd (fun _ => 0) (ka : Int32).toNatClampNeg zz))))] := hD
                    generalize (upd (fun _ => 0) (ka : Int32).toNatClampNeg zz) = f101_13 at hP hD
                    refine lv_iconst (v := 1) hx hb d_Mo_bind_102 (by decide) ?_
                    exact W.zret (v := 1) (ty := .boolean) hx hb hr (by decide) (fun t ht hW => ⟨⟨_, (), rfl, (by unfold fn_Mo_bind; rw [if_neg h1, if_neg h7, if_neg h11, if_neg h16, if_neg h20, if_neg h38, if_pos h55, if_neg h61, if_pos h67]), trivial⟩, hS.F ht⟩) hS.2.2 d_Mo_bind_103
                  · refine lv_iconst (v := 0) hx hb d_Mo_bind_70 (by decide) ?_
                    exact W.zret (v := 0) (ty := .boolean) hx hb hr (by decide) (fun t ht hW => ⟨⟨_, (), rfl, (by unfold fn_Mo_bind; rw [if_neg h1, if_neg h7, if_neg h11, if_neg h16, if_neg h20, if_neg h38, if_pos h55, if_neg h61, if_neg h67]), trivial⟩, hS.F ht⟩) hS.2.2 d_Mo_bind_71
            · refine lv_iload hx hb d_Mo_bind_41 (lv_at hl 4 rfl) ?_
              refine lv_if_lt (tgt := 70) hx hb d_Mo_bind_43 (by decide) (fun h43 => ?_) (fun h43 => ?_)
              · refine lv_iconst (v := 0) hx hb d_Mo_bind_70 (by decide) ?_
                exact W.zret (v := 0) (ty := .boolean) hx hb hr (by decide) (fun t ht hW => ⟨⟨_, (), rfl, (by unfold fn_Mo_bind; rw [if_neg h1, if_neg h7, if_neg h11, if_neg h16, if_neg h20, if_pos h38, if_pos h43]), trivial⟩, hS.F ht⟩) hS.2.2 d_Mo_bind_71
              · refine lv_iload hx hb d_Mo_bind_46 (lv_at hl 4 rfl) ?_
                refine lv_bipush (v := 9) hx hb d_Mo_bind_48 (by decide) ?_
                refine lv_icmp_gt (tgt := 70) hx hb d_Mo_bind_50 (by decide) (fun h50 => ?_) (fun h50 => ?_)
                · refine lv_iconst (v := 0) hx hb d_Mo_bind_70 (by decide) ?_
                  exact W.zret (v := 0) (ty := .boolean) hx hb hr (by decide) (fun t ht hW => ⟨⟨_, (), rfl, (by unfold fn_Mo_bind; rw [if_neg h1, if_neg h7, if_neg h11, if_neg h16, if_neg h20, if_pos h38, if_neg h43, if_pos h50]), trivial⟩, hS.F ht⟩) hS.2.2 d_Mo_bind_71
                · refine lv_iload_n hx hb d_Mo_bind_53 rfl (lv_at hl 2 rfl) ?_
                  refine lv_iconst (v := 3) hx hb d_Mo_bind_54 (by decide) ?_
                  refine lv_icmp_ne (tgt := 72) hx hb d_Mo_bind_55 (by decide) (fun h55 => ?_) (fun h55 => ?_)
                  · refine lv_aload_n hx hb d_Mo_bind_72 rfl (lv_at hl 0 rfl) ?_
                    refine va_get (D := (dC, dI)) (ci := 12) (v := .ref am_does) (C := R_Mo) (T := F_Mo) (N := 87) hx hb hts (fun w h => List.mem_cons_of_mem _ (in_Mo w h)) hown hK.1 hP 0 rfl rfl 49 (by decide) (hts _ (List.mem_cons_of_mem _ mw_1835)) (fun _ h9 => h9) hm_does d_Mo_bind_73 ?_
                    refine lv_iload_n hx hb d_Mo_bind_76 rfl (lv_at hl 1 rfl) ?_
                    refine lv_iload_n hx hb d_Mo_bind_77 rfl (lv_at hl 2 rfl) ?_
                    refine va_iast hx hb hK.1 hP hD hS 1 0 rfl rfl (ir_in h1 h7 (by decide) (by decide)) d_Mo_bind_78 (fun H locs hP hD hS => ?_)
                    have hP : va_P (dC, dI) classes [(oM, .inr (12, fm)), (am_does, .inl (cI, 32, .inl ((upd ((fun _ => (-1))) (ka : Int32).toNatClampNeg wh)))), (am_xs, .inl (cI, 32, .inl (fun _ => 0))), (am_ys, .inl (cI, 32, .inl (fun _ => 0))), (am_zs, .inl (cI, 32, .inl (fun _ => 0)))] H := hP
                    have hD : va_D A [(oM, .inr (12, fm)), (am_does, .inl (cI, 32, .inl ((upd ((fun _ => (-1))) (ka : Int32).toNatClampNeg wh)))), (am_xs, .inl (cI, 32, .inl (fun _ => 0))), (am_ys, .inl (cI, 32, .inl (fun _ => 0))), (am_zs, .inl (cI, 32, .inl (fun _ => 0)))] := hD
                    generalize (upd ((fun _ => (-1))) (ka : Int32).toNatClampNeg wh) = f78_10 at hP hD
                    refine lv_aload_n hx hb d_Mo_bind_79 rfl (lv_at hl 0 rfl) ?_
                    refine va_get (D := (dC, dI)) (ci := 12) (v := .ref am_xs) (C := R_Mo) (T := F_Mo) (N := 87) hx hb hts (fun w h => List.mem_cons_of_mem _ (in_Mo w h)) hown hK.1 hP 0 rfl rfl 50 (by decide) (hts _ (List.mem_cons_of_mem _ mw_1836)) (fun _ h9 => h9) hm_xs d_Mo_bind_80 ?_
                    refine lv_iload_n hx hb d_Mo_bind_83 rfl (lv_at hl 1 rfl) ?_
                    refine lv_iload_n hx hb d_Mo_bind_84 rfl (lv_at hl 3 rfl) ?_
                    refine va_iast hx hb hK.1 hP hD hS 2 0 rfl rfl (ir_in h1 h7 (by decide) (by decide)) d_Mo_bind_85 (fun H locs hP hD hS => ?_)
                    have hP : va_P (dC, dI) classes [(oM, .inr (12, fm)), (am_does, .inl (cI, 32, .inl f78_10)), (am_xs, .inl (cI, 32, .inl ((upd (fun _ => 0) (ka : Int32).toNatClampNeg xx)))), (am_ys, .inl (cI, 32, .inl (fun _ => 0))), (am_zs, .inl (cI, 32, .inl (fun _ => 0)))] H := hP
                    have hD : va_D A [(oM, .inr (12, fm)), (am_does, .inl (cI, 32, .inl f78_10)), (am_xs, .inl (cI, 32, .inl ((upd (fun _ => 0) (ka : Int32).toNatClampNeg xx)))), (am_ys, .inl (cI, 32, .inl (fun _ => 0))), (am_zs, .inl (cI, 32, .inl (fun _ => 0)))] := hD
                    generalize (upd (fun _ => 0) (ka : Int32).toNatClampNeg xx) = f85_11 at hP hD
                    refine lv_aload_n hx hb d_Mo_bind_86 rfl (lv_at hl 0 rfl) ?_
                    refine va_get (D := (dC, dI)) (ci := 12) (v := .ref am_ys) (C := R_Mo) (T := F_Mo) (N := 87) hx hb hts (fun w h => List.mem_cons_of_mem _ (in_Mo w h)) hown hK.1 hP 0 rfl rfl 51 (by decide) (hts _ (List.mem_cons_of_mem _ mw_1837)) (fun _ h9 => h9) hm_ys d_Mo_bind_87 ?_
                    refine lv_iload_n hx hb d_Mo_bind_90 rfl (lv_at hl 1 rfl) ?_
                    refine lv_iload hx hb d_Mo_bind_91 (lv_at hl 4 rfl) ?_
                    refine va_iast hx hb hK.1 hP hD hS 3 0 rfl rfl (ir_in h1 h7 (by decide) (by decide)) d_Mo_bind_93 (fun H locs hP hD hS => ?_)
                    have hP : va_P (dC, dI) classes [(oM, .inr (12, fm)), (am_does, .inl (cI, 32, .inl f78_10)), (am_xs, .inl (cI, 32, .inl f85_11)), (am_ys, .inl (cI, 32, .inl ((upd (fun _ => 0) (ka : Int32).toNatClampNeg yy)))), (am_zs, .inl (cI, 32, .inl (fun _ => 0)))] H := hP
                    have hD : va_D A [(oM, .inr (12, fm)), (am_does, .inl (cI, 32, .inl f78_10)), (am_xs, .inl (cI, 32, .inl f85_11)), (am_ys, .inl (cI, 32, .inl ((upd (fun _ => 0) (ka : Int32).toNatClampNeg yy)))), (am_zs, .inl (cI, 32, .inl (fun _ => 0)))] := hD
                    generalize (upd (fun _ => 0) (ka : Int32).toNatClampNeg yy) = f93_12 at hP hD
                    refine lv_aload_n hx hb d_Mo_bind_94 rfl (lv_at hl 0 rfl) ?_
                    refine va_get (D := (dC, dI)) (ci := 12) (v := .ref am_zs) (C := R_Mo) (T := F_Mo) (N := 87) hx hb hts (fun w h => List.mem_cons_of_mem _ (in_Mo w h)) hown hK.1 hP 0 rfl rfl 52 (by decide) (hts _ (List.mem_cons_of_mem _ mw_1838)) (fun _ h9 => h9) hm_zs d_Mo_bind_95 ?_
                    refine lv_iload_n hx hb d_Mo_bind_98 rfl (lv_at hl 1 rfl) ?_
                    refine lv_iload hx hb d_Mo_bind_99 (lv_at hl 5 rfl) ?_
                    refine va_iast hx hb hK.1 hP hD hS 4 0 rfl rfl (ir_in h1 h7 (by decide) (by decide)) d_Mo_bind_101 (fun H locs hP hD hS => ?_)
                    have hP : va_P (dC, dI) classes [(oM, .inr (12, fm)), (am_does, .inl (cI, 32, .inl f78_10)), (am_xs, .inl (cI, 32, .inl f85_11)), (am_ys, .inl (cI, 32, .inl f93_12)), (am_zs, .inl (cI, 32, .inl ((upd (fun _ => 0) (ka : Int32).toNatClampNeg zz))))] H := hP
                    have hD : va_D A [(oM, .inr (12, fm)), (am_does, .inl (cI, 32, .inl f78_10)), (am_xs, .inl (cI, 32, .inl f85_11)), (am_ys, .inl (cI, 32, .inl f93_12)), (am_zs, .inl (cI, 32, .inl ((upd (fun _ => 0) (ka : Int32).toNatClampNeg zz))))] := hD
                    generalize (upd (fun _ => 0) (ka : Int32).toNatClampNeg zz) = f101_13 at hP hD
                    refine lv_iconst (v := 1) hx hb d_Mo_bind_102 (by decide) ?_
                    exact W.zret (v := 1) (ty := .boolean) hx hb hr (by decide) (fun t ht hW => ⟨⟨_, (), rfl, (by unfold fn_Mo_bind; rw [if_neg h1, if_neg h7, if_neg h11, if_neg h16, if_neg h20, if_pos h38, if_neg h43, if_neg h50, if_neg h55]), trivial⟩, hS.F ht⟩) hS.2.2 d_Mo_bind_103
                  · refine lv_iload hx hb d_Mo_bind_58 (lv_at hl 4 rfl) ?_
                    refine lv_iconst (v := 1) hx hb d_Mo_bind_60 (by decide) ?_
                    refine lv_icmp_lt (tgt := 70) hx hb d_Mo_bind_61 (by decide) (fun h61 => ?_) (fun h61 => ?_)
                    · refine lv_iconst (v := 0) hx hb d_Mo_bind_70 (by decide) ?_
                      exact W.zret (v := 0) (ty := .boolean) hx hb hr (by decide) (fun t ht hW => ⟨⟨_, (), rfl, (by unfold fn_Mo_bind; rw [if_neg h1, if_neg h7, if_neg h11, if_neg h16, if_neg h20, if_pos h38, if_neg h43, if_neg h50, if_pos h55, if_pos h61]), trivial⟩, hS.F ht⟩) hS.2.2 d_Mo_bind_71
                    · refine lv_iload hx hb d_Mo_bind_64 (lv_at hl 4 rfl) ?_
                      refine lv_iconst (v := 5) hx hb d_Mo_bind_66 (by decide) ?_
                      refine lv_icmp_le (tgt := 72) hx hb d_Mo_bind_67 (by decide) (fun h67 => ?_) (fun h67 => ?_)
                      · refine lv_aload_n hx hb d_Mo_bind_72 rfl (lv_at hl 0 rfl) ?_
                        refine va_get (D := (dC, dI)) (ci := 12) (v := .ref am_does) (C := R_Mo) (T := F_Mo) (N := 87) hx hb hts (fun w h => List.mem_cons_of_mem _ (in_Mo w h)) hown hK.1 hP 0 rfl rfl 49 (by decide) (hts _ (List.mem_cons_of_mem _ mw_1835)) (fun _ h9 => h9) hm_does d_Mo_bind_73 ?_
                        refine lv_iload_n hx hb d_Mo_bind_76 rfl (lv_at hl 1 rfl) ?_
                        refine lv_iload_n hx hb d_Mo_bind_77 rfl (lv_at hl 2 rfl) ?_
                        refine va_iast hx hb hK.1 hP hD hS 1 0 rfl rfl (ir_in h1 h7 (by decide) (by decide)) d_Mo_bind_78 (fun H locs hP hD hS => ?_)
                        have hP : va_P (dC, dI) classes [(oM, .inr (12, fm)), (am_does, .inl (cI, 32, .inl ((upd ((fun _ => (-1))) (ka : Int32).toNatClampNeg wh)))), (am_xs, .inl (cI, 32, .inl (fun _ => 0))), (am_ys, .inl (cI, 32, .inl (fun _ => 0))), (am_zs, .inl (cI, 32, .inl (fun _ => 0)))] H := hP
                        have hD : va_D A [(oM, .inr (12, fm)), (am_does, .inl (cI, 32, .inl ((upd ((fun _ => (-1))) (ka : Int32).toNatClampNeg wh)))), (am_xs, .inl (cI, 32, .inl (fun _ => 0))), (am_ys, .inl (cI, 32, .inl (fun _ => 0))), (am_zs, .inl (cI, 32, .inl (fun _ => 0)))] := hD
                        generalize (upd ((fun _ => (-1))) (ka : Int32).toNatClampNeg wh) = f78_12 at hP hD
                        refine lv_aload_n hx hb d_Mo_bind_79 rfl (lv_at hl 0 rfl) ?_
                        refine va_get (D := (dC, dI)) (ci := 12) (v := .ref am_xs) (C := R_Mo) (T := F_Mo) (N := 87) hx hb hts (fun w h => List.mem_cons_of_mem _ (in_Mo w h)) hown hK.1 hP 0 rfl rfl 50 (by decide) (hts _ (List.mem_cons_of_mem _ mw_1836)) (fun _ h9 => h9) hm_xs d_Mo_bind_80 ?_
                        refine lv_iload_n hx hb d_Mo_bind_83 rfl (lv_at hl 1 rfl) ?_
                        refine lv_iload_n hx hb d_Mo_bind_84 rfl (lv_at hl 3 rfl) ?_
                        refine va_iast hx hb hK.1 hP hD hS 2 0 rfl rfl (ir_in h1 h7 (by decide) (by decide)) d_Mo_bind_85 (fun H locs hP hD hS => ?_)
                        have hP : va_P (dC, dI) classes [(oM, .inr (12, fm)), (am_does, .inl (cI, 32, .inl f78_12)), (am_xs, .inl (cI, 32, .inl ((upd (fun _ => 0) (ka : Int32).toNatClampNeg xx)))), (am_ys, .inl (cI, 32, .inl (fun _ => 0))), (am_zs, .inl (cI, 32, .inl (fun _ => 0)))] H := hP
                        have hD : va_D A [(oM, .inr (12, fm)), (am_does, .inl (cI, 32, .inl f78_12)), (am_xs, .inl (cI, 32, .inl ((upd (fun _ => 0) (ka : Int32).toNatClampNeg xx)))), (am_ys, .inl (cI, 32, .inl (fun _ => 0))), (am_zs, .inl (cI, 32, .inl (fun _ => 0)))] := hD
                        generalize (upd (fun _ => 0) (ka : Int32).toNatClampNeg xx) = f85_13 at hP hD
                        refine lv_aload_n hx hb d_Mo_bind_86 rfl (lv_at hl 0 rfl) ?_
                        refine va_get (D := (dC, dI)) (ci := 12) (v := .ref am_ys) (C := R_Mo) (T := F_Mo) (N := 87) hx hb hts (fun w h => List.mem_cons_of_mem _ (in_Mo w h)) hown hK.1 hP 0 rfl rfl 51 (by decide) (hts _ (List.mem_cons_of_mem _ mw_1837)) (fun _ h9 => h9) hm_ys d_Mo_bind_87 ?_
                        refine lv_iload_n hx hb d_Mo_bind_90 rfl (lv_at hl 1 rfl) ?_
                        refine lv_iload hx hb d_Mo_bind_91 (lv_at hl 4 rfl) ?_
                        refine va_iast hx hb hK.1 hP hD hS 3 0 rfl rfl (ir_in h1 h7 (by decide) (by decide)) d_Mo_bind_93 (fun H locs hP hD hS => ?_)
                        have hP : va_P (dC, dI) classes [(oM, .inr (12, fm)), (am_does, .inl (cI, 32, .inl f78_12)), (am_xs, .inl (cI, 32, .inl f85_13)), (am_ys, .inl (cI, 32, .inl ((upd (fun _ => 0) (ka : Int32).toNatClampNeg yy)))), (am_zs, .inl (cI, 32, .inl (fun _ => 0)))] H := hP
                        have hD : va_D A [(oM, .inr (12, fm)), (am_does, .inl (cI, 32, .inl f78_12)), (am_xs, .inl (cI, 32, .inl f85_13)), (am_ys, .inl (cI, 32, .inl ((upd (fun _ => 0) (ka : Int32).toNatClampNeg yy)))), (am_zs, .inl (cI, 32, .inl (fun _ => 0)))] := hD
                        generalize (upd (fun _ => 0) (ka : Int32).toNatClampNeg yy) = f93_14 at hP hD
                        refine lv_aload_n hx hb d_Mo_bind_94 rfl (lv_at hl 0 rfl) ?_
                        refine va_get (D := (dC, dI)) (ci := 12) (v := .ref am_zs) (C := R_Mo) (T := F_Mo) (N := 87) hx hb hts (fun w h => List.mem_cons_of_mem _ (in_Mo w h)) hown hK.1 hP 0 rfl rfl 52 (by decide) (hts _ (List.mem_cons_of_mem _ mw_1838)) (fun _ h9 => h9) hm_zs d_Mo_bind_95 ?_
                        refine lv_iload_n hx hb d_Mo_bind_98 rfl (lv_at hl 1 rfl) ?_
                        refine lv_iload hx hb d_Mo_bind_99 (lv_at hl 5 rfl) ?_
                        refine va_iast hx hb hK.1 hP hD hS 4 0 rfl rfl (ir_in h1 h7 (by decide) (by decide)) d_Mo_bind_101 (fun H locs hP hD hS => ?_)
                        have hP : va_P (dC, dI) classes [(oM, .inr (12, fm)), (am_does, .inl (cI, 32, .inl f78_12)), (am_xs, .inl (cI, 32, .inl f85_13)), (am_ys, .inl (cI, 32, .inl f93_14)), (am_zs, .inl (cI, 32, .inl ((upd (fun _ => 0) (ka : Int32).toNatClampNeg zz))))] H := hP
                        have hD : va_D A [(oM, .inr (12, fm)), (am_does, .inl (cI, 32, .inl f78_12)), (am_xs, .inl (cI, 32, .inl f85_13)), (am_ys, .inl (cI, 32, .inl f93_14)), (am_zs, .inl (cI, 32, .inl ((upd (fun _ => 0) (ka : Int32).toNatClampNeg zz))))] := hD
                        generalize (upd (fun _ => 0) (ka : Int32).toNatClampNeg zz) = f101_15 at hP hD
                        refine lv_iconst (v := 1) hx hb d_Mo_bind_102 (by decide) ?_
                        exact W.zret (v := 1) (ty := .boolean) hx hb hr (by decide) (fun t ht hW => ⟨⟨_, (), rfl, (by unfold fn_Mo_bind; rw [if_neg h1, if_neg h7, if_neg h11, if_neg h16, if_neg h20, if_pos h38, if_neg h43, if_neg h50, if_pos h55, if_neg h61, if_pos h67]), trivial⟩, hS.F ht⟩) hS.2.2 d_Mo_bind_103
                      · refine lv_iconst (v := 0) hx hb d_Mo_bind_70 (by decide) ?_
                        exact W.zret (v := 0) (ty := .boolean) hx hb hr (by decide) (fun t ht hW => ⟨⟨_, (), rfl, (by unfold fn_Mo_bind; rw [if_neg h1, if_neg h7, if_neg h11, if_neg h16, if_neg h20, if_pos h38, if_neg h43, if_neg h50, if_pos h55, if_neg h61, if_neg h67]), trivial⟩, hS.F ht⟩) hS.2.2 d_Mo_bind_71
          · refine lv_iload hx hb d_Mo_bind_23 (lv_at hl 5 rfl) ?_
            refine lv_iconst (v := 1) hx hb d_Mo_bind_25 (by decide) ?_
            refine lv_icmp_lt (tgt := 70) hx hb d_Mo_bind_26 (by decide) (fun h26 => ?_) (fun h26 => ?_)
            · refine lv_iconst (v := 0) hx hb d_Mo_bind_70 (by decide) ?_
              exact W.zret (v := 0) (ty := .boolean) hx hb hr (by decide) (fun t ht hW => ⟨⟨_, (), rfl, (by unfold fn_Mo_bind; rw [if_neg h1, if_neg h7, if_neg h11, if_neg h16, if_pos h20, if_pos h26]), trivial⟩, hS.F ht⟩) hS.2.2 d_Mo_bind_71
            · refine lv_iload hx hb d_Mo_bind_29 (lv_at hl 5 rfl) ?_
              refine lv_bipush (v := 100) hx hb d_Mo_bind_31 (by decide) ?_
              refine lv_icmp_gt (tgt := 70) hx hb d_Mo_bind_33 (by decide) (fun h33 => ?_) (fun h33 => ?_)
              · refine lv_iconst (v := 0) hx hb d_Mo_bind_70 (by decide) ?_
                exact W.zret (v := 0) (ty := .boolean) hx hb hr (by decide) (fun t ht hW => ⟨⟨_, (), rfl, (by unfold fn_Mo_bind; rw [if_neg h1, if_neg h7, if_neg h11, if_neg h16, if_pos h20, if_neg h26, if_pos h33]), trivial⟩, hS.F ht⟩) hS.2.2 d_Mo_bind_71
              · refine lv_iload_n hx hb d_Mo_bind_36 rfl (lv_at hl 2 rfl) ?_
                refine lv_iconst (v := 2) hx hb d_Mo_bind_37 (by decide) ?_
                refine lv_icmp_ne (tgt := 53) hx hb d_Mo_bind_38 (by decide) (fun h38 => ?_) (fun h38 => ?_)
                · refine lv_iload_n hx hb d_Mo_bind_53 rfl (lv_at hl 2 rfl) ?_
                  refine lv_iconst (v := 3) hx hb d_Mo_bind_54 (by decide) ?_
                  refine lv_icmp_ne (tgt := 72) hx hb d_Mo_bind_55 (by decide) (fun h55 => ?_) (fun h55 => ?_)
                  · refine lv_aload_n hx hb d_Mo_bind_72 rfl (lv_at hl 0 rfl) ?_
                    refine va_get (D := (dC, dI)) (ci := 12) (v := .ref am_does) (C := R_Mo) (T := F_Mo) (N := 87) hx hb hts (fun w h => List.mem_cons_of_mem _ (in_Mo w h)) hown hK.1 hP 0 rfl rfl 49 (by decide) (hts _ (List.mem_cons_of_mem _ mw_1835)) (fun _ h9 => h9) hm_does d_Mo_bind_73 ?_
                    refine lv_iload_n hx hb d_Mo_bind_76 rfl (lv_at hl 1 rfl) ?_
                    refine lv_iload_n hx hb d_Mo_bind_77 rfl (lv_at hl 2 rfl) ?_
                    refine va_iast hx hb hK.1 hP hD hS 1 0 rfl rfl (ir_in h1 h7 (by decide) (by decide)) d_Mo_bind_78 (fun H locs hP hD hS => ?_)
                    have hP : va_P (dC, dI) classes [(oM, .inr (12, fm)), (am_does, .inl (cI, 32, .inl ((upd ((fun _ => (-1))) (ka : Int32).toNatClampNeg wh)))), (am_xs, .inl (cI, 32, .inl (fun _ => 0))), (am_ys, .inl (cI, 32, .inl (fun _ => 0))), (am_zs, .inl (cI, 32, .inl (fun _ => 0)))] H := hP
                    have hD : va_D A [(oM, .inr (12, fm)), (am_does, .inl (cI, 32, .inl ((upd ((fun _ => (-1))) (ka : Int32).toNatClampNeg wh)))), (am_xs, .inl (cI, 32, .inl (fun _ => 0))), (am_ys, .inl (cI, 32, .inl (fun _ => 0))), (am_zs, .inl (cI, 32, .inl (fun _ => 0)))] := hD
                    generalize (upd ((fun _ => (-1))) (ka : Int32).toNatClampNeg wh) = f78_10 at hP hD
                    refine lv_aload_n hx hb d_Mo_bind_79 rfl (lv_at hl 0 rfl) ?_
                    refine va_get (D := (dC, dI)) (ci := 12) (v := .ref am_xs) (C := R_Mo) (T := F_Mo) (N := 87) hx hb hts (fun w h => List.mem_cons_of_mem _ (in_Mo w h)) hown hK.1 hP 0 rfl rfl 50 (by decide) (hts _ (List.mem_cons_of_mem _ mw_1836)) (fun _ h9 => h9) hm_xs d_Mo_bind_80 ?_
                    refine lv_iload_n hx hb d_Mo_bind_83 rfl (lv_at hl 1 rfl) ?_
                    refine lv_iload_n hx hb d_Mo_bind_84 rfl (lv_at hl 3 rfl) ?_
                    refine va_iast hx hb hK.1 hP hD hS 2 0 rfl rfl (ir_in h1 h7 (by decide) (by decide)) d_Mo_bind_85 (fun H locs hP hD hS => ?_)
                    have hP : va_P (dC, dI) classes [(oM, .inr (12, fm)), (am_does, .inl (cI, 32, .inl f78_10)), (am_xs, .inl (cI, 32, .inl ((upd (fun _ => 0) (ka : Int32).toNatClampNeg xx)))), (am_ys, .inl (cI, 32, .inl (fun _ => 0))), (am_zs, .inl (cI, 32, .inl (fun _ => 0)))] H := hP
                    have hD : va_D A [(oM, .inr (12, fm)), (am_does, .inl (cI, 32, .inl f78_10)), (am_xs, .inl (cI, 32, .inl ((upd (fun _ => 0) (ka : Int32).toNatClampNeg xx)))), (am_ys, .inl (cI, 32, .inl (fun _ => 0))), (am_zs, .inl (cI, 32, .inl (fun _ => 0)))] := hD
                    generalize (upd (fun _ => 0) (ka : Int32).toNatClampNeg xx) = f85_11 at hP hD
                    refine lv_aload_n hx hb d_Mo_bind_86 rfl (lv_at hl 0 rfl) ?_
                    refine va_get (D := (dC, dI)) (ci := 12) (v := .ref am_ys) (C := R_Mo) (T := F_Mo) (N := 87) hx hb hts (fun w h => List.mem_cons_of_mem _ (in_Mo w h)) hown hK.1 hP 0 rfl rfl 51 (by decide) (hts _ (List.mem_cons_of_mem _ mw_1837)) (fun _ h9 => h9) hm_ys d_Mo_bind_87 ?_
                    refine lv_iload_n hx hb d_Mo_bind_90 rfl (lv_at hl 1 rfl) ?_
                    refine lv_iload hx hb d_Mo_bind_91 (lv_at hl 4 rfl) ?_
                    refine va_iast hx hb hK.1 hP hD hS 3 0 rfl rfl (ir_in h1 h7 (by decide) (by decide)) d_Mo_bind_93 (fun H locs hP hD hS => ?_)
                    have hP : va_P (dC, dI) classes [(oM, .inr (12, fm)), (am_does, .inl (cI, 32, .inl f78_10)), (am_xs, .inl (cI, 32, .inl f85_11)), (am_ys, .inl (cI, 32, .inl ((upd (fun _ => 0) (ka : Int32).toNatClampNeg yy)))), (am_zs, .inl (cI, 32, .inl (fun _ => 0)))] H := hP
                    have hD : va_D A [(oM, .inr (12, fm)), (am_does, .inl (cI, 32, .inl f78_10)), (am_xs, .inl (cI, 32, .inl f85_11)), (am_ys, .inl (cI, 32, .inl ((upd (fun _ => 0) (ka : Int32).toNatClampNeg yy)))), (am_zs, .inl (cI, 32, .inl (fun _ => 0)))] := hD
                    generalize (upd (fun _ => 0) (ka : Int32).toNatClampNeg yy) = f93_12 at hP hD
                    refine lv_aload_n hx hb d_Mo_bind_94 rfl (lv_at hl 0 rfl) ?_
                    refine va_get (D := (dC, dI)) (ci := 12) (v := .ref am_zs) (C := R_Mo) (T := F_Mo) (N := 87) hx hb hts (fun w h => List.mem_cons_of_mem _ (in_Mo w h)) hown hK.1 hP 0 rfl rfl 52 (by decide) (hts _ (List.mem_cons_of_mem _ mw_1838)) (fun _ h9 => h9) hm_zs d_Mo_bind_95 ?_
                    refine lv_iload_n hx hb d_Mo_bind_98 rfl (lv_at hl 1 rfl) ?_
                    refine lv_iload hx hb d_Mo_bind_99 (lv_at hl 5 rfl) ?_
                    refine va_iast hx hb hK.1 hP hD hS 4 0 rfl rfl (ir_in h1 h7 (by decide) (by decide)) d_Mo_bind_101 (fun H locs hP hD hS => ?_)
                    have hP : va_P (dC, dI) classes [(oM, .inr (12, fm)), (am_does, .inl (cI, 32, .inl f78_10)), (am_xs, .inl (cI, 32, .inl f85_11)), (am_ys, .inl (cI, 32, .inl f93_12)), (am_zs, .inl (cI, 32, .inl ((upd (fun _ => 0) (ka : Int32).toNatClampNeg zz))))] H := hP
                    have hD : va_D A [(oM, .inr (12, fm)), (am_does, .inl (cI, 32, .inl f78_10)), (am_xs, .inl (cI, 32, .inl f85_11)), (am_ys, .inl (cI, 32, .inl f93_12)), (am_zs, .inl (cI, 32, .inl ((upd (fun _ => 0) (ka : Int32).toNatClampNeg zz))))] := hD
                    generalize (upd (fun _ => 0) (ka : Int32).toNatClampNeg zz) = f101_13 at hP hD
                    refine lv_iconst (v := 1) hx hb d_Mo_bind_102 (by decide) ?_
                    exact W.zret (v := 1) (ty := .boolean) hx hb hr (by decide) (fun t ht hW => ⟨⟨_, (), rfl, (by unfold fn_Mo_bind; rw [if_neg h1, if_neg h7, if_neg h11, if_neg h16, if_pos h20, if_neg h26, if_neg h33, if_neg h38, if_neg h55]), trivial⟩, hS.F ht⟩) hS.2.2 d_Mo_bind_103
                  · refine lv_iload hx hb d_Mo_bind_58 (lv_at hl 4 rfl) ?_
                    refine lv_iconst (v := 1) hx hb d_Mo_bind_60 (by decide) ?_
                    refine lv_icmp_lt (tgt := 70) hx hb d_Mo_bind_61 (by decide) (fun h61 => ?_) (fun h61 => ?_)
                    · refine lv_iconst (v := 0) hx hb d_Mo_bind_70 (by decide) ?_
                      exact W.zret (v := 0) (ty := .boolean) hx hb hr (by decide) (fun t ht hW => ⟨⟨_, (), rfl, (by unfold fn_Mo_bind; rw [if_neg h1, if_neg h7, if_neg h11, if_neg h16, if_pos h20, if_neg h26, if_neg h33, if_neg h38, if_pos h55, if_pos h61]), trivial⟩, hS.F ht⟩) hS.2.2 d_Mo_bind_71
                    · refine lv_iload hx hb d_Mo_bind_64 (lv_at hl 4 rfl) ?_
                      refine lv_iconst (v := 5) hx hb d_Mo_bind_66 (by decide) ?_
                      refine lv_icmp_le (tgt := 72) hx hb d_Mo_bind_67 (by decide) (fun h67 => ?_) (fun h67 => ?_)
                      · refine lv_aload_n hx hb d_Mo_bind_72 rfl (lv_at hl 0 rfl) ?_
                        refine va_get (D := (dC, dI)) (ci := 12) (v := .ref am_does) (C := R_Mo) (T := F_Mo) (N := 87) hx hb hts (fun w h => List.mem_cons_of_mem _ (in_Mo w h)) hown hK.1 hP 0 rfl rfl 49 (by decide) (hts _ (List.mem_cons_of_mem _ mw_1835)) (fun _ h9 => h9) hm_does d_Mo_bind_73 ?_
                        refine lv_iload_n hx hb d_Mo_bind_76 rfl (lv_at hl 1 rfl) ?_
                        refine lv_iload_n hx hb d_Mo_bind_77 rfl (lv_at hl 2 rfl) ?_
                        refine va_iast hx hb hK.1 hP hD hS 1 0 rfl rfl (ir_in h1 h7 (by decide) (by decide)) d_Mo_bind_78 (fun H locs hP hD hS => ?_)
                        have hP : va_P (dC, dI) classes [(oM, .inr (12, fm)), (am_does, .inl (cI, 32, .inl ((upd ((fun _ => (-1))) (ka : Int32).toNatClampNeg wh)))), (am_xs, .inl (cI, 32, .inl (fun _ => 0))), (am_ys, .inl (cI, 32, .inl (fun _ => 0))), (am_zs, .inl (cI, 32, .inl (fun _ => 0)))] H := hP
                        have hD : va_D A [(oM, .inr (12, fm)), (am_does, .inl (cI, 32, .inl ((upd ((fun _ => (-1))) (ka : Int32).toNatClampNeg wh)))), (am_xs, .inl (cI, 32, .inl (fun _ => 0))), (am_ys, .inl (cI, 32, .inl (fun _ => 0))), (am_zs, .inl (cI, 32, .inl (fun _ => 0)))] := hD
                        generalize (upd ((fun _ => (-1))) (ka : Int32).toNatClampNeg wh) = f78_12 at hP hD
                        refine lv_aload_n hx hb d_Mo_bind_79 rfl (lv_at hl 0 rfl) ?_
                        refine va_get (D := (dC, dI)) (ci := 12) (v := .ref am_xs) (C := R_Mo) (T := F_Mo) (N := 87) hx hb hts (fun w h => List.mem_cons_of_mem _ (in_Mo w h)) hown hK.1 hP 0 rfl rfl 50 (by decide) (hts _ (List.mem_cons_of_mem _ mw_1836)) (fun _ h9 => h9) hm_xs d_Mo_bind_80 ?_
                        refine lv_iload_n hx hb d_Mo_bind_83 rfl (lv_at hl 1 rfl) ?_
                        refine lv_iload_n hx hb d_Mo_bind_84 rfl (lv_at hl 3 rfl) ?_
                        refine va_iast hx hb hK.1 hP hD hS 2 0 rfl rfl (ir_in h1 h7 (by decide) (by decide)) d_Mo_bind_85 (fun H locs hP hD hS => ?_)
                        have hP : va_P (dC, dI) classes [(oM, .inr (12, fm)), (am_does, .inl (cI, 32, .inl f78_12)), (am_xs, .inl (cI, 32, .inl ((upd (fun _ => 0) (ka : Int32).toNatClampNeg xx)))), (am_ys, .inl (cI, 32, .inl (fun _ => 0))), (am_zs, .inl (cI, 32, .inl (fun _ => 0)))] H := hP
                        have hD : va_D A [(oM, .inr (12, fm)), (am_does, .inl (cI, 32, .inl f78_12)), (am_xs, .inl (cI, 32, .inl ((upd (fun _ => 0) (ka : Int32).toNatClampNeg xx)))), (am_ys, .inl (cI, 32, .inl (fun _ => 0))), (am_zs, .inl (cI, 32, .inl (fun _ => 0)))] := hD
                        generalize (upd (fun _ => 0) (ka : Int32).toNatClampNeg xx) = f85_13 at hP hD
                        refine lv_aload_n hx hb d_Mo_bind_86 rfl (lv_at hl 0 rfl) ?_
                        refine va_get (D := (dC, dI)) (ci := 12) (v := .ref am_ys) (C := R_Mo) (T := F_Mo) (N := 87) hx hb hts (fun w h => List.mem_cons_of_mem _ (in_Mo w h)) hown hK.1 hP 0 rfl rfl 51 (by decide) (hts _ (List.mem_cons_of_mem _ mw_1837)) (fun _ h9 => h9) hm_ys d_Mo_bind_87 ?_
                        refine lv_iload_n hx hb d_Mo_bind_90 rfl (lv_at hl 1 rfl) ?_
                        refine lv_iload hx hb d_Mo_bind_91 (lv_at hl 4 rfl) ?_
                        refine va_iast hx hb hK.1 hP hD hS 3 0 rfl rfl (ir_in h1 h7 (by decide) (by decide)) d_Mo_bind_93 (fun H locs hP hD hS => ?_)
                        have hP : va_P (dC, dI) classes [(oM, .inr (12, fm)), (am_does, .inl (cI, 32, .inl f78_12)), (am_xs, .inl (cI, 32, .inl f85_13)), (am_ys, .inl (cI, 32, .inl ((upd (fun _ => 0) (ka : Int32).toNatClampNeg yy)))), (am_zs, .inl (cI, 32, .inl (fun _ => 0)))] H := hP
                        have hD : va_D A [(oM, .inr (12, fm)), (am_does, .inl (cI, 32, .inl f78_12)), (am_xs, .inl (cI, 32, .inl f85_13)), (am_ys, .inl (cI, 32, .inl ((upd (fun _ => 0) (ka : Int32).toNatClampNeg yy)))), (am_zs, .inl (cI, 32, .inl (fun _ => 0)))] := hD
                        generalize (upd (fun _ => 0) (ka : Int32).toNatClampNeg yy) = f93_14 at hP hD
                        refine lv_aload_n hx hb d_Mo_bind_94 rfl (lv_at hl 0 rfl) ?_
                        refine va_get (D := (dC, dI)) (ci := 12) (v := .ref am_zs) (C := R_Mo) (T := F_Mo) (N := 87) hx hb hts (fun w h => List.mem_cons_of_mem _ (in_Mo w h)) hown hK.1 hP 0 rfl rfl 52 (by decide) (hts _ (List.mem_cons_of_mem _ mw_1838)) (fun _ h9 => h9) hm_zs d_Mo_bind_95 ?_
                        refine lv_iload_n hx hb d_Mo_bind_98 rfl (lv_at hl 1 rfl) ?_
                        refine lv_iload hx hb d_Mo_bind_99 (lv_at hl 5 rfl) ?_
                        refine va_iast hx hb hK.1 hP hD hS 4 0 rfl rfl (ir_in h1 h7 (by decide) (by decide)) d_Mo_bind_101 (fun H locs hP hD hS => ?_)
                        have hP : va_P (dC, dI) classes [(oM, .inr (12, fm)), (am_does, .inl (cI, 32, .inl f78_12)), (am_xs, .inl (cI, 32, .inl f85_13)), (am_ys, .inl (cI, 32, .inl f93_14)), (am_zs, .inl (cI, 32, .inl ((upd (fun _ => 0) (ka : Int32).toNatClampNeg zz))))] H := hP
                        have hD : va_D A [(oM, .inr (12, fm)), (am_does, .inl (cI, 32, .inl f78_12)), (am_xs, .inl (cI, 32, .inl f85_13)), (am_ys, .inl (cI, 32, .inl f93_14)), (am_zs, .inl (cI, 32, .inl ((upd (fun _ => 0) (ka : Int32).toNatClampNeg zz))))] := hD
                        generalize (upd (fun _ => 0) (ka : Int32).toNatClampNeg zz) = f101_15 at hP hD
                        refine lv_iconst (v := 1) hx hb d_Mo_bind_102 (by decide) ?_
                        exact W.zret (v := 1) (ty := .boolean) hx hb hr (by decide) (fun t ht hW => ⟨⟨_, (), rfl, (by unfold fn_Mo_bind; rw [if_neg h1, if_neg h7, if_neg h11, if_neg h16, if_pos h20, if_neg h26, if_neg h33, if_neg h38, if_pos h55, if_neg h61, if_pos h67]), trivial⟩, hS.F ht⟩) hS.2.2 d_Mo_bind_103
                      · refine lv_iconst (v := 0) hx hb d_Mo_bind_70 (by decide) ?_
                        exact W.zret (v := 0) (ty := .boolean) hx hb hr (by decide) (fun t ht hW => ⟨⟨_, (), rfl, (by unfold fn_Mo_bind; rw [if_neg h1, if_neg h7, if_neg h11, if_neg h16, if_pos h20, if_neg h26, if_neg h33, if_neg h38, if_pos h55, if_neg h61, if_neg h67]), trivial⟩, hS.F ht⟩) hS.2.2 d_Mo_bind_71
                · refine lv_iload hx hb d_Mo_bind_41 (lv_at hl 4 rfl) ?_
                  refine lv_if_lt (tgt := 70) hx hb d_Mo_bind_43 (by decide) (fun h43 => ?_) (fun h43 => ?_)
                  · refine lv_iconst (v := 0) hx hb d_Mo_bind_70 (by decide) ?_
                    exact W.zret (v := 0) (ty := .boolean) hx hb hr (by decide) (fun t ht hW => ⟨⟨_, (), rfl, (by unfold fn_Mo_bind; rw [if_neg h1, if_neg h7, if_neg h11, if_neg h16, if_pos h20, if_neg h26, if_neg h33, if_pos h38, if_pos h43]), trivial⟩, hS.F ht⟩) hS.2.2 d_Mo_bind_71
                  · refine lv_iload hx hb d_Mo_bind_46 (lv_at hl 4 rfl) ?_
                    refine lv_bipush (v := 9) hx hb d_Mo_bind_48 (by decide) ?_
                    refine lv_icmp_gt (tgt := 70) hx hb d_Mo_bind_50 (by decide) (fun h50 => ?_) (fun h50 => ?_)
                    · refine lv_iconst (v := 0) hx hb d_Mo_bind_70 (by decide) ?_
                      exact W.zret (v := 0) (ty := .boolean) hx hb hr (by decide) (fun t ht hW => ⟨⟨_, (), rfl, (by unfold fn_Mo_bind; rw [if_neg h1, if_neg h7, if_neg h11, if_neg h16, if_pos h20, if_neg h26, if_neg h33, if_pos h38, if_neg h43, if_pos h50]), trivial⟩, hS.F ht⟩) hS.2.2 d_Mo_bind_71
                    · refine lv_iload_n hx hb d_Mo_bind_53 rfl (lv_at hl 2 rfl) ?_
                      refine lv_iconst (v := 3) hx hb d_Mo_bind_54 (by decide) ?_
                      refine lv_icmp_ne (tgt := 72) hx hb d_Mo_bind_55 (by decide) (fun h55 => ?_) (fun h55 => ?_)
                      · refine lv_aload_n hx hb d_Mo_bind_72 rfl (lv_at hl 0 rfl) ?_
                        refine va_get (D := (dC, dI)) (ci := 12) (v := .ref am_does) (C := R_Mo) (T := F_Mo) (N := 87) hx hb hts (fun w h => List.mem_cons_of_mem _ (in_Mo w h)) hown hK.1 hP 0 rfl rfl 49 (by decide) (hts _ (List.mem_cons_of_mem _ mw_1835)) (fun _ h9 => h9) hm_does d_Mo_bind_73 ?_
                        refine lv_iload_n hx hb d_Mo_bind_76 rfl (lv_at hl 1 rfl) ?_
                        refine lv_iload_n hx hb d_Mo_bind_77 rfl (lv_at hl 2 rfl) ?_
                        refine va_iast hx hb hK.1 hP hD hS 1 0 rfl rfl (ir_in h1 h7 (by decide) (by decide)) d_Mo_bind_78 (fun H locs hP hD hS => ?_)
                        have hP : va_P (dC, dI) classes [(oM, .inr (12, fm)), (am_does, .inl (cI, 32, .inl ((upd ((fun _ => (-1))) (ka : Int32).toNatClampNeg wh)))), (am_xs, .inl (cI, 32, .inl (fun _ => 0))), (am_ys, .inl (cI, 32, .inl (fun _ => 0))), (am_zs, .inl (cI, 32, .inl (fun _ => 0)))] H := hP
                        have hD : va_D A [(oM, .inr (12, fm)), (am_does, .inl (cI, 32, .inl ((upd ((fun _ => (-1))) (ka : Int32).toNatClampNeg wh)))), (am_xs, .inl (cI, 32, .inl (fun _ => 0))), (am_ys, .inl (cI, 32, .inl (fun _ => 0))), (am_zs, .inl (cI, 32, .inl (fun _ => 0)))] := hD
                        generalize (upd ((fun _ => (-1))) (ka : Int32).toNatClampNeg wh) = f78_12 at hP hD
                        refine lv_aload_n hx hb d_Mo_bind_79 rfl (lv_at hl 0 rfl) ?_
                        refine va_get (D := (dC, dI)) (ci := 12) (v := .ref am_xs) (C := R_Mo) (T := F_Mo) (N := 87) hx hb hts (fun w h => List.mem_cons_of_mem _ (in_Mo w h)) hown hK.1 hP 0 rfl rfl 50 (by decide) (hts _ (List.mem_cons_of_mem _ mw_1836)) (fun _ h9 => h9) hm_xs d_Mo_bind_80 ?_
                        refine lv_iload_n hx hb d_Mo_bind_83 rfl (lv_at hl 1 rfl) ?_
                        refine lv_iload_n hx hb d_Mo_bind_84 rfl (lv_at hl 3 rfl) ?_
                        refine va_iast hx hb hK.1 hP hD hS 2 0 rfl rfl (ir_in h1 h7 (by decide) (by decide)) d_Mo_bind_85 (fun H locs hP hD hS => ?_)
                        have hP : va_P (dC, dI) classes [(oM, .inr (12, fm)), (am_does, .inl (cI, 32, .inl f78_12)), (am_xs, .inl (cI, 32, .inl ((upd (fun _ => 0) (ka : Int32).toNatClampNeg xx)))), (am_ys, .inl (cI, 32, .inl (fun _ => 0))), (am_zs, .inl (cI, 32, .inl (fun _ => 0)))] H := hP
                        have hD : va_D A [(oM, .inr (12, fm)), (am_does, .inl (cI, 32, .inl f78_12)), (am_xs, .inl (cI, 32, .inl ((upd (fun _ => 0) (ka : Int32).toNatClampNeg xx)))), (am_ys, .inl (cI, 32, .inl (fun _ => 0))), (am_zs, .inl (cI, 32, .inl (fun _ => 0)))] := hD
                        generalize (upd (fun _ => 0) (ka : Int32).toNatClampNeg xx) = f85_13 at hP hD
                        refine lv_aload_n hx hb d_Mo_bind_86 rfl (lv_at hl 0 rfl) ?_
                        refine va_get (D := (dC, dI)) (ci := 12) (v := .ref am_ys) (C := R_Mo) (T := F_Mo) (N := 87) hx hb hts (fun w h => List.mem_cons_of_mem _ (in_Mo w h)) hown hK.1 hP 0 rfl rfl 51 (by decide) (hts _ (List.mem_cons_of_mem _ mw_1837)) (fun _ h9 => h9) hm_ys d_Mo_bind_87 ?_
                        refine lv_iload_n hx hb d_Mo_bind_90 rfl (lv_at hl 1 rfl) ?_
                        refine lv_iload hx hb d_Mo_bind_91 (lv_at hl 4 rfl) ?_
                        refine va_iast hx hb hK.1 hP hD hS 3 0 rfl rfl (ir_in h1 h7 (by decide) (by decide)) d_Mo_bind_93 (fun H locs hP hD hS => ?_)
                        have hP : va_P (dC, dI) classes [(oM, .inr (12, fm)), (am_does, .inl (cI, 32, .inl f78_12)), (am_xs, .inl (cI, 32, .inl f85_13)), (am_ys, .inl (cI, 32, .inl ((upd (fun _ => 0) (ka : Int32).toNatClampNeg yy)))), (am_zs, .inl (cI, 32, .inl (fun _ => 0)))] H := hP
                        have hD : va_D A [(oM, .inr (12, fm)), (am_does, .inl (cI, 32, .inl f78_12)), (am_xs, .inl (cI, 32, .inl f85_13)), (am_ys, .inl (cI, 32, .inl ((upd (fun _ => 0) (ka : Int32).toNatClampNeg yy)))), (am_zs, .inl (cI, 32, .inl (fun _ => 0)))] := hD
                        generalize (upd (fun _ => 0) (ka : Int32).toNatClampNeg yy) = f93_14 at hP hD
                        refine lv_aload_n hx hb d_Mo_bind_94 rfl (lv_at hl 0 rfl) ?_
                        refine va_get (D := (dC, dI)) (ci := 12) (v := .ref am_zs) (C := R_Mo) (T := F_Mo) (N := 87) hx hb hts (fun w h => List.mem_cons_of_mem _ (in_Mo w h)) hown hK.1 hP 0 rfl rfl 52 (by decide) (hts _ (List.mem_cons_of_mem _ mw_1838)) (fun _ h9 => h9) hm_zs d_Mo_bind_95 ?_
                        refine lv_iload_n hx hb d_Mo_bind_98 rfl (lv_at hl 1 rfl) ?_
                        refine lv_iload hx hb d_Mo_bind_99 (lv_at hl 5 rfl) ?_
                        refine va_iast hx hb hK.1 hP hD hS 4 0 rfl rfl (ir_in h1 h7 (by decide) (by decide)) d_Mo_bind_101 (fun H locs hP hD hS => ?_)
                        have hP : va_P (dC, dI) classes [(oM, .inr (12, fm)), (am_does, .inl (cI, 32, .inl f78_12)), (am_xs, .inl (cI, 32, .inl f85_13)), (am_ys, .inl (cI, 32, .inl f93_14)), (am_zs, .inl (cI, 32, .inl ((upd (fun _ => 0) (ka : Int32).toNatClampNeg zz))))] H := hP
                        have hD : va_D A [(oM, .inr (12, fm)), (am_does, .inl (cI, 32, .inl f78_12)), (am_xs, .inl (cI, 32, .inl f85_13)), (am_ys, .inl (cI, 32, .inl f93_14)), (am_zs, .inl (cI, 32, .inl ((upd (fun _ => 0) (ka : Int32).toNatClampNeg zz))))] := hD
                        generalize (upd (fun _ => 0) (ka : Int32).toNatClampNeg zz) = f101_15 at hP hD
                        refine lv_iconst (v := 1) hx hb d_Mo_bind_102 (by decide) ?_
                        exact W.zret (v := 1) (ty := .boolean) hx hb hr (by decide) (fun t ht hW => ⟨⟨_, (), rfl, (by unfold fn_Mo_bind; rw [if_neg h1, if_neg h7, if_neg h11, if_neg h16, if_pos h20, if_neg h26, if_neg h33, if_pos h38, if_neg h43, if_neg h50, if_neg h55]), trivial⟩, hS.F ht⟩) hS.2.2 d_Mo_bind_103
                      · refine lv_iload hx hb d_Mo_bind_58 (lv_at hl 4 rfl) ?_
                        refine lv_iconst (v := 1) hx hb d_Mo_bind_60 (by decide) ?_
                        refine lv_icmp_lt (tgt := 70) hx hb d_Mo_bind_61 (by decide) (fun h61 => ?_) (fun h61 => ?_)
                        · refine lv_iconst (v := 0) hx hb d_Mo_bind_70 (by decide) ?_
                          exact W.zret (v := 0) (ty := .boolean) hx hb hr (by decide) (fun t ht hW => ⟨⟨_, (), rfl, (by unfold fn_Mo_bind; rw [if_neg h1, if_neg h7, if_neg h11, if_neg h16, if_pos h20, if_neg h26, if_neg h33, if_pos h38, if_neg h43, if_neg h50, if_pos h55, if_pos h61]), trivial⟩, hS.F ht⟩) hS.2.2 d_Mo_bind_71
                        · refine lv_iload hx hb d_Mo_bind_64 (lv_at hl 4 rfl) ?_
                          refine lv_iconst (v := 5) hx hb d_Mo_bind_66 (by decide) ?_
                          refine lv_icmp_le (tgt := 72) hx hb d_Mo_bind_67 (by decide) (fun h67 => ?_) (fun h67 => ?_)
                          · refine lv_aload_n hx hb d_Mo_bind_72 rfl (lv_at hl 0 rfl) ?_
                            refine va_get (D := (dC, dI)) (ci := 12) (v := .ref am_does) (C := R_Mo) (T := F_Mo) (N := 87) hx hb hts (fun w h => List.mem_cons_of_mem _ (in_Mo w h)) hown hK.1 hP 0 rfl rfl 49 (by decide) (hts _ (List.mem_cons_of_mem _ mw_1835)) (fun _ h9 => h9) hm_does d_Mo_bind_73 ?_
                            refine lv_iload_n hx hb d_Mo_bind_76 rfl (lv_at hl 1 rfl) ?_
                            refine lv_iload_n hx hb d_Mo_bind_77 rfl (lv_at hl 2 rfl) ?_
                            refine va_iast hx hb hK.1 hP hD hS 1 0 rfl rfl (ir_in h1 h7 (by decide) (by decide)) d_Mo_bind_78 (fun H locs hP hD hS => ?_)
                            have hP : va_P (dC, dI) classes [(oM, .inr (12, fm)), (am_does, .inl (cI, 32, .inl ((upd ((fun _ => (-1))) (ka : Int32).toNatClampNeg wh)))), (am_xs, .inl (cI, 32, .inl (fun _ => 0))), (am_ys, .inl (cI, 32, .inl (fun _ => 0))), (am_zs, .inl (cI, 32, .inl (fun _ => 0)))] H := hP
                            have hD : va_D A [(oM, .inr (12, fm)), (am_does, .inl (cI, 32, .inl ((upd ((fun _ => (-1))) (ka : Int32).toNatClampNeg wh)))), (am_xs, .inl (cI, 32, .inl (fun _ => 0))), (am_ys, .inl (cI, 32, .inl (fun _ => 0))), (am_zs, .inl (cI, 32, .inl (fun _ => 0)))] := hD
                            generalize (upd ((fun _ => (-1))) (ka : Int32).toNatClampNeg wh) = f78_14 at hP hD
                            refine lv_aload_n hx hb d_Mo_bind_79 rfl (lv_at hl 0 rfl) ?_
                            refine va_get (D := (dC, dI)) (ci := 12) (v := .ref am_xs) (C := R_Mo) (T := F_Mo) (N := 87) hx hb hts (fun w h => List.mem_cons_of_mem _ (in_Mo w h)) hown hK.1 hP 0 rfl rfl 50 (by decide) (hts _ (List.mem_cons_of_mem _ mw_1836)) (fun _ h9 => h9) hm_xs d_Mo_bind_80 ?_
                            refine lv_iload_n hx hb d_Mo_bind_83 rfl (lv_at hl 1 rfl) ?_
                            refine lv_iload_n hx hb d_Mo_bind_84 rfl (lv_at hl 3 rfl) ?_
                            refine va_iast hx hb hK.1 hP hD hS 2 0 rfl rfl (ir_in h1 h7 (by decide) (by decide)) d_Mo_bind_85 (fun H locs hP hD hS => ?_)
                            have hP : va_P (dC, dI) classes [(oM, .inr (12, fm)), (am_does, .inl (cI, 32, .inl f78_14)), (am_xs, .inl (cI, 32, .inl ((upd (fun _ => 0) (ka : Int32).toNatClampNeg xx)))), (am_ys, .inl (cI, 32, .inl (fun _ => 0))), (am_zs, .inl (cI, 32, .inl (fun _ => 0)))] H := hP
                            have hD : va_D A [(oM, .inr (12, fm)), (am_does, .inl (cI, 32, .inl f78_14)), (am_xs, .inl (cI, 32, .inl ((upd (fun _ => 0) (ka : Int32).toNatClampNeg xx)))), (am_ys, .inl (cI, 32, .inl (fun _ => 0))), (am_zs, .inl (cI, 32, .inl (fun _ => 0)))] := hD
                            generalize (upd (fun _ => 0) (ka : Int32).toNatClampNeg xx) = f85_15 at hP hD
                            refine lv_aload_n hx hb d_Mo_bind_86 rfl (lv_at hl 0 rfl) ?_
                            refine va_get (D := (dC, dI)) (ci := 12) (v := .ref am_ys) (C := R_Mo) (T := F_Mo) (N := 87) hx hb hts (fun w h => List.mem_cons_of_mem _ (in_Mo w h)) hown hK.1 hP 0 rfl rfl 51 (by decide) (hts _ (List.mem_cons_of_mem _ mw_1837)) (fun _ h9 => h9) hm_ys d_Mo_bind_87 ?_
                            refine lv_iload_n hx hb d_Mo_bind_90 rfl (lv_at hl 1 rfl) ?_
                            refine lv_iload hx hb d_Mo_bind_91 (lv_at hl 4 rfl) ?_
                            refine va_iast hx hb hK.1 hP hD hS 3 0 rfl rfl (ir_in h1 h7 (by decide) (by decide)) d_Mo_bind_93 (fun H locs hP hD hS => ?_)
                            have hP : va_P (dC, dI) classes [(oM, .inr (12, fm)), (am_does, .inl (cI, 32, .inl f78_14)), (am_xs, .inl (cI, 32, .inl f85_15)), (am_ys, .inl (cI, 32, .inl ((upd (fun _ => 0) (ka : Int32).toNatClampNeg yy)))), (am_zs, .inl (cI, 32, .inl (fun _ => 0)))] H := hP
                            have hD : va_D A [(oM, .inr (12, fm)), (am_does, .inl (cI, 32, .inl f78_14)), (am_xs, .inl (cI, 32, .inl f85_15)), (am_ys, .inl (cI, 32, .inl ((upd (fun _ => 0) (ka : Int32).toNatClampNeg yy)))), (am_zs, .inl (cI, 32, .inl (fun _ => 0)))] := hD
                            generalize (upd (fun _ => 0) (ka : Int32).toNatClampNeg yy) = f93_16 at hP hD
                            refine lv_aload_n hx hb d_Mo_bind_94 rfl (lv_at hl 0 rfl) ?_
                            refine va_get (D := (dC, dI)) (ci := 12) (v := .ref am_zs) (C := R_Mo) (T := F_Mo) (N := 87) hx hb hts (fun w h => List.mem_cons_of_mem _ (in_Mo w h)) hown hK.1 hP 0 rfl rfl 52 (by decide) (hts _ (List.mem_cons_of_mem _ mw_1838)) (fun _ h9 => h9) hm_zs d_Mo_bind_95 ?_
                            refine lv_iload_n hx hb d_Mo_bind_98 rfl (lv_at hl 1 rfl) ?_
                            refine lv_iload hx hb d_Mo_bind_99 (lv_at hl 5 rfl) ?_
                            refine va_iast hx hb hK.1 hP hD hS 4 0 rfl rfl (ir_in h1 h7 (by decide) (by decide)) d_Mo_bind_101 (fun H locs hP hD hS => ?_)
                            have hP : va_P (dC, dI) classes [(oM, .inr (12, fm)), (am_does, .inl (cI, 32, .inl f78_14)), (am_xs, .inl (cI, 32, .inl f85_15)), (am_ys, .inl (cI, 32, .inl f93_16)), (am_zs, .inl (cI, 32, .inl ((upd (fun _ => 0) (ka : Int32).toNatClampNeg zz))))] H := hP
                            have hD : va_D A [(oM, .inr (12, fm)), (am_does, .inl (cI, 32, .inl f78_14)), (am_xs, .inl (cI, 32, .inl f85_15)), (am_ys, .inl (cI, 32, .inl f93_16)), (am_zs, .inl (cI, 32, .inl ((upd (fun _ => 0) (ka : Int32).toNatClampNeg zz))))] := hD
                            generalize (upd (fun _ => 0) (ka : Int32).toNatClampNeg zz) = f101_17 at hP hD
                            refine lv_iconst (v := 1) hx hb d_Mo_bind_102 (by decide) ?_
                            exact W.zret (v := 1) (ty := .boolean) hx hb hr (by decide) (fun t ht hW => ⟨⟨_, (), rfl, (by unfold fn_Mo_bind; rw [if_neg h1, if_neg h7, if_neg h11, if_neg h16, if_pos h20, if_neg h26, if_neg h33, if_pos h38, if_neg h43, if_neg h50, if_pos h55, if_neg h61, if_pos h67]), trivial⟩, hS.F ht⟩) hS.2.2 d_Mo_bind_103
                          · refine lv_iconst (v := 0) hx hb d_Mo_bind_70 (by decide) ?_
                            exact W.zret (v := 0) (ty := .boolean) hx hb hr (by decide) (fun t ht hW => ⟨⟨_, (), rfl, (by unfold fn_Mo_bind; rw [if_neg h1, if_neg h7, if_neg h11, if_neg h16, if_pos h20, if_neg h26, if_neg h33, if_pos h38, if_neg h43, if_neg h50, if_pos h55, if_neg h61, if_neg h67]), trivial⟩, hS.F ht⟩) hS.2.2 d_Mo_bind_71
theorem d_Mo_lasts_0 : decode b_Mo_lasts 0 = .ok (.iload_n 1, 1) := by decide +kernel
theorem d_Mo_lasts_1 : decode b_Mo_lasts 1 = .ok (.iconst 1, 1) := by decide +kernel
theorem d_Mo_lasts_2 : decode b_Mo_lasts 2 = .ok (.if_icmp .lt 19, 3) := by decide +kernel
theorem d_Mo_lasts_5 : decode b_Mo_lasts 5 = .ok (.iload_n 1, 1) := by decide +kernel
theorem d_Mo_lasts_6 : decode b_Mo_lasts 6 = .ok (.iconst 5, 1) := by decide +kernel
theorem d_Mo_lasts_7 : decode b_Mo_lasts 7 = .ok (.if_icmp .gt 14, 3) := by decide +kernel
theorem d_Mo_lasts_10 : decode b_Mo_lasts 10 = .ok (.iload_n 2, 1) := by decide +kernel
theorem d_Mo_lasts_11 : decode b_Mo_lasts 11 = .ok (.ifCond .lt 10, 3) := by decide +kernel
theorem d_Mo_lasts_14 : decode b_Mo_lasts 14 = .ok (.iload_n 2, 1) := by decide +kernel
theorem d_Mo_lasts_15 : decode b_Mo_lasts 15 = .ok (.ldc_w 423, 3) := by decide +kernel
theorem d_Mo_lasts_18 : decode b_Mo_lasts 18 = .ok (.if_icmp .le 5, 3) := by decide +kernel
theorem d_Mo_lasts_21 : decode b_Mo_lasts 21 = .ok (.iconst 0, 1) := by decide +kernel
theorem d_Mo_lasts_22 : decode b_Mo_lasts 22 = .ok (.ireturn, 1) := by decide +kernel
theorem d_Mo_lasts_23 : decode b_Mo_lasts 23 = .ok (.aload_n 0, 1) := by decide +kernel
theorem d_Mo_lasts_24 : decode b_Mo_lasts 24 = .ok (.getfield 71, 3) := by decide +kernel
theorem d_Mo_lasts_27 : decode b_Mo_lasts 27 = .ok (.iload_n 1, 1) := by decide +kernel
theorem d_Mo_lasts_28 : decode b_Mo_lasts 28 = .ok (.iload_n 2, 1) := by decide +kernel
theorem d_Mo_lasts_29 : decode b_Mo_lasts 29 = .ok (.iastore, 1) := by decide +kernel
theorem d_Mo_lasts_30 : decode b_Mo_lasts 30 = .ok (.iconst 1, 1) := by decide +kernel
theorem d_Mo_lasts_31 : decode b_Mo_lasts 31 = .ok (.ireturn, 1) := by decide +kernel
def fn_Mo_lasts (lv : Int32) (se : Int32) : Int32 := (if lv < 1 then 0 else (if 5 < lv then 0 else (if se < 0 then 0 else (if se ≤ 1000000 then 1 else 0))))
set_option maxHeartbeats 4000000 in
set_option maxRecDepth 100000 in
theorem c_Mo_lasts (l : Launch) (dC : Nat → ClassId) (dI : Nat → Nat → Nat) (cI cB cZ cJ : ClassId) (lv : Int32) (se : Int32) (oM : Nat) (am_lasting : Nat) (fm : List Value) (hm_lasting : fm[20]? = some (.ref am_lasting)) (sz : Nat) : Met l y_Mo_lasts w_Mo_lasts ({ frames := 0, cells := 0, slots := 0, locals := 0 }) (va_Pc [.ref oM, .int lv, .int se] (PW dC dI cI cB cZ cJ [(oM, .inr (12, fm)), (am_lasting, .inl (cI, 6, .inl (fun _ => 86400)))] sz)) (va_Qi (fun (r : Int32) (_ : Unit) => r = fn_Mo_lasts lv se) (fun _ _ => True) (va_A [(oM, .inr (12, fm)), (am_lasting, .inl (cI, 6, .inl (fun _ => 86400)))] sz)) 0 0 (va_A [(oM, .inr (12, fm)), (am_lasting, .inl (cI, 6, .inl (fun _ => 86400)))] sz) := by
  refine Met.ofW (cc := b_Mo_lasts) (maxL := 3) (ret := (some .boolean)) (by decide) rfl ?_
  intro p e s m args below meth c s₁ B hml hv
  obtain ⟨rfl, hsz, hP, hK, hD⟩ := hv
  have hx := B.exec
  have hb := B.bytes
  have hr := B.returns
  have hts := atoms_spec (ws := w_Mo_lasts) B.pre
  have hown : s.vm.findClass R_Mo = some m.cls := findClass_of_methodNamed B.named
  have hlocks := B.notSynchronized
  subst hsz
  have hD := hD.self (sz := s.heap.size)
  generalize hAe : va_A [(oM, .inr (12, fm)), (am_lasting, .inl (cI, 6, .inl (fun _ => 86400)))] s.heap.size = A at hD ⊢
  have hA : ∀ q : Nat, s.heap.size ≤ q → A q := fun q h => by rw [← hAe]; exact Or.inr h
  have hS : va_S A s.heap s.heap [] := va_S.rf
  have hP : va_P (dC, dI) classes [(oM, .inr (12, fm)), (am_lasting, .inl (cI, 6, .inl (fun _ => 86400)))] s.heap := hP
  have hl := lv_entry ([.ref oM, .int lv, .int se]) (n := 3) (Nat.le_of_ble_eq_true rfl)
  rw [lg_entry_eq]
  generalize (lg_sl ([.ref oM, .int lv, .int se]) ++ List.replicate (3 - (lg_sl ([.ref oM, .int lv, .int se])).length) Slot.unset).toArray = ls at hl ⊢
  have hl : lv_has ls 3 [(0, .ref oM), (1, .int lv), (2, .int se)] := hl
  refine lv_iload_n hx hb d_Mo_lasts_0 rfl (lv_at hl 1 rfl) ?_
  refine lv_iconst (v := 1) hx hb d_Mo_lasts_1 (by decide) ?_
  refine lv_icmp_lt (tgt := 21) hx hb d_Mo_lasts_2 (by decide) (fun h2 => ?_) (fun h2 => ?_)
  · refine lv_iconst (v := 0) hx hb d_Mo_lasts_21 (by decide) ?_
    exact W.zret (v := 0) (ty := .boolean) hx hb hr (by decide) (fun t ht hW => ⟨⟨_, (), rfl, (by unfold fn_Mo_lasts; rw [if_pos h2]), trivial⟩, hS.F ht⟩) hS.2.2 d_Mo_lasts_22
  · refine lv_iload_n hx hb d_Mo_lasts_5 rfl (lv_at hl 1 rfl) ?_
    refine lv_iconst (v := 5) hx hb d_Mo_lasts_6 (by decide) ?_
    refine lv_icmp_gt (tgt := 21) hx hb d_Mo_lasts_7 (by decide) (fun h7 => ?_) (fun h7 => ?_)
    · refine lv_iconst (v := 0) hx hb d_Mo_lasts_21 (by decide) ?_
      exact W.zret (v := 0) (ty := .boolean) hx hb hr (by decide) (fun t ht hW => ⟨⟨_, (), rfl, (by unfold fn_Mo_lasts; rw [if_neg h2, if_pos h7]), trivial⟩, hS.F ht⟩) hS.2.2 d_Mo_lasts_22
    · refine lv_iload_n hx hb d_Mo_lasts_10 rfl (lv_at hl 2 rfl) ?_
      refine lv_if_lt (tgt := 21) hx hb d_Mo_lasts_11 (by decide) (fun h11 => ?_) (fun h11 => ?_)
      · refine lv_iconst (v := 0) hx hb d_Mo_lasts_21 (by decide) ?_
        exact W.zret (v := 0) (ty := .boolean) hx hb hr (by decide) (fun t ht hW => ⟨⟨_, (), rfl, (by unfold fn_Mo_lasts; rw [if_neg h2, if_neg h7, if_pos h11]), trivial⟩, hS.F ht⟩) hS.2.2 d_Mo_lasts_22
      · refine lv_iload_n hx hb d_Mo_lasts_14 rfl (lv_at hl 2 rfl) ?_
        refine lv_ldcw (v := 1000000) hx hb hown (hts _ (List.mem_cons_of_mem _ mw_2457)) d_Mo_lasts_15 ?_
        refine lv_icmp_le (tgt := 23) hx hb d_Mo_lasts_18 (by decide) (fun h18 => ?_) (fun h18 => ?_)
        · refine lv_aload_n hx hb d_Mo_lasts_23 rfl (lv_at hl 0 rfl) ?_
          refine va_get (D := (dC, dI)) (ci := 12) (v := .ref am_lasting) (C := R_Mo) (T := F_Mo) (N := 87) hx hb hts (fun w h => List.mem_cons_of_mem _ (in_Mo w h)) hown hK.1 hP 0 rfl rfl 20 (by decide) (hts _ (List.mem_cons_of_mem _ mw_1806)) (fun _ h9 => h9) hm_lasting d_Mo_lasts_24 ?_
          refine lv_iload_n hx hb d_Mo_lasts_27 rfl (lv_at hl 1 rfl) ?_
          refine lv_iload_n hx hb d_Mo_lasts_28 rfl (lv_at hl 2 rfl) ?_
          refine va_iast hx hb hK.1 hP hD hS 1 0 rfl rfl (ir_in h2 h7 (by decide) (by decide)) d_Mo_lasts_29 (fun H locs hP hD hS => ?_)
          have hP : va_P (dC, dI) classes [(oM, .inr (12, fm)), (am_lasting, .inl (cI, 6, .inl ((upd (fun _ => 86400) (lv : Int32).toNatClampNeg se))))] H := hP
          have hD : va_D A [(oM, .inr (12, fm)), (am_lasting, .inl (cI, 6, .inl ((upd (fun _ => 86400) (lv : Int32).toNatClampNeg se))))] := hD
          generalize (upd (fun _ => 86400) (lv : Int32).toNatClampNeg se) = f29_5 at hP hD
          refine lv_iconst (v := 1) hx hb d_Mo_lasts_30 (by decide) ?_
          exact W.zret (v := 1) (ty := .boolean) hx hb hr (by decide) (fun t ht hW => ⟨⟨_, (), rfl, (by unfold fn_Mo_lasts; rw [if_neg h2, if_neg h7, if_neg h11, if_pos h18]), trivial⟩, hS.F ht⟩) hS.2.2 d_Mo_lasts_31
        · refine lv_iconst (v := 0) hx hb d_Mo_lasts_21 (by decide) ?_
          exact W.zret (v := 0) (ty := .boolean) hx hb hr (by decide) (fun t ht hW => ⟨⟨_, (), rfl, (by unfold fn_Mo_lasts; rw [if_neg h2, if_neg h7, if_neg h11, if_neg h18]), trivial⟩, hS.F ht⟩) hS.2.2 d_Mo_lasts_22
theorem d_Mo_need_0 : decode b_Mo_need 0 = .ok (.iload_n 1, 1) := by decide +kernel
theorem d_Mo_need_1 : decode b_Mo_need 1 = .ok (.iconst 1, 1) := by decide +kernel
theorem d_Mo_need_2 : decode b_Mo_need 2 = .ok (.if_icmp .lt 29, 3) := by decide +kernel
theorem d_Mo_need_5 : decode b_Mo_need 5 = .ok (.iload_n 1, 1) := by decide +kernel
theorem d_Mo_need_6 : decode b_Mo_need 6 = .ok (.bipush 14, 2) := by decide +kernel
theorem d_Mo_need_8 : decode b_Mo_need 8 = .ok (.if_icmp .gt 23, 3) := by decide +kernel
theorem d_Mo_need_11 : decode b_Mo_need 11 = .ok (.iload_n 2, 1) := by decide +kernel
theorem d_Mo_need_12 : decode b_Mo_need 12 = .ok (.iconst 1, 1) := by decide +kernel
theorem d_Mo_need_13 : decode b_Mo_need 13 = .ok (.if_icmp .lt 18, 3) := by decide +kernel
theorem d_Mo_need_16 : decode b_Mo_need 16 = .ok (.iload_n 2, 1) := by decide +kernel
theorem d_Mo_need_17 : decode b_Mo_need 17 = .ok (.bipush 14, 2) := by decide +kernel
theorem d_Mo_need_19 : decode b_Mo_need 19 = .ok (.if_icmp .gt 12, 3) := by decide +kernel
theorem d_Mo_need_22 : decode b_Mo_need 22 = .ok (.iload_n 3, 1) := by decide +kernel
theorem d_Mo_need_23 : decode b_Mo_need 23 = .ok (.ifCond .lt 8, 3) := by decide +kernel
theorem d_Mo_need_26 : decode b_Mo_need 26 = .ok (.iload_n 3, 1) := by decide +kernel
theorem d_Mo_need_27 : decode b_Mo_need 27 = .ok (.iconst 5, 1) := by decide +kernel
theorem d_Mo_need_28 : decode b_Mo_need 28 = .ok (.if_icmp .le 5, 3) := by decide +kernel
theorem d_Mo_need_31 : decode b_Mo_need 31 = .ok (.iconst 0, 1) := by decide +kernel
theorem d_Mo_need_32 : decode b_Mo_need 32 = .ok (.ireturn, 1) := by decide +kernel
theorem d_Mo_need_33 : decode b_Mo_need 33 = .ok (.aload_n 0, 1) := by decide +kernel
theorem d_Mo_need_34 : decode b_Mo_need 34 = .ok (.getfield 68, 3) := by decide +kernel
theorem d_Mo_need_37 : decode b_Mo_need 37 = .ok (.bipush 16, 2) := by decide +kernel
theorem d_Mo_need_39 : decode b_Mo_need 39 = .ok (.iload_n 1, 1) := by decide +kernel
theorem d_Mo_need_40 : decode b_Mo_need 40 = .ok (.imul, 1) := by decide +kernel
theorem d_Mo_need_41 : decode b_Mo_need 41 = .ok (.iload_n 2, 1) := by decide +kernel
theorem d_Mo_need_42 : decode b_Mo_need 42 = .ok (.iadd, 1) := by decide +kernel
theorem d_Mo_need_43 : decode b_Mo_need 43 = .ok (.iload_n 3, 1) := by decide +kernel
theorem d_Mo_need_44 : decode b_Mo_need 44 = .ok (.iastore, 1) := by decide +kernel
theorem d_Mo_need_45 : decode b_Mo_need 45 = .ok (.iconst 1, 1) := by decide +kernel
theorem d_Mo_need_46 : decode b_Mo_need 46 = .ok (.ireturn, 1) := by decide +kernel
def fn_Mo_need (la : Int32) (li : Int32) (lv : Int32) : Int32 := (if la < 1 then 0 else (if 14 < la then 0 else (if li < 1 then 0 else (if 14 < li then 0 else (if lv < 0 then 0 else (if lv ≤ 5 then 1 else 0))))))
set_option maxHeartbeats 4000000 in
set_option maxRecDepth 100000 in
theorem c_Mo_need (l : Launch) (dC : Nat → ClassId) (dI : Nat → Nat → Nat) (cI cB cZ cJ : ClassId) (la : Int32) (li : Int32) (lv : Int32) (oM : Nat) (am_needs : Nat) (fm : List Value) (hm_needs : fm[19]? = some (.ref am_needs)) (sz : Nat) : Met l y_Mo_need w_Mo_need ({ frames := 0, cells := 0, slots := 0, locals := 0 }) (va_Pc [.ref oM, .int la, .int li, .int lv] (PW dC dI cI cB cZ cJ [(oM, .inr (12, fm)), (am_needs, .inl (cI, 256, .inl (fun _ => 5)))] sz)) (va_Qi (fun (r : Int32) (_ : Unit) => r = fn_Mo_need la li lv) (fun _ _ => True) (va_A [(oM, .inr (12, fm)), (am_needs, .inl (cI, 256, .inl (fun _ => 5)))] sz)) 0 0 (va_A [(oM, .inr (12, fm)), (am_needs, .inl (cI, 256, .inl (fun _ => 5)))] sz) := by
  refine Met.ofW (cc := b_Mo_need) (maxL := 4) (ret := (some .boolean)) (by decide) rfl ?_
  intro p e s m args below meth c s₁ B hml hv
  obtain ⟨rfl, hsz, hP, hK, hD⟩ := hv
  have hx := B.exec
  have hb := B.bytes
  have hr := B.returns
  have hts := atoms_spec (ws := w_Mo_need) B.pre
  have hown : s.vm.findClass R_Mo = some m.cls := findClass_of_methodNamed B.named
  have hlocks := B.notSynchronized
  subst hsz
  have hD := hD.self (sz := s.heap.size)
  generalize hAe : va_A [(oM, .inr (12, fm)), (am_needs, .inl (cI, 256, .inl (fun _ => 5)))] s.heap.size = A at hD ⊢
  have hA : ∀ q : Nat, s.heap.size ≤ q → A q := fun q h => by rw [← hAe]; exact Or.inr h
  have hS : va_S A s.heap s.heap [] := va_S.rf
  have hP : va_P (dC, dI) classes [(oM, .inr (12, fm)), (am_needs, .inl (cI, 256, .inl (fun _ => 5)))] s.heap := hP
  have hl := lv_entry ([.ref oM, .int la, .int li, .int lv]) (n := 4) (Nat.le_of_ble_eq_true rfl)
  rw [lg_entry_eq]
  generalize (lg_sl ([.ref oM, .int la, .int li, .int lv]) ++ List.replicate (4 - (lg_sl ([.ref oM, .int la, .int li, .int lv])).length) Slot.unset).toArray = ls at hl ⊢
  have hl : lv_has ls 4 [(0, .ref oM), (1, .int la), (2, .int li), (3, .int lv)] := hl
  refine lv_iload_n hx hb d_Mo_need_0 rfl (lv_at hl 1 rfl) ?_
  refine lv_iconst (v := 1) hx hb d_Mo_need_1 (by decide) ?_
  refine lv_icmp_lt (tgt := 31) hx hb d_Mo_need_2 (by decide) (fun h2 => ?_) (fun h2 => ?_)
  · refine lv_iconst (v := 0) hx hb d_Mo_need_31 (by decide) ?_
    exact W.zret (v := 0) (ty := .boolean) hx hb hr (by decide) (fun t ht hW => ⟨⟨_, (), rfl, (by unfold fn_Mo_need; rw [if_pos h2]), trivial⟩, hS.F ht⟩) hS.2.2 d_Mo_need_32
  · refine lv_iload_n hx hb d_Mo_need_5 rfl (lv_at hl 1 rfl) ?_
    refine lv_bipush (v := 14) hx hb d_Mo_need_6 (by decide) ?_
    refine lv_icmp_gt (tgt := 31) hx hb d_Mo_need_8 (by decide) (fun h8 => ?_) (fun h8 => ?_)
    · refine lv_iconst (v := 0) hx hb d_Mo_need_31 (by decide) ?_
      exact W.zret (v := 0) (ty := .boolean) hx hb hr (by decide) (fun t ht hW => ⟨⟨_, (), rfl, (by unfold fn_Mo_need; rw [if_neg h2, if_pos h8]), trivial⟩, hS.F ht⟩) hS.2.2 d_Mo_need_32
    · refine lv_iload_n hx hb d_Mo_need_11 rfl (lv_at hl 2 rfl) ?_
      refine lv_iconst (v := 1) hx hb d_Mo_need_12 (by decide) ?_
      refine lv_icmp_lt (tgt := 31) hx hb d_Mo_need_13 (by decide) (fun h13 => ?_) (fun h13 => ?_)
      · refine lv_iconst (v := 0) hx hb d_Mo_need_31 (by decide) ?_
        exact W.zret (v := 0) (ty := .boolean) hx hb hr (by decide) (fun t ht hW => ⟨⟨_, (), rfl, (by unfold fn_Mo_need; rw [if_neg h2, if_neg h8, if_pos h13]), trivial⟩, hS.F ht⟩) hS.2.2 d_Mo_need_32
      · refine lv_iload_n hx hb d_Mo_need_16 rfl (lv_at hl 2 rfl) ?_
        refine lv_bipush (v := 14) hx hb d_Mo_need_17 (by decide) ?_
        refine lv_icmp_gt (tgt := 31) hx hb d_Mo_need_19 (by decide) (fun h19 => ?_) (fun h19 => ?_)
        · refine lv_iconst (v := 0) hx hb d_Mo_need_31 (by decide) ?_
          exact W.zret (v := 0) (ty := .boolean) hx hb hr (by decide) (fun t ht hW => ⟨⟨_, (), rfl, (by unfold fn_Mo_need; rw [if_neg h2, if_neg h8, if_neg h13, if_pos h19]), trivial⟩, hS.F ht⟩) hS.2.2 d_Mo_need_32
        · refine lv_iload_n hx hb d_Mo_need_22 rfl (lv_at hl 3 rfl) ?_
          refine lv_if_lt (tgt := 31) hx hb d_Mo_need_23 (by decide) (fun h23 => ?_) (fun h23 => ?_)
          · refine lv_iconst (v := 0) hx hb d_Mo_need_31 (by decide) ?_
            exact W.zret (v := 0) (ty := .boolean) hx hb hr (by decide) (fun t ht hW => ⟨⟨_, (), rfl, (by unfold fn_Mo_need; rw [if_neg h2, if_neg h8, if_neg h13, if_neg h19, if_pos h23]), trivial⟩, hS.F ht⟩) hS.2.2 d_Mo_need_32
          · refine lv_iload_n hx hb d_Mo_need_26 rfl (lv_at hl 3 rfl) ?_
            refine lv_iconst (v := 5) hx hb d_Mo_need_27 (by decide) ?_
            refine lv_icmp_le (tgt := 33) hx hb d_Mo_need_28 (by decide) (fun h28 => ?_) (fun h28 => ?_)
            · refine lv_aload_n hx hb d_Mo_need_33 rfl (lv_at hl 0 rfl) ?_
              refine va_get (D := (dC, dI)) (ci := 12) (v := .ref am_needs) (C := R_Mo) (T := F_Mo) (N := 87) hx hb hts (fun w h => List.mem_cons_of_mem _ (in_Mo w h)) hown hK.1 hP 0 rfl rfl 19 (by decide) (hts _ (List.mem_cons_of_mem _ mw_1805)) (fun _ h9 => h9) hm_needs d_Mo_need_34 ?_
              refine lv_bipush (v := 16) hx hb d_Mo_need_37 (by decide) ?_
              refine lv_iload_n hx hb d_Mo_need_39 rfl (lv_at hl 1 rfl) ?_
              refine lv_imul hx hb d_Mo_need_40 ?_
              refine lv_iload_n hx hb d_Mo_need_41 rfl (lv_at hl 2 rfl) ?_
              refine lv_iadd hx hb d_Mo_need_42 ?_
              refine lv_iload_n hx hb d_Mo_need_43 rfl (lv_at hl 3 rfl) ?_
              refine va_iast hx hb hK.1 hP hD hS 1 0 rfl rfl (ir_16 h2 h8 h13 h19) d_Mo_need_44 (fun H locs hP hD hS => ?_)
              have hP : va_P (dC, dI) classes [(oM, .inr (12, fm)), (am_needs, .inl (cI, 256, .inl ((upd (fun _ => 5) (((16 * la) + li) : Int32).toNatClampNeg lv))))] H := hP
              have hD : va_D A [(oM, .inr (12, fm)), (am_needs, .inl (cI, 256, .inl ((upd (fun _ => 5) (((16 * la) + li) : Int32).toNatClampNeg lv))))] := hD
              generalize (upd (fun _ => 5) (((16 * la) + li) : Int32).toNatClampNeg lv) = f44_7 at hP hD
              refine lv_iconst (v := 1) hx hb d_Mo_need_45 (by decide) ?_
              exact W.zret (v := 1) (ty := .boolean) hx hb hr (by decide) (fun t ht hW => ⟨⟨_, (), rfl, (by unfold fn_Mo_need; rw [if_neg h2, if_neg h8, if_neg h13, if_neg h19, if_neg h23, if_pos h28]), trivial⟩, hS.F ht⟩) hS.2.2 d_Mo_need_46
            · refine lv_iconst (v := 0) hx hb d_Mo_need_31 (by decide) ?_
              exact W.zret (v := 0) (ty := .boolean) hx hb hr (by decide) (fun t ht hW => ⟨⟨_, (), rfl, (by unfold fn_Mo_need; rw [if_neg h2, if_neg h8, if_neg h13, if_neg h19, if_neg h23, if_neg h28]), trivial⟩, hS.F ht⟩) hS.2.2 d_Mo_need_32
theorem d_Mo_may_0 : decode b_Mo_may 0 = .ok (.iload_n 1, 1) := by decide +kernel
theorem d_Mo_may_1 : decode b_Mo_may 1 = .ok (.iconst 1, 1) := by decide +kernel
theorem d_Mo_may_2 : decode b_Mo_may 2 = .ok (.if_icmp .lt 43, 3) := by decide +kernel
theorem d_Mo_may_5 : decode b_Mo_may 5 = .ok (.iload_n 1, 1) := by decide +kernel
theorem d_Mo_may_6 : decode b_Mo_may 6 = .ok (.bipush 14, 2) := by decide +kernel
theorem d_Mo_may_8 : decode b_Mo_may 8 = .ok (.if_icmp .gt 37, 3) := by decide +kernel
theorem d_Mo_may_11 : decode b_Mo_may 11 = .ok (.iload_n 2, 1) := by decide +kernel
theorem d_Mo_may_12 : decode b_Mo_may 12 = .ok (.iconst 1, 1) := by decide +kernel
theorem d_Mo_may_13 : decode b_Mo_may 13 = .ok (.if_icmp .lt 32, 3) := by decide +kernel
theorem d_Mo_may_16 : decode b_Mo_may 16 = .ok (.iload_n 2, 1) := by decide +kernel
theorem d_Mo_may_17 : decode b_Mo_may 17 = .ok (.bipush 14, 2) := by decide +kernel
theorem d_Mo_may_19 : decode b_Mo_may 19 = .ok (.if_icmp .gt 26, 3) := by decide +kernel
theorem d_Mo_may_22 : decode b_Mo_may 22 = .ok (.iload_n 1, 1) := by decide +kernel
theorem d_Mo_may_23 : decode b_Mo_may 23 = .ok (.iload_n 2, 1) := by decide +kernel
theorem d_Mo_may_24 : decode b_Mo_may 24 = .ok (.if_icmp .eq 21, 3) := by decide +kernel
theorem d_Mo_may_27 : decode b_Mo_may 27 = .ok (.aload_n 0, 1) := by decide +kernel
theorem d_Mo_may_28 : decode b_Mo_may 28 = .ok (.getfield 64, 3) := by decide +kernel
theorem d_Mo_may_31 : decode b_Mo_may 31 = .ok (.bipush 16, 2) := by decide +kernel
theorem d_Mo_may_33 : decode b_Mo_may 33 = .ok (.iload_n 1, 1) := by decide +kernel
theorem d_Mo_may_34 : decode b_Mo_may 34 = .ok (.imul, 1) := by decide +kernel
theorem d_Mo_may_35 : decode b_Mo_may 35 = .ok (.iload_n 2, 1) := by decide +kernel
theorem d_Mo_may_36 : decode b_Mo_may 36 = .ok (.iadd, 1) := by decide +kernel
theorem d_Mo_may_37 : decode b_Mo_may 37 = .ok (.baload, 1) := by decide +kernel
theorem d_Mo_may_38 : decode b_Mo_may 38 = .ok (.ifCond .ne 7, 3) := by decide +kernel
theorem d_Mo_may_41 : decode b_Mo_may 41 = .ok (.iconst 1, 1) := by decide +kernel
theorem d_Mo_may_42 : decode b_Mo_may 42 = .ok (.goto 4, 3) := by decide +kernel
theorem d_Mo_may_45 : decode b_Mo_may 45 = .ok (.iconst 0, 1) := by decide +kernel
theorem d_Mo_may_46 : decode b_Mo_may 46 = .ok (.istore_n 3, 1) := by decide +kernel
theorem d_Mo_may_47 : decode b_Mo_may 47 = .ok (.iload_n 3, 1) := by decide +kernel
theorem d_Mo_may_48 : decode b_Mo_may 48 = .ok (.ifCond .eq 27, 3) := by decide +kernel
theorem d_Mo_may_51 : decode b_Mo_may 51 = .ok (.aload_n 0, 1) := by decide +kernel
theorem d_Mo_may_52 : decode b_Mo_may 52 = .ok (.getfield 64, 3) := by decide +kernel
theorem d_Mo_may_55 : decode b_Mo_may 55 = .ok (.bipush 16, 2) := by decide +kernel
theorem d_Mo_may_57 : decode b_Mo_may 57 = .ok (.iload_n 1, 1) := by decide +kernel
theorem d_Mo_may_58 : decode b_Mo_may 58 = .ok (.imul, 1) := by decide +kernel
theorem d_Mo_may_59 : decode b_Mo_may 59 = .ok (.iload_n 2, 1) := by decide +kernel
theorem d_Mo_may_60 : decode b_Mo_may 60 = .ok (.iadd, 1) := by decide +kernel
theorem d_Mo_may_61 : decode b_Mo_may 61 = .ok (.iconst 1, 1) := by decide +kernel
theorem d_Mo_may_62 : decode b_Mo_may 62 = .ok (.bastore, 1) := by decide +kernel
theorem d_Mo_may_63 : decode b_Mo_may 63 = .ok (.aload_n 0, 1) := by decide +kernel
theorem d_Mo_may_64 : decode b_Mo_may 64 = .ok (.getfield 64, 3) := by decide +kernel
theorem d_Mo_may_67 : decode b_Mo_may 67 = .ok (.bipush 16, 2) := by decide +kernel
theorem d_Mo_may_69 : decode b_Mo_may 69 = .ok (.iload_n 2, 1) := by decide +kernel
theorem d_Mo_may_70 : decode b_Mo_may 70 = .ok (.imul, 1) := by decide +kernel
theorem d_Mo_may_71 : decode b_Mo_may 71 = .ok (.iload_n 1, 1) := by decide +kernel
theorem d_Mo_may_72 : decode b_Mo_may 72 = .ok (.iadd, 1) := by decide +kernel
theorem d_Mo_may_73 : decode b_Mo_may 73 = .ok (.iconst 1, 1) := by decide +kernel
theorem d_Mo_may_74 : decode b_Mo_may 74 = .ok (.bastore, 1) := by decide +kernel
theorem d_Mo_may_75 : decode b_Mo_may 75 = .ok (.iload_n 3, 1) := by decide +kernel
theorem d_Mo_may_76 : decode b_Mo_may 76 = .ok (.ireturn, 1) := by decide +kernel
def fn_Mo_may (li : Int32) (ot : Int32) : Int32 := (if li < 1 then 0 else (if 14 < li then 0 else (if ot < 1 then 0 else (if 14 < ot then 0 else (if li = ot then 0 else 1)))))
set_option maxHeartbeats 4000000 in
set_option maxRecDepth 100000 in
theorem c_Mo_may (l : Launch) (dC : Nat → ClassId) (dI : Nat → Nat → Nat) (cI cB cZ cJ : ClassId) (li : Int32) (ot : Int32) (oM : Nat) (am_meet : Nat) (fm : List Value) (hm_meet : fm[18]? = some (.ref am_meet)) (sz : Nat) : Met l y_Mo_may w_Mo_may ({ frames := 0, cells := 0, slots := 0, locals := 0 }) (va_Pc [.ref oM, .int li, .int ot] (PW dC dI cI cB cZ cJ [(oM, .inr (12, fm)), (am_meet, .inl (cZ, 256, .inl (fun _ => 0)))] sz)) (va_Qi (fun (r : Int32) (_ : Unit) => r = fn_Mo_may li ot) (fun _ _ => True) (va_A [(oM, .inr (12, fm)), (am_meet, .inl (cZ, 256, .inl (fun _ => 0)))] sz)) 0 0 (va_A [(oM, .inr (12, fm)), (am_meet, .inl (cZ, 256, .inl (fun _ => 0)))] sz) := by
  refine Met.ofW (cc := b_Mo_may) (maxL := 4) (ret := (some .boolean)) (by decide) rfl ?_
  intro p e s m args below meth c s₁ B hml hv
  obtain ⟨rfl, hsz, hP, hK, hD⟩ := hv
  have hx := B.exec
  have hb := B.bytes
  have hr := B.returns
  have hts := atoms_spec (ws := w_Mo_may) B.pre
  have hown : s.vm.findClass R_Mo = some m.cls := findClass_of_methodNamed B.named
  have hlocks := B.notSynchronized
  subst hsz
  have hD := hD.self (sz := s.heap.size)
  generalize hAe : va_A [(oM, .inr (12, fm)), (am_meet, .inl (cZ, 256, .inl (fun _ => 0)))] s.heap.size = A at hD ⊢
  have hA : ∀ q : Nat, s.heap.size ≤ q → A q := fun q h => by rw [← hAe]; exact Or.inr h
  have hS : va_S A s.heap s.heap [] := va_S.rf
  have hP : va_P (dC, dI) classes [(oM, .inr (12, fm)), (am_meet, .inl (cZ, 256, .inl (fun _ => 0)))] s.heap := hP
  have hl := lv_entry ([.ref oM, .int li, .int ot]) (n := 4) (Nat.le_of_ble_eq_true rfl)
  rw [lg_entry_eq]
  generalize (lg_sl ([.ref oM, .int li, .int ot]) ++ List.replicate (4 - (lg_sl ([.ref oM, .int li, .int ot])).length) Slot.unset).toArray = ls at hl ⊢
  have hl : lv_has ls 4 [(0, .ref oM), (1, .int li), (2, .int ot)] := hl
  refine lv_iload_n hx hb d_Mo_may_0 rfl (lv_at hl 1 rfl) ?_
  refine lv_iconst (v := 1) hx hb d_Mo_may_1 (by decide) ?_
  refine lv_icmp_lt (tgt := 45) hx hb d_Mo_may_2 (by decide) (fun h2 => ?_) (fun h2 => ?_)
  · refine lv_iconst (v := 0) hx hb d_Mo_may_45 (by decide) ?_
    refine lv_istore_n hx hb d_Mo_may_46 rfl hl (by decide) rfl (fun ls hl => ?_)
    have hl : lv_has ls 4 [(3, .int 0), (0, .ref oM), (1, .int li), (2, .int ot)] := hl
    refine lv_iload_n hx hb d_Mo_may_47 rfl (lv_at hl 0 rfl) ?_
    refine lv_if_eq (tgt := 75) hx hb d_Mo_may_48 (by decide) (fun _ => ?_) (fun h => absurd (by decide) h)
    refine lv_iload_n hx hb d_Mo_may_75 rfl (lv_at hl 0 rfl) ?_
    exact W.zret (v := 0) (ty := .boolean) hx hb hr (by decide) (fun t ht hW => ⟨⟨_, (), rfl, (by unfold fn_Mo_may; rw [if_pos h2]), trivial⟩, hS.F ht⟩) hS.2.2 d_Mo_may_76
  · refine lv_iload_n hx hb d_Mo_may_5 rfl (lv_at hl 1 rfl) ?_
    refine lv_bipush (v := 14) hx hb d_Mo_may_6 (by decide) ?_
    refine lv_icmp_gt (tgt := 45) hx hb d_Mo_may_8 (by decide) (fun h8 => ?_) (fun h8 => ?_)
    · refine lv_iconst (v := 0) hx hb d_Mo_may_45 (by decide) ?_
      refine lv_istore_n hx hb d_Mo_may_46 rfl hl (by decide) rfl (fun ls hl => ?_)
      have hl : lv_has ls 4 [(3, .int 0), (0, .ref oM), (1, .int li), (2, .int ot)] := hl
      refine lv_iload_n hx hb d_Mo_may_47 rfl (lv_at hl 0 rfl) ?_
      refine lv_if_eq (tgt := 75) hx hb d_Mo_may_48 (by decide) (fun _ => ?_) (fun h => absurd (by decide) h)
      refine lv_iload_n hx hb d_Mo_may_75 rfl (lv_at hl 0 rfl) ?_
      exact W.zret (v := 0) (ty := .boolean) hx hb hr (by decide) (fun t ht hW => ⟨⟨_, (), rfl, (by unfold fn_Mo_may; rw [if_neg h2, if_pos h8]), trivial⟩, hS.F ht⟩) hS.2.2 d_Mo_may_76
    · refine lv_iload_n hx hb d_Mo_may_11 rfl (lv_at hl 2 rfl) ?_
      refine lv_iconst (v := 1) hx hb d_Mo_may_12 (by decide) ?_
      refine lv_icmp_lt (tgt := 45) hx hb d_Mo_may_13 (by decide) (fun h13 => ?_) (fun h13 => ?_)
      · refine lv_iconst (v := 0) hx hb d_Mo_may_45 (by decide) ?_
        refine lv_istore_n hx hb d_Mo_may_46 rfl hl (by decide) rfl (fun ls hl => ?_)
        have hl : lv_has ls 4 [(3, .int 0), (0, .ref oM), (1, .int li), (2, .int ot)] := hl
        refine lv_iload_n hx hb d_Mo_may_47 rfl (lv_at hl 0 rfl) ?_
        refine lv_if_eq (tgt := 75) hx hb d_Mo_may_48 (by decide) (fun _ => ?_) (fun h => absurd (by decide) h)
        refine lv_iload_n hx hb d_Mo_may_75 rfl (lv_at hl 0 rfl) ?_
        exact W.zret (v := 0) (ty := .boolean) hx hb hr (by decide) (fun t ht hW => ⟨⟨_, (), rfl, (by unfold fn_Mo_may; rw [if_neg h2, if_neg h8, if_pos h13]), trivial⟩, hS.F ht⟩) hS.2.2 d_Mo_may_76
      · refine lv_iload_n hx hb d_Mo_may_16 rfl (lv_at hl 2 rfl) ?_
        refine lv_bipush (v := 14) hx hb d_Mo_may_17 (by decide) ?_
        refine lv_icmp_gt (tgt := 45) hx hb d_Mo_may_19 (by decide) (fun h19 => ?_) (fun h19 => ?_)
        · refine lv_iconst (v := 0) hx hb d_Mo_may_45 (by decide) ?_
          refine lv_istore_n hx hb d_Mo_may_46 rfl hl (by decide) rfl (fun ls hl => ?_)
          have hl : lv_has ls 4 [(3, .int 0), (0, .ref oM), (1, .int li), (2, .int ot)] := hl
          refine lv_iload_n hx hb d_Mo_may_47 rfl (lv_at hl 0 rfl) ?_
          refine lv_if_eq (tgt := 75) hx hb d_Mo_may_48 (by decide) (fun _ => ?_) (fun h => absurd (by decide) h)
          refine lv_iload_n hx hb d_Mo_may_75 rfl (lv_at hl 0 rfl) ?_
          exact W.zret (v := 0) (ty := .boolean) hx hb hr (by decide) (fun t ht hW => ⟨⟨_, (), rfl, (by unfold fn_Mo_may; rw [if_neg h2, if_neg h8, if_neg h13, if_pos h19]), trivial⟩, hS.F ht⟩) hS.2.2 d_Mo_may_76
        · refine lv_iload_n hx hb d_Mo_may_22 rfl (lv_at hl 1 rfl) ?_
          refine lv_iload_n hx hb d_Mo_may_23 rfl (lv_at hl 2 rfl) ?_
          refine lv_icmp_eq (tgt := 45) hx hb d_Mo_may_24 (by decide) (fun h24 => ?_) (fun h24 => ?_)
          · refine lv_iconst (v := 0) hx hb d_Mo_may_45 (by decide) ?_
            refine lv_istore_n hx hb d_Mo_may_46 rfl hl (by decide) rfl (fun ls hl => ?_)
            have hl : lv_has ls 4 [(3, .int 0), (0, .ref oM), (1, .int li), (2, .int ot)] := hl
            refine lv_iload_n hx hb d_Mo_may_47 rfl (lv_at hl 0 rfl) ?_
            refine lv_if_eq (tgt := 75) hx hb d_Mo_may_48 (by decide) (fun _ => ?_) (fun h => absurd (by decide) h)
            refine lv_iload_n hx hb d_Mo_may_75 rfl (lv_at hl 0 rfl) ?_
            exact W.zret (v := 0) (ty := .boolean) hx hb hr (by decide) (fun t ht hW => ⟨⟨_, (), rfl, (by unfold fn_Mo_may; rw [if_neg h2, if_neg h8, if_neg h13, if_neg h19, if_pos h24]), trivial⟩, hS.F ht⟩) hS.2.2 d_Mo_may_76
          · refine lv_aload_n hx hb d_Mo_may_27 rfl (lv_at hl 0 rfl) ?_
            refine va_get (D := (dC, dI)) (ci := 12) (v := .ref am_meet) (C := R_Mo) (T := F_Mo) (N := 87) hx hb hts (fun w h => List.mem_cons_of_mem _ (in_Mo w h)) hown hK.1 hP 0 rfl rfl 18 (by decide) (hts _ (List.mem_cons_of_mem _ mw_1804)) (fun _ h9 => h9) hm_meet d_Mo_may_28 ?_
            refine lv_bipush (v := 16) hx hb d_Mo_may_31 (by decide) ?_
            refine lv_iload_n hx hb d_Mo_may_33 rfl (lv_at hl 1 rfl) ?_
            refine lv_imul hx hb d_Mo_may_34 ?_
            refine lv_iload_n hx hb d_Mo_may_35 rfl (lv_at hl 2 rfl) ?_
            refine lv_iadd hx hb d_Mo_may_36 ?_
            refine va_zald hx hb hK.1 hP 1 2 rfl rfl (ir_16 h2 h8 h13 h19) d_Mo_may_37 ?_
            refine lv_if_ne (tgt := 45) hx hb d_Mo_may_38 (by decide) (fun h => absurd rfl h) (fun _ => ?_)
            refine lv_iconst (v := 1) hx hb d_Mo_may_41 (by decide) ?_
            refine lv_goto (tgt := 46) hx hb d_Mo_may_42 (by decide) ?_
            refine lv_istore_n hx hb d_Mo_may_46 rfl hl (by decide) rfl (fun ls hl => ?_)
            have hl : lv_has ls 4 [(3, .int 1), (0, .ref oM), (1, .int li), (2, .int ot)] := hl
            refine lv_iload_n hx hb d_Mo_may_47 rfl (lv_at hl 0 rfl) ?_
            refine lv_if_eq (tgt := 75) hx hb d_Mo_may_48 (by decide) (fun h => absurd h (by decide)) (fun _ => ?_)
            refine lv_aload_n hx hb d_Mo_may_51 rfl (lv_at hl 1 rfl) ?_
            refine va_get (D := (dC, dI)) (ci := 12) (v := .ref am_meet) (C := R_Mo) (T := F_Mo) (N := 87) hx hb hts (fun w h => List.mem_cons_of_mem _ (in_Mo w h)) hown hK.1 hP 0 rfl rfl 18 (by decide) (hts _ (List.mem_cons_of_mem _ mw_1804)) (fun _ h9 => h9) hm_meet d_Mo_may_52 ?_
            refine lv_bipush (v := 16) hx hb d_Mo_may_55 (by decide) ?_
            refine lv_iload_n hx hb d_Mo_may_57 rfl (lv_at hl 2 rfl) ?_
            refine lv_imul hx hb d_Mo_may_58 ?_
            refine lv_iload_n hx hb d_Mo_may_59 rfl (lv_at hl 3 rfl) ?_
            refine lv_iadd hx hb d_Mo_may_60 ?_
            refine lv_iconst (v := 1) hx hb d_Mo_may_61 (by decide) ?_
            refine va_zast hx hb hK.1 hP hD hS 1 2 rfl rfl (ir_16 h2 h8 h13 h19) d_Mo_may_62 (fun H locs hP hD hS => ?_)
            have hP : va_P (dC, dI) classes [(oM, .inr (12, fm)), (am_meet, .inl (cZ, 256, .inl ((upd (fun _ => 0) (((16 * li) + ot) : Int32).toNatClampNeg (vp_nar .boolean 1)))))] H := hP
            have hD : va_D A [(oM, .inr (12, fm)), (am_meet, .inl (cZ, 256, .inl ((upd (fun _ => 0) (((16 * li) + ot) : Int32).toNatClampNeg (vp_nar .boolean 1)))))] := hD
            generalize (upd (fun _ => 0) (((16 * li) + ot) : Int32).toNatClampNeg (vp_nar .boolean 1)) = f62_6 at hP hD
            refine lv_aload_n hx hb d_Mo_may_63 rfl (lv_at hl 1 rfl) ?_
            refine va_get (D := (dC, dI)) (ci := 12) (v := .ref am_meet) (C := R_Mo) (T := F_Mo) (N := 87) hx hb hts (fun w h => List.mem_cons_of_mem _ (in_Mo w h)) hown hK.1 hP 0 rfl rfl 18 (by decide) (hts _ (List.mem_cons_of_mem _ mw_1804)) (fun _ h9 => h9) hm_meet d_Mo_may_64 ?_
            refine lv_bipush (v := 16) hx hb d_Mo_may_67 (by decide) ?_
            refine lv_iload_n hx hb d_Mo_may_69 rfl (lv_at hl 3 rfl) ?_
            refine lv_imul hx hb d_Mo_may_70 ?_
            refine lv_iload_n hx hb d_Mo_may_71 rfl (lv_at hl 2 rfl) ?_
            refine lv_iadd hx hb d_Mo_may_72 ?_
            refine lv_iconst (v := 1) hx hb d_Mo_may_73 (by decide) ?_
            refine va_zast hx hb hK.1 hP hD hS 1 2 rfl rfl (ir_16 h13 h19 h2 h8) d_Mo_may_74 (fun H locs hP hD hS => ?_)
            have hP : va_P (dC, dI) classes [(oM, .inr (12, fm)), (am_meet, .inl (cZ, 256, .inl ((upd f62_6 (((16 * ot) + li) : Int32).toNatClampNeg (vp_nar .boolean 1)))))] H := hP
            have hD : va_D A [(oM, .inr (12, fm)), (am_meet, .inl (cZ, 256, .inl ((upd f62_6 (((16 * ot) + li) : Int32).toNatClampNeg (vp_nar .boolean 1)))))] := hD
            generalize (upd f62_6 (((16 * ot) + li) : Int32).toNatClampNeg (vp_nar .boolean 1)) = f74_7 at hP hD
            refine lv_iload_n hx hb d_Mo_may_75 rfl (lv_at hl 0 rfl) ?_
            exact W.zret (v := 1) (ty := .boolean) hx hb hr (by decide) (fun t ht hW => ⟨⟨_, (), rfl, (by unfold fn_Mo_may; rw [if_neg h2, if_neg h8, if_neg h13, if_neg h19, if_neg h24]), trivial⟩, hS.F ht⟩) hS.2.2 d_Mo_may_76
theorem d_Mo_answer_0 : decode b_Mo_answer 0 = .ok (.aload_n 0, 1) := by decide +kernel
theorem d_Mo_answer_1 : decode b_Mo_answer 1 = .ok (.iconst 0, 1) := by decide +kernel
theorem d_Mo_answer_2 : decode b_Mo_answer 2 = .ok (.putfield 576, 3) := by decide +kernel
theorem d_Mo_answer_5 : decode b_Mo_answer 5 = .ok (.aload_n 0, 1) := by decide +kernel
theorem d_Mo_answer_6 : decode b_Mo_answer 6 = .ok (.getfield 162, 3) := by decide +kernel
theorem d_Mo_answer_9 : decode b_Mo_answer 9 = .ok (.ifCond .ne 12, 3) := by decide +kernel
theorem d_Mo_answer_21 : decode b_Mo_answer 21 = .ok (.iconst (-1), 1) := by decide +kernel
theorem d_Mo_answer_22 : decode b_Mo_answer 22 = .ok (.istore_n 3, 1) := by decide +kernel
theorem d_Mo_answer_23 : decode b_Mo_answer 23 = .ok (.iload_n 3, 1) := by decide +kernel
theorem d_Mo_answer_24 : decode b_Mo_answer 24 = .ok (.iconst (-1), 1) := by decide +kernel
theorem d_Mo_answer_25 : decode b_Mo_answer 25 = .ok (.if_icmp .ne 5, 3) := by decide +kernel
theorem d_Mo_answer_28 : decode b_Mo_answer 28 = .ok (.iconst 0, 1) := by decide +kernel
theorem d_Mo_answer_29 : decode b_Mo_answer 29 = .ok (.ireturn, 1) := by decide +kernel
set_option maxHeartbeats 4000000 in
set_option maxRecDepth 100000 in
theorem c_Mo_answer (l : Launch) (dC : Nat → ClassId) (dI : Nat → Nat → Nat) (cI cB cZ cJ : ClassId) (vv : Int64) (oM : Nat) (fm : List Value) (hm_state : fm[59]? = some (.int 4)) (hm_left : fm[77]? = some (.int 0)) (sz : Nat) : Met l y_Mo_answer w_Mo_answer ({ frames := 0, cells := 0, slots := 0, locals := 0 }) (va_Pc [.ref oM, .long vv] (PW dC dI cI cB cZ cJ [(oM, .inr (12, fm))] sz)) (va_Qi (fun (r : Int32) (_ : Unit) => r = 0) (fun _ _ => True) (va_A [(oM, .inr (12, fm))] sz)) 0 0 (va_A [(oM, .inr (12, fm))] sz) := by
  refine Met.ofW (cc := b_Mo_answer) (maxL := 4) (ret := (some .boolean)) (by decide) rfl ?_
  intro p e s m args below meth c s₁ B hml hv
  obtain ⟨rfl, hsz, hP, hK, hD⟩ := hv
  have hx := B.exec
  have hb := B.bytes
  have hr := B.returns
  have hts := atoms_spec (ws := w_Mo_answer) B.pre
  have hown : s.vm.findClass R_Mo = some m.cls := findClass_of_methodNamed B.named
  have hlocks := B.notSynchronized
  subst hsz
  have hD := hD.self (sz := s.heap.size)
  generalize hAe : va_A [(oM, .inr (12, fm))] s.heap.size = A at hD ⊢
  have hA : ∀ q : Nat, s.heap.size ≤ q → A q := fun q h => by rw [← hAe]; exact Or.inr h
  have hS : va_S A s.heap s.heap [] := va_S.rf
  have hP : va_P (dC, dI) classes [(oM, .inr (12, fm))] s.heap := hP
  have hl := lv_entry ([.ref oM, .long vv]) (n := 4) (Nat.le_of_ble_eq_true rfl)
  rw [lg_entry_eq]
  generalize (lg_sl ([.ref oM, .long vv]) ++ List.replicate (4 - (lg_sl ([.ref oM, .long vv])).length) Slot.unset).toArray = ls at hl ⊢
  have hl : lv_has ls 4 [(0, .ref oM), (1, .long vv)] := hl
  refine lv_aload_n hx hb d_Mo_answer_0 rfl (lv_at hl 0 rfl) ?_
  refine lv_iconst (v := 0) hx hb d_Mo_answer_1 (by decide) ?_
  refine va_put (D := (dC, dI)) (ci := 12) (v := .int 0) (ty := .int) (C := R_Mo) (T := F_Mo) (N := 87) hx hb hts (fun w h => List.mem_cons_of_mem _ (in_Mo w h)) t_Mo t_Mo_ok n_Mo hown hK.1 hP hD hS 0 rfl rfl 77 (by decide) (hts _ (List.mem_cons_of_mem _ mw_1863)) (fun _ h9 => h9) rfl (by decide +kernel) rfl rfl (st_lt hm_left) d_Mo_answer_2 (fun H locs hP hD hS => ?_)
  have g2_77 : (fm.set 77 (.int 0))[77]? = some (.int 0) := (st_eq hm_left)
  have g2_59 : (fm.set 77 (.int 0))[59]? = some (.int 4) := (st_ne hm_state (by decide))
  have hP : va_P (dC, dI) classes [(oM, .inr (12, (fm.set 77 (.int 0))))] H := hP
  have hD : va_D A [(oM, .inr (12, (fm.set 77 (.int 0))))] := hD
  refine lv_aload_n hx hb d_Mo_answer_5 rfl (lv_at hl 0 rfl) ?_
  refine va_get (D := (dC, dI)) (ci := 12) (v := .int 4) (C := R_Mo) (T := F_Mo) (N := 87) hx hb hts (fun w h => List.mem_cons_of_mem _ (in_Mo w h)) hown hK.1 hP 0 rfl rfl 59 (by decide) (hts _ (List.mem_cons_of_mem _ mw_1845)) (fun _ h9 => h9) g2_59 d_Mo_answer_6 ?_
  refine lv_if_ne (tgt := 21) hx hb d_Mo_answer_9 (by decide) (fun _ => ?_) (fun h => absurd h (by decide))
  refine lv_iconst (v := (-1)) hx hb d_Mo_answer_21 (by decide) ?_
  refine lv_istore_n hx hb d_Mo_answer_22 rfl hl (by decide) rfl (fun ls hl => ?_)
  have hl : lv_has ls 4 [(3, .int (-1)), (0, .ref oM), (1, .long vv)] := hl
  refine lv_iload_n hx hb d_Mo_answer_23 rfl (lv_at hl 0 rfl) ?_
  refine lv_iconst (v := (-1)) hx hb d_Mo_answer_24 (by decide) ?_
  refine lv_icmp_ne (tgt := 30) hx hb d_Mo_answer_25 (by decide) (fun h => absurd rfl h) (fun _ => ?_)
  refine lv_iconst (v := 0) hx hb d_Mo_answer_28 (by decide) ?_
  exact W.zret (v := 0) (ty := .boolean) hx hb hr (by decide) (fun t ht hW => ⟨⟨_, (), rfl, (rfl), trivial⟩, hS.F ht⟩) hS.2.2 d_Mo_answer_29
theorem d_Mo_still_0 : decode b_Mo_still 0 = .ok (.aload_n 0, 1) := by decide +kernel
theorem d_Mo_still_1 : decode b_Mo_still 1 = .ok (.iload_n 1, 1) := by decide +kernel
theorem d_Mo_still_2 : decode b_Mo_still 2 = .ok (.putfield 576, 3) := by decide +kernel
theorem d_Mo_still_5 : decode b_Mo_still 5 = .ok (.iload_n 1, 1) := by decide +kernel
theorem d_Mo_still_6 : decode b_Mo_still 6 = .ok (.ifCond .lt 27, 3) := by decide +kernel
theorem d_Mo_still_9 : decode b_Mo_still 9 = .ok (.aload_n 0, 1) := by decide +kernel
theorem d_Mo_still_10 : decode b_Mo_still 10 = .ok (.getfield 162, 3) := by decide +kernel
theorem d_Mo_still_13 : decode b_Mo_still 13 = .ok (.ifCond .eq 11, 3) := by decide +kernel
theorem d_Mo_still_16 : decode b_Mo_still 16 = .ok (.aload_n 0, 1) := by decide +kernel
theorem d_Mo_still_17 : decode b_Mo_still 17 = .ok (.getfield 162, 3) := by decide +kernel
theorem d_Mo_still_20 : decode b_Mo_still 20 = .ok (.iconst 2, 1) := by decide +kernel
theorem d_Mo_still_21 : decode b_Mo_still 21 = .ok (.if_icmp .ne 12, 3) := by decide +kernel
theorem d_Mo_still_33 : decode b_Mo_still 33 = .ok (.iconst (-1), 1) := by decide +kernel
theorem d_Mo_still_34 : decode b_Mo_still 34 = .ok (.istore_n 2, 1) := by decide +kernel
theorem d_Mo_still_35 : decode b_Mo_still 35 = .ok (.iload_n 2, 1) := by decide +kernel
theorem d_Mo_still_36 : decode b_Mo_still 36 = .ok (.iconst (-1), 1) := by decide +kernel
theorem d_Mo_still_37 : decode b_Mo_still 37 = .ok (.if_icmp .ne 7, 3) := by decide +kernel
theorem d_Mo_still_40 : decode b_Mo_still 40 = .ok (.iconst (-1), 1) := by decide +kernel
theorem d_Mo_still_41 : decode b_Mo_still 41 = .ok (.goto 9, 3) := by decide +kernel
theorem d_Mo_still_50 : decode b_Mo_still 50 = .ok (.ireturn, 1) := by decide +kernel
set_option maxHeartbeats 4000000 in
set_option maxRecDepth 100000 in
theorem c_Mo_still (l : Launch) (dC : Nat → ClassId) (dI : Nat → Nat → Nat) (cI cB cZ cJ : ClassId) (kk : Int32) (oM : Nat) (fm : List Value) (hm_state : fm[59]? = some (.int 4)) (hm_left : fm[77]? = some (.int 0)) (sz : Nat) : Met l y_Mo_still w_Mo_still ({ frames := 0, cells := 0, slots := 0, locals := 0 }) (va_Pc [.ref oM, .int kk] (PW dC dI cI cB cZ cJ [(oM, .inr (12, fm))] sz)) (va_Qi (fun (r : Int32) (_ : Unit) => r = (-1)) (fun _ _ => True) (va_A [(oM, .inr (12, fm))] sz)) 0 0 (va_A [(oM, .inr (12, fm))] sz) := by
  refine Met.ofW (cc := b_Mo_still) (maxL := 3) (ret := (some .int)) (by decide) rfl ?_
  intro p e s m args below meth c s₁ B hml hv
  obtain ⟨rfl, hsz, hP, hK, hD⟩ := hv
  have hx := B.exec
  have hb := B.bytes
  have hr := B.returns
  have hts := atoms_spec (ws := w_Mo_still) B.pre
  have hown : s.vm.findClass R_Mo = some m.cls := findClass_of_methodNamed B.named
  have hlocks := B.notSynchronized
  subst hsz
  have hD := hD.self (sz := s.heap.size)
  generalize hAe : va_A [(oM, .inr (12, fm))] s.heap.size = A at hD ⊢
  have hA : ∀ q : Nat, s.heap.size ≤ q → A q := fun q h => by rw [← hAe]; exact Or.inr h
  have hS : va_S A s.heap s.heap [] := va_S.rf
  have hP : va_P (dC, dI) classes [(oM, .inr (12, fm))] s.heap := hP
  have hl := lv_entry ([.ref oM, .int kk]) (n := 3) (Nat.le_of_ble_eq_true rfl)
  rw [lg_entry_eq]
  generalize (lg_sl ([.ref oM, .int kk]) ++ List.replicate (3 - (lg_sl ([.ref oM, .int kk])).length) Slot.unset).toArray = ls at hl ⊢
  have hl : lv_has ls 3 [(0, .ref oM), (1, .int kk)] := hl
  refine lv_aload_n hx hb d_Mo_still_0 rfl (lv_at hl 0 rfl) ?_
  refine lv_iload_n hx hb d_Mo_still_1 rfl (lv_at hl 1 rfl) ?_
  refine va_put (D := (dC, dI)) (ci := 12) (v := .int kk) (ty := .int) (C := R_Mo) (T := F_Mo) (N := 87) hx hb hts (fun w h => List.mem_cons_of_mem _ (in_Mo w h)) t_Mo t_Mo_ok n_Mo hown hK.1 hP hD hS 0 rfl rfl 77 (by decide) (hts _ (List.mem_cons_of_mem _ mw_1863)) (fun _ h9 => h9) rfl (by decide +kernel) rfl rfl (st_lt hm_left) d_Mo_still_2 (fun H locs hP hD hS => ?_)
  have g2_77 : (fm.set 77 (.int kk))[77]? = some (.int kk) := (st_eq hm_left)
  have g2_59 : (fm.set 77 (.int kk))[59]? = some (.int 4) := (st_ne hm_state (by decide))
  have hP : va_P (dC, dI) classes [(oM, .inr (12, (fm.set 77 (.int kk))))] H := hP
  have hD : va_D A [(oM, .inr (12, (fm.set 77 (.int kk))))] := hD
  refine lv_iload_n hx hb d_Mo_still_5 rfl (lv_at hl 1 rfl) ?_
  refine lv_if_lt (tgt := 33) hx hb d_Mo_still_6 (by decide) (fun h6 => ?_) (fun h6 => ?_)
  · refine lv_iconst (v := (-1)) hx hb d_Mo_still_33 (by decide) ?_
    refine lv_istore_n hx hb d_Mo_still_34 rfl hl (by decide) rfl (fun ls hl => ?_)
    have hl : lv_has ls 3 [(2, .int (-1)), (0, .ref oM), (1, .int kk)] := hl
    refine lv_iload_n hx hb d_Mo_still_35 rfl (lv_at hl 0 rfl) ?_
    refine lv_iconst (v := (-1)) hx hb d_Mo_still_36 (by decide) ?_
    refine lv_icmp_ne (tgt := 44) hx hb d_Mo_still_37 (by decide) (fun h => absurd rfl h) (fun _ => ?_)
    refine lv_iconst (v := (-1)) hx hb d_Mo_still_40 (by decide) ?_
    refine lv_goto (tgt := 50) hx hb d_Mo_still_41 (by decide) ?_
    exact W.iret (v := (-1)) hx hb hr (fun t ht hW => ⟨⟨_, (), rfl, (rfl), trivial⟩, hS.F ht⟩) hS.2.2 d_Mo_still_50
  · refine lv_aload_n hx hb d_Mo_still_9 rfl (lv_at hl 0 rfl) ?_
    refine va_get (D := (dC, dI)) (ci := 12) (v := .int 4) (C := R_Mo) (T := F_Mo) (N := 87) hx hb hts (fun w h => List.mem_cons_of_mem _ (in_Mo w h)) hown hK.1 hP 0 rfl rfl 59 (by decide) (hts _ (List.mem_cons_of_mem _ mw_1845)) (fun _ h9 => h9) g2_59 d_Mo_still_10 ?_
    refine lv_if_eq (tgt := 24) hx hb d_Mo_still_13 (by decide) (fun h => absurd h (by decide)) (fun _ => ?_)
    refine lv_aload_n hx hb d_Mo_still_16 rfl (lv_at hl 0 rfl) ?_
    refine va_get (D := (dC, dI)) (ci := 12) (v := .int 4) (C := R_Mo) (T := F_Mo) (N := 87) hx hb hts (fun w h => List.mem_cons_of_mem _ (in_Mo w h)) hown hK.1 hP 0 rfl rfl 59 (by decide) (hts _ (List.mem_cons_of_mem _ mw_1845)) (fun _ h9 => h9) g2_59 d_Mo_still_17 ?_
    refine lv_iconst (v := 2) hx hb d_Mo_still_20 (by decide) ?_
    refine lv_icmp_ne (tgt := 33) hx hb d_Mo_still_21 (by decide) (fun _ => ?_) (fun h => absurd h (by decide))
    refine lv_iconst (v := (-1)) hx hb d_Mo_still_33 (by decide) ?_
    refine lv_istore_n hx hb d_Mo_still_34 rfl hl (by decide) rfl (fun ls hl => ?_)
    have hl : lv_has ls 3 [(2, .int (-1)), (0, .ref oM), (1, .int kk)] := hl
    refine lv_iload_n hx hb d_Mo_still_35 rfl (lv_at hl 0 rfl) ?_
    refine lv_iconst (v := (-1)) hx hb d_Mo_still_36 (by decide) ?_
    refine lv_icmp_ne (tgt := 44) hx hb d_Mo_still_37 (by decide) (fun h => absurd rfl h) (fun _ => ?_)
    refine lv_iconst (v := (-1)) hx hb d_Mo_still_40 (by decide) ?_
    refine lv_goto (tgt := 50) hx hb d_Mo_still_41 (by decide) ?_
    exact W.iret (v := (-1)) hx hb hr (fun t ht hW => ⟨⟨_, (), rfl, (rfl), trivial⟩, hS.F ht⟩) hS.2.2 d_Mo_still_50
theorem d_Mo_write_0 : decode b_Mo_write 0 = .ok (.aload_n 0, 1) := by decide +kernel
theorem d_Mo_write_1 : decode b_Mo_write 1 = .ok (.iload_n 1, 1) := by decide +kernel
theorem d_Mo_write_2 : decode b_Mo_write 2 = .ok (.putfield 294, 3) := by decide +kernel
theorem d_Mo_write_5 : decode b_Mo_write 5 = .ok (.aload_n 0, 1) := by decide +kernel
theorem d_Mo_write_6 : decode b_Mo_write 6 = .ok (.iconst (-1), 1) := by decide +kernel
theorem d_Mo_write_7 : decode b_Mo_write 7 = .ok (.putfield 297, 3) := by decide +kernel
theorem d_Mo_write_10 : decode b_Mo_write 10 = .ok (.iconst 0, 1) := by decide +kernel
theorem d_Mo_write_11 : decode b_Mo_write 11 = .ok (.istore_n 2, 1) := by decide +kernel
theorem d_Mo_write_12 : decode b_Mo_write 12 = .ok (.iload_n 2, 1) := by decide +kernel
theorem d_Mo_write_13 : decode b_Mo_write 13 = .ok (.aload_n 0, 1) := by decide +kernel
theorem d_Mo_write_14 : decode b_Mo_write 14 = .ok (.getfield 278, 3) := by decide +kernel
theorem d_Mo_write_17 : decode b_Mo_write 17 = .ok (.if_icmp .ge 97, 3) := by decide +kernel
theorem d_Mo_write_114 : decode b_Mo_write 114 = .ok (.iconst 0, 1) := by decide +kernel
theorem d_Mo_write_115 : decode b_Mo_write 115 = .ok (.istore_n 2, 1) := by decide +kernel
theorem d_Mo_write_116 : decode b_Mo_write 116 = .ok (.iload_n 2, 1) := by decide +kernel
theorem d_Mo_write_117 : decode b_Mo_write 117 = .ok (.aload_n 0, 1) := by decide +kernel
theorem d_Mo_write_118 : decode b_Mo_write 118 = .ok (.getfield 281, 3) := by decide +kernel
theorem d_Mo_write_121 : decode b_Mo_write 121 = .ok (.if_icmp .ge 62, 3) := by decide +kernel
theorem d_Mo_write_183 : decode b_Mo_write 183 = .ok (.aload_n 0, 1) := by decide +kernel
theorem d_Mo_write_184 : decode b_Mo_write 184 = .ok (.getfield 297, 3) := by decide +kernel
theorem d_Mo_write_187 : decode b_Mo_write 187 = .ok (.ireturn, 1) := by decide +kernel
set_option maxHeartbeats 4000000 in
set_option maxRecDepth 100000 in
theorem c_Mo_write (l : Launch) (dC : Nat → ClassId) (dI : Nat → Nat → Nat) (cI cB cZ cJ : ClassId) (ii : Int32) (oM : Nat) (fm : List Value) (hm_things : fm[4]? = some (.int 0)) (hm_pipes : fm[11]? = some (.int 0)) (hm_wish : fm[83]? = some (.int 0)) (hm_found : fm[84]? = some (.int 0)) (sz : Nat) : Met l y_Mo_write w_Mo_write ({ frames := 0, cells := 0, slots := 0, locals := 0 }) (va_Pc [.ref oM, .int ii] (PW dC dI cI cB cZ cJ [(oM, .inr (12, fm))] sz)) (va_Qi (fun (r : Int32) (_ : Unit) => r = (-1)) (fun _ _ => True) (va_A [(oM, .inr (12, fm))] sz)) 0 0 (va_A [(oM, .inr (12, fm))] sz) := by
  refine Met.ofW (cc := b_Mo_write) (maxL := 3) (ret := (some .int)) (by decide) rfl ?_
  intro p e s m args below meth c s₁ B hml hv
  obtain ⟨rfl, hsz, hP, hK, hD⟩ := hv
  have hx := B.exec
  have hb := B.bytes
  have hr := B.returns
  have hts := atoms_spec (ws := w_Mo_write) B.pre
  have hown : s.vm.findClass R_Mo = some m.cls := findClass_of_methodNamed B.named
  have hlocks := B.notSynchronized
  subst hsz
  have hD := hD.self (sz := s.heap.size)
  generalize hAe : va_A [(oM, .inr (12, fm))] s.heap.size = A at hD ⊢
  have hA : ∀ q : Nat, s.heap.size ≤ q → A q := fun q h => by rw [← hAe]; exact Or.inr h
  have hS : va_S A s.heap s.heap [] := va_S.rf
  have hP : va_P (dC, dI) classes [(oM, .inr (12, fm))] s.heap := hP
  have hl := lv_entry ([.ref oM, .int ii]) (n := 3) (Nat.le_of_ble_eq_true rfl)
  rw [lg_entry_eq]
  generalize (lg_sl ([.ref oM, .int ii]) ++ List.replicate (3 - (lg_sl ([.ref oM, .int ii])).length) Slot.unset).toArray = ls at hl ⊢
  have hl : lv_has ls 3 [(0, .ref oM), (1, .int ii)] := hl
  refine lv_aload_n hx hb d_Mo_write_0 rfl (lv_at hl 0 rfl) ?_
  refine lv_iload_n hx hb d_Mo_write_1 rfl (lv_at hl 1 rfl) ?_
  refine va_put (D := (dC, dI)) (ci := 12) (v := .int ii) (ty := .int) (C := R_Mo) (T := F_Mo) (N := 87) hx hb hts (fun w h => List.mem_cons_of_mem _ (in_Mo w h)) t_Mo t_Mo_ok n_Mo hown hK.1 hP hD hS 0 rfl rfl 83 (by decide) (hts _ (List.mem_cons_of_mem _ mw_1869)) (fun _ h9 => h9) rfl (by decide +kernel) rfl rfl (st_lt hm_wish) d_Mo_write_2 (fun H locs hP hD hS => ?_)
  have g2_84 : (fm.set 83 (.int ii))[84]? = some (.int 0) := (st_ne hm_found (by decide))
  have g2_11 : (fm.set 83 (.int ii))[11]? = some (.int 0) := (st_ne hm_pipes (by decide))
  have g2_4 : (fm.set 83 (.int ii))[4]? = some (.int 0) := (st_ne hm_things (by decide))
  have g2_83 : (fm.set 83 (.int ii))[83]? = some (.int ii) := (st_eq hm_wish)
  have hP : va_P (dC, dI) classes [(oM, .inr (12, (fm.set 83 (.int ii))))] H := hP
  have hD : va_D A [(oM, .inr (12, (fm.set 83 (.int ii))))] := hD
  refine lv_aload_n hx hb d_Mo_write_5 rfl (lv_at hl 0 rfl) ?_
  refine lv_iconst (v := (-1)) hx hb d_Mo_write_6 (by decide) ?_
  refine va_put (D := (dC, dI)) (ci := 12) (v := .int (-1)) (ty := .int) (C := R_Mo) (T := F_Mo) (N := 87) hx hb hts (fun w h => List.mem_cons_of_mem _ (in_Mo w h)) t_Mo t_Mo_ok n_Mo hown hK.1 hP hD hS 0 rfl rfl 84 (by decide) (hts _ (List.mem_cons_of_mem _ mw_1870)) (fun _ h9 => h9) rfl (by decide +kernel) rfl rfl (st_lt g2_84) d_Mo_write_7 (fun H locs hP hD hS => ?_)
  have g7_84 : ((fm.set 83 (.int ii)).set 84 (.int (-1)))[84]? = some (.int (-1)) := (st_eq g2_84)
  have g7_11 : ((fm.set 83 (.int ii)).set 84 (.int (-1)))[11]? = some (.int 0) := (st_ne g2_11 (by decide))
  have g7_4 : ((fm.set 83 (.int ii)).set 84 (.int (-1)))[4]? = some (.int 0) := (st_ne g2_4 (by decide))
  have g7_83 : ((fm.set 83 (.int ii)).set 84 (.int (-1)))[83]? = some (.int ii) := (st_ne g2_83 (by decide))
  have hP : va_P (dC, dI) classes [(oM, .inr (12, ((fm.set 83 (.int ii)).set 84 (.int (-1)))))] H := hP
  have hD : va_D A [(oM, .inr (12, ((fm.set 83 (.int ii)).set 84 (.int (-1)))))] := hD
  refine lv_iconst (v := 0) hx hb d_Mo_write_10 (by decide) ?_
  refine lv_istore_n hx hb d_Mo_write_11 rfl hl (by decide) rfl (fun ls hl => ?_)
  have hl : lv_has ls 3 [(2, .int 0), (0, .ref oM), (1, .int ii)] := hl
  refine lv_iload_n hx hb d_Mo_write_12 rfl (lv_at hl 0 rfl) ?_
  refine lv_aload_n hx hb d_Mo_write_13 rfl (lv_at hl 1 rfl) ?_
  refine va_get (D := (dC, dI)) (ci := 12) (v := .int 0) (C := R_Mo) (T := F_Mo) (N := 87) hx hb hts (fun w h => List.mem_cons_of_mem _ (in_Mo w h)) hown hK.1 hP 0 rfl rfl 4 (by decide) (hts _ (List.mem_cons_of_mem _ mw_1790)) (fun _ h9 => h9) g7_4 d_Mo_write_14 ?_
  refine lv_icmp_ge (tgt := 114) hx hb d_Mo_write_17 (by decide) (fun _ => ?_) (fun h => absurd (by decide) h)
  refine lv_iconst (v := 0) hx hb d_Mo_write_114 (by decide) ?_
  refine lv_istore_n hx hb d_Mo_write_115 rfl hl (by decide) rfl (fun ls hl => ?_)
  have hl : lv_has ls 3 [(2, .int 0), (0, .ref oM), (1, .int ii)] := hl
  refine lv_iload_n hx hb d_Mo_write_116 rfl (lv_at hl 0 rfl) ?_
  refine lv_aload_n hx hb d_Mo_write_117 rfl (lv_at hl 1 rfl) ?_
  refine va_get (D := (dC, dI)) (ci := 12) (v := .int 0) (C := R_Mo) (T := F_Mo) (N := 87) hx hb hts (fun w h => List.mem_cons_of_mem _ (in_Mo w h)) hown hK.1 hP 0 rfl rfl 11 (by decide) (hts _ (List.mem_cons_of_mem _ mw_1797)) (fun _ h9 => h9) g7_11 d_Mo_write_118 ?_
  refine lv_icmp_ge (tgt := 183) hx hb d_Mo_write_121 (by decide) (fun _ => ?_) (fun h => absurd (by decide) h)
  refine lv_aload_n hx hb d_Mo_write_183 rfl (lv_at hl 1 rfl) ?_
  refine va_get (D := (dC, dI)) (ci := 12) (v := .int (-1)) (C := R_Mo) (T := F_Mo) (N := 87) hx hb hts (fun w h => List.mem_cons_of_mem _ (in_Mo w h)) hown hK.1 hP 0 rfl rfl 84 (by decide) (hts _ (List.mem_cons_of_mem _ mw_1870)) (fun _ h9 => h9) g7_84 d_Mo_write_184 ?_
  exact W.iret (v := (-1)) hx hb hr (fun t ht hW => ⟨⟨_, (), rfl, (rfl), trivial⟩, hS.F ht⟩) hS.2.2 d_Mo_write_187
end
section
abbrev b_Mo_join : ByteArray := prog_14_method_29_code
def y_Mo_join : MethodName := ⟨R_Mo, "join", "()V"⟩
abbrev w_Mo_join : List Cond := .code y_Mo_join b_Mo_join 6 none :: lw_gd
abbrev b_Mo_look : ByteArray := prog_14_method_34_code
def y_Mo_look : MethodName := ⟨R_Mo, "look", "()V"⟩
abbrev w_Mo_look : List Cond := .code y_Mo_look b_Mo_look 3 none :: lw_gd
abbrev b_Mo_flood : ByteArray := prog_14_method_30_code
def y_Mo_flood : MethodName := ⟨R_Mo, "flood", "(I)J"⟩
abbrev w_Mo_flood : List Cond := .code y_Mo_flood b_Mo_flood 8 (some .long) :: lw_gd
abbrev b_Mo_isCalm : ByteArray := prog_14_method_32_code
def y_Mo_isCalm : MethodName := ⟨R_Mo, "isCalm", "(I)Z"⟩
abbrev w_Mo_isCalm : List Cond := .code y_Mo_isCalm b_Mo_isCalm 5 (some .boolean) :: lw_gd
abbrev b_Mo_isSafe : ByteArray := prog_14_method_33_code
def y_Mo_isSafe : MethodName := ⟨R_Mo, "isSafe", "()Z"⟩
abbrev w_Mo_isSafe : List Cond := .code y_Mo_isSafe b_Mo_isSafe 5 (some .boolean) :: lw_gd
abbrev b_Mo_danger : ByteArray := prog_14_method_36_code
def y_Mo_danger : MethodName := ⟨R_Mo, "danger", "(I)I"⟩
abbrev w_Mo_danger : List Cond := .code y_Mo_danger b_Mo_danger 2 (some .int) :: lw_gd
abbrev b_Mo_closeAll : ByteArray := prog_14_method_44_code
def y_Mo_closeAll : MethodName := ⟨R_Mo, "closeAll", "()V"⟩
abbrev w_Mo_closeAll : List Cond := .code y_Mo_closeAll b_Mo_closeAll 1 none :: lw_gd
abbrev b_Mo_senseAll : ByteArray := prog_14_method_64_code
def y_Mo_senseAll : MethodName := ⟨R_Mo, "senseAll", "()V"⟩
abbrev w_Mo_senseAll : List Cond := .code y_Mo_senseAll b_Mo_senseAll 5 none :: lw_gd
abbrev b_Mr_tick : ByteArray := prog_15_method_21_code
def y_Mr_tick : MethodName := ⟨R_Mr, "tick", "(I)Z"⟩
abbrev w_Mr_tick : List Cond := .code y_Mr_tick b_Mr_tick 4 (some .boolean) :: lw_gd
theorem mw_1830 : (.fieldLink "BreweryHouseModel" 129 "BreweryHouseModel" "floods" "[J" : Cond) ∈ lw_gd := tb_mem (i := 1830) (by decide +kernel) (by decide +kernel)
theorem mw_2361 : (.methodLink "BreweryHouseModel" 366 y_Mo_look : Cond) ∈ lw_gd := tb_mem (i := 2361) (by decide +kernel) (by decide +kernel)
theorem mw_2363 : (.instanceMethod y_Mo_look : Cond) ∈ lw_gd := tb_mem (i := 2363) (by decide +kernel) (by decide +kernel)
theorem mw_2364 : (.code y_Mo_look b_Mo_look 3 none : Cond) ∈ lw_gd := tb_mem (i := 2364) (by decide +kernel) (by decide +kernel)
theorem mw_2373 : (.methodLink "BreweryHouseModel" 369 y_Mo_isSafe : Cond) ∈ lw_gd := tb_mem (i := 2373) (by decide +kernel) (by decide +kernel)
theorem mw_2375 : (.instanceMethod y_Mo_isSafe : Cond) ∈ lw_gd := tb_mem (i := 2375) (by decide +kernel) (by decide +kernel)
theorem mw_2376 : (.code y_Mo_isSafe b_Mo_isSafe 5 (some .boolean) : Cond) ∈ lw_gd := tb_mem (i := 2376) (by decide +kernel) (by decide +kernel)
theorem mw_2377 : (.methodLink "BreweryHouseModel" 359 y_Mo_isCalm : Cond) ∈ lw_gd := tb_mem (i := 2377) (by decide +kernel) (by decide +kernel)
theorem mw_2379 : (.instanceMethod y_Mo_isCalm : Cond) ∈ lw_gd := tb_mem (i := 2379) (by decide +kernel) (by decide +kernel)
theorem mw_2380 : (.code y_Mo_isCalm b_Mo_isCalm 5 (some .boolean) : Cond) ∈ lw_gd := tb_mem (i := 2380) (by decide +kernel) (by decide +kernel)
theorem mw_2381 : (.methodLink "BreweryHouseModel" 336 y_Mo_join : Cond) ∈ lw_gd := tb_mem (i := 2381) (by decide +kernel) (by decide +kernel)
theorem mw_2383 : (.instanceMethod y_Mo_join : Cond) ∈ lw_gd := tb_mem (i := 2383) (by decide +kernel) (by decide +kernel)
theorem mw_2384 : (.code y_Mo_join b_Mo_join 6 none : Cond) ∈ lw_gd := tb_mem (i := 2384) (by decide +kernel) (by decide +kernel)
theorem mw_2388 : (.methodLink "BreweryHouseModel" 339 y_Mo_flood : Cond) ∈ lw_gd := tb_mem (i := 2388) (by decide +kernel) (by decide +kernel)
theorem mw_2390 : (.instanceMethod y_Mo_flood : Cond) ∈ lw_gd := tb_mem (i := 2390) (by decide +kernel) (by decide +kernel)
theorem mw_2391 : (.code y_Mo_flood b_Mo_flood 8 (some .long) : Cond) ∈ lw_gd := tb_mem (i := 2391) (by decide +kernel) (by decide +kernel)
theorem mw_2609 : (.constant "BreweryHouseModel$Rows" 142 100000 : Cond) ∈ lw_gd := tb_mem (i := 2609) (by decide +kernel) (by decide +kernel)
theorem sl_143 : (.selects "BreweryHouseModel" y_Mo_look y_Mo_look : Cond) ∈ lw_gd := List.mem_filter.mpr ⟨List.mem_append_left _ (List.mem_of_getElem? (i := 143) (by decide +kernel)), by decide +kernel⟩
theorem sl_146 : (.selects "BreweryHouseModel" y_Mo_isSafe y_Mo_isSafe : Cond) ∈ lw_gd := List.mem_filter.mpr ⟨List.mem_append_left _ (List.mem_of_getElem? (i := 146) (by decide +kernel)), by decide +kernel⟩
theorem sl_147 : (.selects "BreweryHouseModel" y_Mo_isCalm y_Mo_isCalm : Cond) ∈ lw_gd := List.mem_filter.mpr ⟨List.mem_append_left _ (List.mem_of_getElem? (i := 147) (by decide +kernel)), by decide +kernel⟩
theorem sl_148 : (.selects "BreweryHouseModel" y_Mo_join y_Mo_join : Cond) ∈ lw_gd := List.mem_filter.mpr ⟨List.mem_append_left _ (List.mem_of_getElem? (i := 148) (by decide +kernel)), by decide +kernel⟩
theorem sl_149 : (.selects "BreweryHouseModel" y_Mo_flood y_Mo_flood : Cond) ∈ lw_gd := List.mem_filter.mpr ⟨List.mem_append_left _ (List.mem_of_getElem? (i := 149) (by decide +kernel)), by decide +kernel⟩
theorem d_Mo_join_0 : decode b_Mo_join 0 = .ok (.iconst 0, 1) := by decide +kernel
theorem d_Mo_join_1 : decode b_Mo_join 1 = .ok (.istore_n 1, 1) := by decide +kernel
theorem d_Mo_join_2 : decode b_Mo_join 2 = .ok (.iload_n 1, 1) := by decide +kernel
theorem d_Mo_join_3 : decode b_Mo_join 3 = .ok (.aload_n 0, 1) := by decide +kernel
theorem d_Mo_join_4 : decode b_Mo_join 4 = .ok (.getfield 278, 3) := by decide +kernel
theorem d_Mo_join_7 : decode b_Mo_join 7 = .ok (.aload_n 0, 1) := by decide +kernel
theorem d_Mo_join_8 : decode b_Mo_join 8 = .ok (.getfield 281, 3) := by decide +kernel
theorem d_Mo_join_11 : decode b_Mo_join 11 = .ok (.iadd, 1) := by decide +kernel
theorem d_Mo_join_12 : decode b_Mo_join 12 = .ok (.if_icmp .ge 16, 3) := by decide +kernel
theorem d_Mo_join_28 : decode b_Mo_join 28 = .ok (.iconst 0, 1) := by decide +kernel
theorem d_Mo_join_29 : decode b_Mo_join 29 = .ok (.istore_n 1, 1) := by decide +kernel
theorem d_Mo_join_30 : decode b_Mo_join 30 = .ok (.iload_n 1, 1) := by decide +kernel
theorem d_Mo_join_31 : decode b_Mo_join 31 = .ok (.iconst 2, 1) := by decide +kernel
theorem d_Mo_join_32 : decode b_Mo_join 32 = .ok (.aload_n 0, 1) := by decide +kernel
theorem d_Mo_join_33 : decode b_Mo_join 33 = .ok (.getfield 281, 3) := by decide +kernel
theorem d_Mo_join_36 : decode b_Mo_join 36 = .ok (.imul, 1) := by decide +kernel
theorem d_Mo_join_37 : decode b_Mo_join 37 = .ok (.if_icmp .ge 199, 3) := by decide +kernel
theorem d_Mo_join_236 : decode b_Mo_join 236 = .ok (.return_, 1) := by decide +kernel
set_option maxHeartbeats 4000000 in
set_option maxRecDepth 100000 in
theorem c_Mo_join (l : Launch) (dC : Nat → ClassId) (dI : Nat → Nat → Nat) (cI cB cZ cJ : ClassId) (oM : Nat) (fm : List Value) (hm_things : fm[4]? = some (.int 0)) (hm_pipes : fm[11]? = some (.int 0)) (sz : Nat) : Met l y_Mo_join w_Mo_join ({ frames := 0, cells := 0, slots := 0, locals := 0 }) (va_Pc [.ref oM] (PW dC dI cI cB cZ cJ [(oM, .inr (12, fm))] sz)) (va_Qv (fun _ : Unit => True) (fun _ _ => True) (va_A [] sz)) 0 0 (va_A [] sz) := by
  refine Met.ofW (cc := b_Mo_join) (maxL := 6) (ret := none) (by decide) rfl ?_
  intro p e s m args below meth c s₁ B hml hv
  obtain ⟨rfl, hsz, hP, hK, hD⟩ := hv
  have hx := B.exec
  have hb := B.bytes
  have hr := B.returns
  have hts := atoms_spec (ws := w_Mo_join) B.pre
  have hown : s.vm.findClass R_Mo = some m.cls := findClass_of_methodNamed B.named
  have hlocks := B.notSynchronized
  subst hsz
  generalize hAe : va_A [] s.heap.size = A at ⊢
  have hA : ∀ q : Nat, s.heap.size ≤ q → A q := fun q h => by rw [← hAe]; exact Or.inr h
  have hS : va_S A s.heap s.heap [] := va_S.rf
  have hP : va_P (dC, dI) classes [(oM, .inr (12, fm))] s.heap := hP
  have hl := lv_entry ([.ref oM]) (n := 6) (Nat.le_of_ble_eq_true rfl)
  rw [lg_entry_eq]
  generalize (lg_sl ([.ref oM]) ++ List.replicate (6 - (lg_sl ([.ref oM])).length) Slot.unset).toArray = ls at hl ⊢
  have hl : lv_has ls 6 [(0, .ref oM)] := hl
  refine lv_iconst (v := 0) hx hb d_Mo_join_0 (by decide) ?_
  refine lv_istore_n hx hb d_Mo_join_1 rfl hl (by decide) rfl (fun ls hl => ?_)
  have hl : lv_has ls 6 [(1, .int 0), (0, .ref oM)] := hl
  refine lv_iload_n hx hb d_Mo_join_2 rfl (lv_at hl 0 rfl) ?_
  refine lv_aload_n hx hb d_Mo_join_3 rfl (lv_at hl 1 rfl) ?_
  refine va_get (D := (dC, dI)) (ci := 12) (v := .int 0) (C := R_Mo) (T := F_Mo) (N := 87) hx hb hts (fun w h => List.mem_cons_of_mem _ (in_Mo w h)) hown hK.1 hP 0 rfl rfl 4 (by decide) (hts _ (List.mem_cons_of_mem _ mw_1790)) (fun _ h9 => h9) hm_things d_Mo_join_4 ?_
  refine lv_aload_n hx hb d_Mo_join_7 rfl (lv_at hl 1 rfl) ?_
  refine va_get (D := (dC, dI)) (ci := 12) (v := .int 0) (C := R_Mo) (T := F_Mo) (N := 87) hx hb hts (fun w h => List.mem_cons_of_mem _ (in_Mo w h)) hown hK.1 hP 0 rfl rfl 11 (by decide) (hts _ (List.mem_cons_of_mem _ mw_1797)) (fun _ h9 => h9) hm_pipes d_Mo_join_8 ?_
  refine lv_iadd hx hb d_Mo_join_11 ?_
  refine lv_topi (fun x0 e0 => ?_)
  obtain rfl : x0 = 0 := e0.trans (by decide)
  refine lv_icmp_ge (tgt := 28) hx hb d_Mo_join_12 (by decide) (fun _ => ?_) (fun h => absurd (by decide) h)
  refine lv_iconst (v := 0) hx hb d_Mo_join_28 (by decide) ?_
  refine lv_istore_n hx hb d_Mo_join_29 rfl hl (by decide) rfl (fun ls hl => ?_)
  have hl : lv_has ls 6 [(1, .int 0), (0, .ref oM)] := hl
  refine lv_iload_n hx hb d_Mo_join_30 rfl (lv_at hl 0 rfl) ?_
  refine lv_iconst (v := 2) hx hb d_Mo_join_31 (by decide) ?_
  refine lv_aload_n hx hb d_Mo_join_32 rfl (lv_at hl 1 rfl) ?_
  refine va_get (D := (dC, dI)) (ci := 12) (v := .int 0) (C := R_Mo) (T := F_Mo) (N := 87) hx hb hts (fun w h => List.mem_cons_of_mem _ (in_Mo w h)) hown hK.1 hP 0 rfl rfl 11 (by decide) (hts _ (List.mem_cons_of_mem _ mw_1797)) (fun _ h9 => h9) hm_pipes d_Mo_join_33 ?_
  refine lv_imul hx hb d_Mo_join_36 ?_
  refine lv_topi (fun x0 e0 => ?_)
  obtain rfl : x0 = 0 := e0.trans (by decide)
  refine lv_icmp_ge (tgt := 236) hx hb d_Mo_join_37 (by decide) (fun _ => ?_) (fun h => absurd (by decide) h)
  exact W.vret hx hb hr (fun t ht hW => ⟨⟨(), rfl, trivial, trivial⟩, hS.F ht⟩) hS.2.2 d_Mo_join_236
theorem d_Mo_look_0 : decode b_Mo_look 0 = .ok (.iconst 0, 1) := by decide +kernel
theorem d_Mo_look_1 : decode b_Mo_look 1 = .ok (.istore_n 1, 1) := by decide +kernel
theorem d_Mo_look_2 : decode b_Mo_look 2 = .ok (.iload_n 1, 1) := by decide +kernel
theorem d_Mo_look_3 : decode b_Mo_look 3 = .ok (.aload_n 0, 1) := by decide +kernel
theorem d_Mo_look_4 : decode b_Mo_look 4 = .ok (.getfield 278, 3) := by decide +kernel
theorem d_Mo_look_7 : decode b_Mo_look 7 = .ok (.aload_n 0, 1) := by decide +kernel
theorem d_Mo_look_8 : decode b_Mo_look 8 = .ok (.getfield 281, 3) := by decide +kernel
theorem d_Mo_look_11 : decode b_Mo_look 11 = .ok (.iadd, 1) := by decide +kernel
theorem d_Mo_look_12 : decode b_Mo_look 12 = .ok (.if_icmp .ge 20, 3) := by decide +kernel
theorem d_Mo_look_32 : decode b_Mo_look 32 = .ok (.iconst 0, 1) := by decide +kernel
theorem d_Mo_look_33 : decode b_Mo_look 33 = .ok (.istore_n 1, 1) := by decide +kernel
theorem d_Mo_look_34 : decode b_Mo_look 34 = .ok (.iload_n 1, 1) := by decide +kernel
theorem d_Mo_look_35 : decode b_Mo_look 35 = .ok (.aload_n 0, 1) := by decide +kernel
theorem d_Mo_look_36 : decode b_Mo_look 36 = .ok (.getfield 284, 3) := by decide +kernel
theorem d_Mo_look_39 : decode b_Mo_look 39 = .ok (.if_icmp .ge 71, 3) := by decide +kernel
theorem d_Mo_look_110 : decode b_Mo_look 110 = .ok (.return_, 1) := by decide +kernel
set_option maxHeartbeats 4000000 in
set_option maxRecDepth 100000 in
theorem c_Mo_look (l : Launch) (dC : Nat → ClassId) (dI : Nat → Nat → Nat) (cI cB cZ cJ : ClassId) (oM : Nat) (fm : List Value) (hm_things : fm[4]? = some (.int 0)) (hm_pipes : fm[11]? = some (.int 0)) (hm_ways : fm[26]? = some (.int 0)) (sz : Nat) : Met l y_Mo_look w_Mo_look ({ frames := 0, cells := 0, slots := 0, locals := 0 }) (va_Pc [.ref oM] (PW dC dI cI cB cZ cJ [(oM, .inr (12, fm))] sz)) (va_Qv (fun _ : Unit => True) (fun _ _ => True) (va_A [] sz)) 0 0 (va_A [] sz) := by
  refine Met.ofW (cc := b_Mo_look) (maxL := 3) (ret := none) (by decide) rfl ?_
  intro p e s m args below meth c s₁ B hml hv
  obtain ⟨rfl, hsz, hP, hK, hD⟩ := hv
  have hx := B.exec
  have hb := B.bytes
  have hr := B.returns
  have hts := atoms_spec (ws := w_Mo_look) B.pre
  have hown : s.vm.findClass R_Mo = some m.cls := findClass_of_methodNamed B.named
  have hlocks := B.notSynchronized
  subst hsz
  generalize hAe : va_A [] s.heap.size = A at ⊢
  have hA : ∀ q : Nat, s.heap.size ≤ q → A q := fun q h => by rw [← hAe]; exact Or.inr h
  have hS : va_S A s.heap s.heap [] := va_S.rf
  have hP : va_P (dC, dI) classes [(oM, .inr (12, fm))] s.heap := hP
  have hl := lv_entry ([.ref oM]) (n := 3) (Nat.le_of_ble_eq_true rfl)
  rw [lg_entry_eq]
  generalize (lg_sl ([.ref oM]) ++ List.replicate (3 - (lg_sl ([.ref oM])).length) Slot.unset).toArray = ls at hl ⊢
  have hl : lv_has ls 3 [(0, .ref oM)] := hl
  refine lv_iconst (v := 0) hx hb d_Mo_look_0 (by decide) ?_
  refine lv_istore_n hx hb d_Mo_look_1 rfl hl (by decide) rfl (fun ls hl => ?_)
  have hl : lv_has ls 3 [(1, .int 0), (0, .ref oM)] := hl
  refine lv_iload_n hx hb d_Mo_look_2 rfl (lv_at hl 0 rfl) ?_
  refine lv_aload_n hx hb d_Mo_look_3 rfl (lv_at hl 1 rfl) ?_
  refine va_get (D := (dC, dI)) (ci := 12) (v := .int 0) (C := R_Mo) (T := F_Mo) (N := 87) hx hb hts (fun w h => List.mem_cons_of_mem _ (in_Mo w h)) hown hK.1 hP 0 rfl rfl 4 (by decide) (hts _ (List.mem_cons_of_mem _ mw_1790)) (fun _ h9 => h9) hm_things d_Mo_look_4 ?_
  refine lv_aload_n hx hb d_Mo_look_7 rfl (lv_at hl 1 rfl) ?_
  refine va_get (D := (dC, dI)) (ci := 12) (v := .int 0) (C := R_Mo) (T := F_Mo) (N := 87) hx hb hts (fun w h => List.mem_cons_of_mem _ (in_Mo w h)) hown hK.1 hP 0 rfl rfl 11 (by decide) (hts _ (List.mem_cons_of_mem _ mw_1797)) (fun _ h9 => h9) hm_pipes d_Mo_look_8 ?_
  refine lv_iadd hx hb d_Mo_look_11 ?_
  refine lv_topi (fun x0 e0 => ?_)
  obtain rfl : x0 = 0 := e0.trans (by decide)
  refine lv_icmp_ge (tgt := 32) hx hb d_Mo_look_12 (by decide) (fun _ => ?_) (fun h => absurd (by decide) h)
  refine lv_iconst (v := 0) hx hb d_Mo_look_32 (by decide) ?_
  refine lv_istore_n hx hb d_Mo_look_33 rfl hl (by decide) rfl (fun ls hl => ?_)
  have hl : lv_has ls 3 [(1, .int 0), (0, .ref oM)] := hl
  refine lv_iload_n hx hb d_Mo_look_34 rfl (lv_at hl 0 rfl) ?_
  refine lv_aload_n hx hb d_Mo_look_35 rfl (lv_at hl 1 rfl) ?_
  refine va_get (D := (dC, dI)) (ci := 12) (v := .int 0) (C := R_Mo) (T := F_Mo) (N := 87) hx hb hts (fun w h => List.mem_cons_of_mem _ (in_Mo w h)) hown hK.1 hP 0 rfl rfl 26 (by decide) (hts _ (List.mem_cons_of_mem _ mw_1812)) (fun _ h9 => h9) hm_ways d_Mo_look_36 ?_
  refine lv_icmp_ge (tgt := 110) hx hb d_Mo_look_39 (by decide) (fun _ => ?_) (fun h => absurd (by decide) h)
  exact W.vret hx hb hr (fun t ht hW => ⟨⟨(), rfl, trivial, trivial⟩, hS.F ht⟩) hS.2.2 d_Mo_look_110
theorem d_Mo_flood_0 : decode b_Mo_flood 0 = .ok (.lconst 0, 1) := by decide +kernel
theorem d_Mo_flood_1 : decode b_Mo_flood 1 = .ok (.lstore_n 2, 1) := by decide +kernel
theorem d_Mo_flood_2 : decode b_Mo_flood 2 = .ok (.iconst 0, 1) := by decide +kernel
theorem d_Mo_flood_3 : decode b_Mo_flood 3 = .ok (.istore 4, 2) := by decide +kernel
theorem d_Mo_flood_5 : decode b_Mo_flood 5 = .ok (.iload 4, 2) := by decide +kernel
theorem d_Mo_flood_7 : decode b_Mo_flood 7 = .ok (.aload_n 0, 1) := by decide +kernel
theorem d_Mo_flood_8 : decode b_Mo_flood 8 = .ok (.getfield 278, 3) := by decide +kernel
theorem d_Mo_flood_11 : decode b_Mo_flood 11 = .ok (.aload_n 0, 1) := by decide +kernel
theorem d_Mo_flood_12 : decode b_Mo_flood 12 = .ok (.getfield 281, 3) := by decide +kernel
theorem d_Mo_flood_15 : decode b_Mo_flood 15 = .ok (.iadd, 1) := by decide +kernel
theorem d_Mo_flood_16 : decode b_Mo_flood 16 = .ok (.if_icmp .ge 31, 3) := by decide +kernel
theorem d_Mo_flood_47 : decode b_Mo_flood 47 = .ok (.lload_n 2, 1) := by decide +kernel
theorem d_Mo_flood_48 : decode b_Mo_flood 48 = .ok (.lconst 0, 1) := by decide +kernel
theorem d_Mo_flood_49 : decode b_Mo_flood 49 = .ok (.lcmp, 1) := by decide +kernel
theorem d_Mo_flood_50 : decode b_Mo_flood 50 = .ok (.ifCond .eq 7, 3) := by decide +kernel
theorem d_Mo_flood_57 : decode b_Mo_flood 57 = .ok (.iconst 0, 1) := by decide +kernel
theorem d_Mo_flood_58 : decode b_Mo_flood 58 = .ok (.istore 4, 2) := by decide +kernel
theorem d_Mo_flood_60 : decode b_Mo_flood 60 = .ok (.iload 4, 2) := by decide +kernel
theorem d_Mo_flood_62 : decode b_Mo_flood 62 = .ok (.ifCond .eq 71, 3) := by decide +kernel
theorem d_Mo_flood_133 : decode b_Mo_flood 133 = .ok (.lload_n 2, 1) := by decide +kernel
theorem d_Mo_flood_134 : decode b_Mo_flood 134 = .ok (.lreturn, 1) := by decide +kernel
set_option maxHeartbeats 4000000 in
set_option maxRecDepth 100000 in
theorem c_Mo_flood (l : Launch) (dC : Nat → ClassId) (dI : Nat → Nat → Nat) (cI cB cZ cJ : ClassId) (li : Int32) (oM : Nat) (fm : List Value) (hm_things : fm[4]? = some (.int 0)) (hm_pipes : fm[11]? = some (.int 0)) (sz : Nat) : Met l y_Mo_flood w_Mo_flood ({ frames := 0, cells := 0, slots := 0, locals := 0 }) (va_Pc [.ref oM, .int li] (PW dC dI cI cB cZ cJ [(oM, .inr (12, fm))] sz)) (va_Ql (fun (r : Int64) (_ : Unit) => r = 0) (fun _ _ => True) (va_A [] sz)) 0 0 (va_A [] sz) := by
  refine Met.ofW (cc := b_Mo_flood) (maxL := 8) (ret := (some .long)) (by decide) rfl ?_
  intro p e s m args below meth c s₁ B hml hv
  obtain ⟨rfl, hsz, hP, hK, hD⟩ := hv
  have hx := B.exec
  have hb := B.bytes
  have hr := B.returns
  have hts := atoms_spec (ws := w_Mo_flood) B.pre
  have hown : s.vm.findClass R_Mo = some m.cls := findClass_of_methodNamed B.named
  have hlocks := B.notSynchronized
  subst hsz
  generalize hAe : va_A [] s.heap.size = A at ⊢
  have hA : ∀ q : Nat, s.heap.size ≤ q → A q := fun q h => by rw [← hAe]; exact Or.inr h
  have hS : va_S A s.heap s.heap [] := va_S.rf
  have hP : va_P (dC, dI) classes [(oM, .inr (12, fm))] s.heap := hP
  have hl := lv_entry ([.ref oM, .int li]) (n := 8) (Nat.le_of_ble_eq_true rfl)
  rw [lg_entry_eq]
  generalize (lg_sl ([.ref oM, .int li]) ++ List.replicate (8 - (lg_sl ([.ref oM, .int li])).length) Slot.unset).toArray = ls at hl ⊢
  have hl : lv_has ls 8 [(0, .ref oM), (1, .int li)] := hl
  refine lv_lconst (v := 0) hx hb d_Mo_flood_0 (by decide) ?_
  refine lv_lstore_n hx hb d_Mo_flood_1 rfl hl (by decide) rfl (fun ls hl => ?_)
  have hl : lv_has ls 8 [(2, .long 0), (0, .ref oM), (1, .int li)] := hl
  refine lv_iconst (v := 0) hx hb d_Mo_flood_2 (by decide) ?_
  refine lv_istore hx hb d_Mo_flood_3 hl (by decide) rfl (fun ls hl => ?_)
  have hl : lv_has ls 8 [(4, .int 0), (2, .long 0), (0, .ref oM), (1, .int li)] := hl
  refine lv_iload hx hb d_Mo_flood_5 (lv_at hl 0 rfl) ?_
  refine lv_aload_n hx hb d_Mo_flood_7 rfl (lv_at hl 2 rfl) ?_
  refine va_get (D := (dC, dI)) (ci := 12) (v := .int 0) (C := R_Mo) (T := F_Mo) (N := 87) hx hb hts (fun w h => List.mem_cons_of_mem _ (in_Mo w h)) hown hK.1 hP 0 rfl rfl 4 (by decide) (hts _ (List.mem_cons_of_mem _ mw_1790)) (fun _ h9 => h9) hm_things d_Mo_flood_8 ?_
  refine lv_aload_n hx hb d_Mo_flood_11 rfl (lv_at hl 2 rfl) ?_
  refine va_get (D := (dC, dI)) (ci := 12) (v := .int 0) (C := R_Mo) (T := F_Mo) (N := 87) hx hb hts (fun w h => List.mem_cons_of_mem _ (in_Mo w h)) hown hK.1 hP 0 rfl rfl 11 (by decide) (hts _ (List.mem_cons_of_mem _ mw_1797)) (fun _ h9 => h9) hm_pipes d_Mo_flood_12 ?_
  refine lv_iadd hx hb d_Mo_flood_15 ?_
  refine lv_topi (fun x0 e0 => ?_)
  obtain rfl : x0 = 0 := e0.trans (by decide)
  refine lv_icmp_ge (tgt := 47) hx hb d_Mo_flood_16 (by decide) (fun _ => ?_) (fun h => absurd (by decide) h)
  refine lv_lload_n hx hb d_Mo_flood_47 rfl (lv_at hl 1 rfl) ?_
  refine lv_lconst (v := 0) hx hb d_Mo_flood_48 (by decide) ?_
  refine W.lcmp hx hb d_Mo_flood_49 ?_
  refine lv_topi (fun x0 e0 => ?_)
  obtain rfl : x0 = 0 := e0.trans (by decide)
  refine lv_if_eq (tgt := 57) hx hb d_Mo_flood_50 (by decide) (fun _ => ?_) (fun h => absurd (by decide) h)
  refine lv_iconst (v := 0) hx hb d_Mo_flood_57 (by decide) ?_
  refine lv_istore hx hb d_Mo_flood_58 hl (by decide) rfl (fun ls hl => ?_)
  have hl : lv_has ls 8 [(4, .int 0), (2, .long 0), (0, .ref oM), (1, .int li)] := hl
  refine lv_iload hx hb d_Mo_flood_60 (lv_at hl 0 rfl) ?_
  refine lv_if_eq (tgt := 133) hx hb d_Mo_flood_62 (by decide) (fun _ => ?_) (fun h => absurd (by decide) h)
  refine lv_lload_n hx hb d_Mo_flood_133 rfl (lv_at hl 1 rfl) ?_
  exact W.lret (v := 0) hx hb hr (fun t ht hW => ⟨⟨_, (), rfl, (rfl), trivial⟩, hS.F ht⟩) hS.2.2 d_Mo_flood_134
theorem d_Mo_isCalm_0 : decode b_Mo_isCalm 0 = .ok (.aload_n 0, 1) := by decide +kernel
theorem d_Mo_isCalm_1 : decode b_Mo_isCalm 1 = .ok (.invokevirtual 336, 3) := by decide +kernel
theorem d_Mo_isCalm_4 : decode b_Mo_isCalm 4 = .ok (.iconst 1, 1) := by decide +kernel
theorem d_Mo_isCalm_5 : decode b_Mo_isCalm 5 = .ok (.istore_n 2, 1) := by decide +kernel
theorem d_Mo_isCalm_6 : decode b_Mo_isCalm 6 = .ok (.iload_n 2, 1) := by decide +kernel
theorem d_Mo_isCalm_7 : decode b_Mo_isCalm 7 = .ok (.bipush 16, 2) := by decide +kernel
theorem d_Mo_isCalm_9 : decode b_Mo_isCalm 9 = .ok (.if_icmp .ge 20, 3) := by decide +kernel
theorem d_Mo_isCalm_12 : decode b_Mo_isCalm 12 = .ok (.aload_n 0, 1) := by decide +kernel
theorem d_Mo_isCalm_13 : decode b_Mo_isCalm 13 = .ok (.getfield 129, 3) := by decide +kernel
theorem d_Mo_isCalm_16 : decode b_Mo_isCalm 16 = .ok (.iload_n 2, 1) := by decide +kernel
theorem d_Mo_isCalm_17 : decode b_Mo_isCalm 17 = .ok (.aload_n 0, 1) := by decide +kernel
theorem d_Mo_isCalm_18 : decode b_Mo_isCalm 18 = .ok (.iload_n 2, 1) := by decide +kernel
theorem d_Mo_isCalm_19 : decode b_Mo_isCalm 19 = .ok (.invokevirtual 339, 3) := by decide +kernel
theorem d_Mo_isCalm_22 : decode b_Mo_isCalm 22 = .ok (.lastore, 1) := by decide +kernel
theorem d_Mo_isCalm_23 : decode b_Mo_isCalm 23 = .ok (.iinc 2 1, 3) := by decide +kernel
theorem d_Mo_isCalm_26 : decode b_Mo_isCalm 26 = .ok (.goto (-20), 3) := by decide +kernel
theorem d_Mo_isCalm_29 : decode b_Mo_isCalm 29 = .ok (.iconst 0, 1) := by decide +kernel
theorem d_Mo_isCalm_30 : decode b_Mo_isCalm 30 = .ok (.istore_n 2, 1) := by decide +kernel
theorem d_Mo_isCalm_31 : decode b_Mo_isCalm 31 = .ok (.iload_n 2, 1) := by decide +kernel
theorem d_Mo_isCalm_32 : decode b_Mo_isCalm 32 = .ok (.aload_n 0, 1) := by decide +kernel
theorem d_Mo_isCalm_33 : decode b_Mo_isCalm 33 = .ok (.getfield 278, 3) := by decide +kernel
theorem d_Mo_isCalm_36 : decode b_Mo_isCalm 36 = .ok (.aload_n 0, 1) := by decide +kernel
theorem d_Mo_isCalm_37 : decode b_Mo_isCalm 37 = .ok (.getfield 281, 3) := by decide +kernel
theorem d_Mo_isCalm_40 : decode b_Mo_isCalm 40 = .ok (.iadd, 1) := by decide +kernel
theorem d_Mo_isCalm_41 : decode b_Mo_isCalm 41 = .ok (.if_icmp .ge 97, 3) := by decide +kernel
theorem d_Mo_isCalm_138 : decode b_Mo_isCalm 138 = .ok (.iconst 1, 1) := by decide +kernel
theorem d_Mo_isCalm_139 : decode b_Mo_isCalm 139 = .ok (.ireturn, 1) := by decide +kernel
set_option maxHeartbeats 4000000 in
set_option maxRecDepth 100000 in
theorem c_Mo_isCalm (l : Launch) (dC : Nat → ClassId) (dI : Nat → Nat → Nat) (cI cB cZ cJ : ClassId) (fa : Int32) (oM : Nat) (am_floods : Nat) (fm : List Value) (hm_things : fm[4]? = some (.int 0)) (hm_pipes : fm[11]? = some (.int 0)) (hm_floods : fm[44]? = some (.ref am_floods)) (sz : Nat) : Met l y_Mo_isCalm w_Mo_isCalm ({ frames := 1, cells := 0, slots := 0, locals := 27 }) (va_Pc [.ref oM, .int fa] (PW dC dI cI cB cZ cJ [(oM, .inr (12, fm)), (am_floods, .inl (cJ, 16, .inr (.inl (fun _ => 0))))] sz)) (va_Qi (fun (r : Int32) (_ : Unit) => r = 1) (fun (_ : Unit) (t : State) => ∃ (n_am_floods : Nat → Int64), fm[4]? = some (.int 0) ∧ fm[11]? = some (.int 0) ∧ fm[44]? = some (.ref am_floods) ∧ va_P (dC, dI) classes [(oM, .inr (12, fm)), (am_floods, .inl (cJ, 16, .inr (.inl n_am_floods)))] t.heap ∧ va_D (va_A [(oM, .inr (12, fm)), (am_floods, .inl (cJ, 16, .inr (.inl (fun _ => 0))))] sz) [(oM, .inr (12, fm)), (am_floods, .inl (cJ, 16, .inr (.inl n_am_floods)))]) (va_A [(oM, .inr (12, fm)), (am_floods, .inl (cJ, 16, .inr (.inl (fun _ => 0))))] sz)) 0 0 (va_A [(oM, .inr (12, fm)), (am_floods, .inl (cJ, 16, .inr (.inl (fun _ => 0))))] sz) := by
  refine Met.ofW (cc := b_Mo_isCalm) (maxL := 5) (ret := (some .boolean)) (by decide) rfl ?_
  intro p e s m args below meth c s₁ B hml hv
  obtain ⟨rfl, hsz, hP, hK, hD⟩ := hv
  have hx := B.exec
  have hb := B.bytes
  have hr := B.returns
  have hts := atoms_spec (ws := w_Mo_isCalm) B.pre
  have hown : s.vm.findClass R_Mo = some m.cls := findClass_of_methodNamed B.named
  have hlocks := B.notSynchronized
  subst hsz
  have hD := hD.self (sz := s.heap.size)
  generalize hAe : va_A [(oM, .inr (12, fm)), (am_floods, .inl (cJ, 16, .inr (.inl (fun _ => 0))))] s.heap.size = A at hD ⊢
  have hA : ∀ q : Nat, s.heap.size ≤ q → A q := fun q h => by rw [← hAe]; exact Or.inr h
  have hS : va_S A s.heap s.heap [] := va_S.rf
  have hP : va_P (dC, dI) classes [(oM, .inr (12, fm)), (am_floods, .inl (cJ, 16, .inr (.inl (fun _ => 0))))] s.heap := hP
  have hl := lv_entry ([.ref oM, .int fa]) (n := 5) (Nat.le_of_ble_eq_true rfl)
  rw [lg_entry_eq]
  generalize (lg_sl ([.ref oM, .int fa]) ++ List.replicate (5 - (lg_sl ([.ref oM, .int fa])).length) Slot.unset).toArray = ls at hl ⊢
  have hl : lv_has ls 5 [(0, .ref oM), (1, .int fa)] := hl
  refine lv_aload_n hx hb d_Mo_isCalm_0 rfl (lv_at hl 0 rfl) ?_
  have hPc := hP.sub (ws' := [(oM, .inr (12, fm))]) [0] rfl
  have hDc := hD.sub (ws' := [(oM, .inr (12, fm))]) [0] (by decide) rfl
  have hFc := pu_free hS hA
  refine va_callv (va_runV (C := R_Mo) (As := []) (rest := []) ⟨hx, hb, hml, hown, hts⟩ (c_Mo_join l dC dI cI cB cZ cJ oM fm hm_things hm_pipes s.heap.size) (cwV 0 hts (tb_V mw_2381 mw_2383 sl_148 mw_18 mw_2384) rfl rfl rfl ⟨rfl, by decide +kernel, by decide +kernel, by decide +kernel⟩ ⟨(Nat.le_of_ble_eq_true rfl), (Nat.le_of_ble_eq_true rfl)⟩) ⟨pw_blind, va_recv (q := (R_Mo, F_Mo, 87)) hK.1 hP (ci := 12) (q0 := 0) rfl rfl, pw_pre hPc hK hDc⟩ rfl rfl hl.1 rfl (lv_room (Nat.le_of_ble_eq_true rfl)) d_Mo_isCalm_1 ⟨(Nat.le_of_ble_eq_true rfl), (Nat.le_of_ble_eq_true rfl)⟩) hS (fun q _ h => hFc q h) hFc (fun u t H locs ht hvm hw hB hz1 hk1 hS => ?_)
  have hP := pu_kept hP hk1
  refine lv_iconst (v := 1) hx hb d_Mo_isCalm_4 (by decide) ?_
  refine lv_istore_n hx hb d_Mo_isCalm_5 rfl hl (by decide) rfl (fun ls hl => ?_)
  have hl : lv_has ls 5 [(2, .int 1), (0, .ref oM), (1, .int fa)] := hl
  refine lv_iload_n hx hb d_Mo_isCalm_6 rfl (lv_at hl 0 rfl) ?_
  refine lv_bipush (v := 16) hx hb d_Mo_isCalm_7 (by decide) ?_
  refine lv_icmp_ge (tgt := 29) hx hb d_Mo_isCalm_9 (by decide) (fun h => absurd h (by decide)) (fun _ => ?_)
  refine lv_aload_n hx hb d_Mo_isCalm_12 rfl (lv_at hl 1 rfl) ?_
  refine va_get (D := (dC, dI)) (ci := 12) (v := .ref am_floods) (C := R_Mo) (T := F_Mo) (N := 87) hx hb hts (fun w h => List.mem_cons_of_mem _ (in_Mo w h)) hown hK.1 hP 0 rfl rfl 44 (by decide) (hts _ (List.mem_cons_of_mem _ mw_1830)) (fun _ h9 => h9) hm_floods d_Mo_isCalm_13 ?_
  refine lv_iload_n hx hb d_Mo_isCalm_16 rfl (lv_at hl 0 rfl) ?_
  refine lv_aload_n hx hb d_Mo_isCalm_17 rfl (lv_at hl 1 rfl) ?_
  refine lv_iload_n hx hb d_Mo_isCalm_18 rfl (lv_at hl 0 rfl) ?_
  have hPc := hP.sub (ws' := [(oM, .inr (12, fm))]) [0] rfl
  have hDc := hD.sub (ws' := [(oM, .inr (12, fm))]) [0] (by decide) rfl
  have hFc := pu_free hS hA
  refine va_calll (va_runV (C := R_Mo) (As := [.int 1]) (rest := [.int 1, .ref am_floods]) ⟨hx, hb, hml, hown, hts⟩ (c_Mo_flood l dC dI cI cB cZ cJ 1 oM fm hm_things hm_pipes H.size) (cwV 1 hts (tb_V mw_2388 mw_2390 sl_149 mw_18 mw_2391) rfl rfl rfl ⟨rfl, by decide +kernel, by decide +kernel, by decide +kernel⟩ ⟨(Nat.le_of_ble_eq_true rfl), (Nat.le_of_ble_eq_true rfl)⟩) ⟨pw_blind, va_recv (q := (R_Mo, F_Mo, 87)) hK.1 hP (ci := 12) (q0 := 0) rfl rfl, pw_pre hPc hK hDc⟩ rfl rfl hl.1 rfl (lv_room (Nat.le_of_ble_eq_true rfl)) d_Mo_isCalm_19 ⟨(Nat.le_of_ble_eq_true rfl), (Nat.le_of_ble_eq_true rfl)⟩) hS (fun q _ h => hFc q h) hFc (fun r u t H locs ht hvm hw hB hz1 hk1 hS => ?_)
  have hP := pu_kept hP hk1
  obtain rfl : r = 0 := hw
  refine va_last hx hb hK.1 hP hD hS 1 3 rfl rfl (vp_in_iff.mpr (by decide)) d_Mo_isCalm_22 (fun H locs hP hD hS => ?_)
  have hP : va_P (dC, dI) classes [(oM, .inr (12, fm)), (am_floods, .inl (cJ, 16, .inr (.inl ((vp_updL (fun _ => 0) (1 : Int32).toNatClampNeg 0)))))] H := hP
  have hD : va_D A [(oM, .inr (12, fm)), (am_floods, .inl (cJ, 16, .inr (.inl ((vp_updL (fun _ => 0) (1 : Int32).toNatClampNeg 0)))))] := hD
  generalize (vp_updL (fun _ => 0) (1 : Int32).toNatClampNeg 0) = f22_1 at hP hD
  refine lv_iinc (k := 0) (v := 2) hx hb d_Mo_isCalm_23 hl rfl (by first | rfl | decide | exact nI_1 i) (by decide) rfl (fun ls hl => ?_)
  have hl : lv_has ls 5 [(2, .int 2), (0, .ref oM), (1, .int fa)] := hl
  refine lv_goto (tgt := 6) hx hb d_Mo_isCalm_26 (by decide) ?_
  refine lv_iload_n hx hb d_Mo_isCalm_6 rfl (lv_at hl 0 rfl) ?_
  refine lv_bipush (v := 16) hx hb d_Mo_isCalm_7 (by decide) ?_
  refine lv_icmp_ge (tgt := 29) hx hb d_Mo_isCalm_9 (by decide) (fun h => absurd h (by decide)) (fun _ => ?_)
  refine lv_aload_n hx hb d_Mo_isCalm_12 rfl (lv_at hl 1 rfl) ?_
  refine va_get (D := (dC, dI)) (ci := 12) (v := .ref am_floods) (C := R_Mo) (T := F_Mo) (N := 87) hx hb hts (fun w h => List.mem_cons_of_mem _ (in_Mo w h)) hown hK.1 hP 0 rfl rfl 44 (by decide) (hts _ (List.mem_cons_of_mem _ mw_1830)) (fun _ h9 => h9) hm_floods d_Mo_isCalm_13 ?_
  refine lv_iload_n hx hb d_Mo_isCalm_16 rfl (lv_at hl 0 rfl) ?_
  refine lv_aload_n hx hb d_Mo_isCalm_17 rfl (lv_at hl 1 rfl) ?_
  refine lv_iload_n hx hb d_Mo_isCalm_18 rfl (lv_at hl 0 rfl) ?_
  have hPc := hP.sub (ws' := [(oM, .inr (12, fm))]) [0] rfl
  have hDc := hD.sub (ws' := [(oM, .inr (12, fm))]) [0] (by decide) rfl
  have hFc := pu_free hS hA
  refine va_calll (va_runV (C := R_Mo) (As := [.int 2]) (rest := [.int 2, .ref am_floods]) ⟨hx, hb, hml, hown, hts⟩ (c_Mo_flood l dC dI cI cB cZ cJ 2 oM fm hm_things hm_pipes H.size) (cwV 1 hts (tb_V mw_2388 mw_2390 sl_149 mw_18 mw_2391) rfl rfl rfl ⟨rfl, by decide +kernel, by decide +kernel, by decide +kernel⟩ ⟨(Nat.le_of_ble_eq_true rfl), (Nat.le_of_ble_eq_true rfl)⟩) ⟨pw_blind, va_recv (q := (R_Mo, F_Mo, 87)) hK.1 hP (ci := 12) (q0 := 0) rfl rfl, pw_pre hPc hK hDc⟩ rfl rfl hl.1 rfl (lv_room (Nat.le_of_ble_eq_true rfl)) d_Mo_isCalm_19 ⟨(Nat.le_of_ble_eq_true rfl), (Nat.le_of_ble_eq_true rfl)⟩) hS (fun q _ h => hFc q h) hFc (fun r u t H locs ht hvm hw hB hz1 hk1 hS => ?_)
  have hP := pu_kept hP hk1
  obtain rfl : r = 0 := hw
  refine va_last hx hb hK.1 hP hD hS 1 3 rfl rfl (vp_in_iff.mpr (by decide)) d_Mo_isCalm_22 (fun H locs hP hD hS => ?_)
  have hP : va_P (dC, dI) classes [(oM, .inr (12, fm)), (am_floods, .inl (cJ, 16, .inr (.inl ((vp_updL f22_1 (2 : Int32).toNatClampNeg 0)))))] H := hP
  have hD : va_D A [(oM, .inr (12, fm)), (am_floods, .inl (cJ, 16, .inr (.inl ((vp_updL f22_1 (2 : Int32).toNatClampNeg 0)))))] := hD
  generalize (vp_updL f22_1 (2 : Int32).toNatClampNeg 0) = f22_2 at hP hD
  refine lv_iinc (k := 0) (v := 3) hx hb d_Mo_isCalm_23 hl rfl (by first | rfl | decide | exact nI_1 i) (by decide) rfl (fun ls hl => ?_)
  have hl : lv_has ls 5 [(2, .int 3), (0, .ref oM), (1, .int fa)] := hl
  refine lv_goto (tgt := 6) hx hb d_Mo_isCalm_26 (by decide) ?_
  refine lv_iload_n hx hb d_Mo_isCalm_6 rfl (lv_at hl 0 rfl) ?_
  refine lv_bipush (v := 16) hx hb d_Mo_isCalm_7 (by decide) ?_
  refine lv_icmp_ge (tgt := 29) hx hb d_Mo_isCalm_9 (by decide) (fun h => absurd h (by decide)) (fun _ => ?_)
  refine lv_aload_n hx hb d_Mo_isCalm_12 rfl (lv_at hl 1 rfl) ?_
  refine va_get (D := (dC, dI)) (ci := 12) (v := .ref am_floods) (C := R_Mo) (T := F_Mo) (N := 87) hx hb hts (fun w h => List.mem_cons_of_mem _ (in_Mo w h)) hown hK.1 hP 0 rfl rfl 44 (by decide) (hts _ (List.mem_cons_of_mem _ mw_1830)) (fun _ h9 => h9) hm_floods d_Mo_isCalm_13 ?_
  refine lv_iload_n hx hb d_Mo_isCalm_16 rfl (lv_at hl 0 rfl) ?_
  refine lv_aload_n hx hb d_Mo_isCalm_17 rfl (lv_at hl 1 rfl) ?_
  refine lv_iload_n hx hb d_Mo_isCalm_18 rfl (lv_at hl 0 rfl) ?_
  have hPc := hP.sub (ws' := [(oM, .inr (12, fm))]) [0] rfl
  have hDc := hD.sub (ws' := [(oM, .inr (12, fm))]) [0] (by decide) rfl
  have hFc := pu_free hS hA
  refine va_calll (va_runV (C := R_Mo) (As := [.int 3]) (rest := [.int 3, .ref am_floods]) ⟨hx, hb, hml, hown, hts⟩ (c_Mo_flood l dC dI cI cB cZ cJ 3 oM fm hm_things hm_pipes H.size) (cwV 1 hts (tb_V mw_2388 mw_2390 sl_149 mw_18 mw_2391) rfl rfl rfl ⟨rfl, by decide +kernel, by decide +kernel, by decide +kernel⟩ ⟨(Nat.le_of_ble_eq_true rfl), (Nat.le_of_ble_eq_true rfl)⟩) ⟨pw_blind, va_recv (q := (R_Mo, F_Mo, 87)) hK.1 hP (ci := 12) (q0 := 0) rfl rfl, pw_pre hPc hK hDc⟩ rfl rfl hl.1 rfl (lv_room (Nat.le_of_ble_eq_true rfl)) d_Mo_isCalm_19 ⟨(Nat.le_of_ble_eq_true rfl), (Nat.le_of_ble_eq_true rfl)⟩) hS (fun q _ h => hFc q h) hFc (fun r u t H locs ht hvm hw hB hz1 hk1 hS => ?_)
  have hP := pu_kept hP hk1
  obtain rfl : r = 0 := hw
  refine va_last hx hb hK.1 hP hD hS 1 3 rfl rfl (vp_in_iff.mpr (by decide)) d_Mo_isCalm_22 (fun H locs hP hD hS => ?_)
  have hP : va_P (dC, dI) classes [(oM, .inr (12, fm)), (am_floods, .inl (cJ, 16, .inr (.inl ((vp_updL f22_2 (3 : Int32).toNatClampNeg 0)))))] H := hP
  have hD : va_D A [(oM, .inr (12, fm)), (am_floods, .inl (cJ, 16, .inr (.inl ((vp_updL f22_2 (3 : Int32).toNatClampNeg 0)))))] := hD
  generalize (vp_updL f22_2 (3 : Int32).toNatClampNeg 0) = f22_3 at hP hD
  refine lv_iinc (k := 0) (v := 4) hx hb d_Mo_isCalm_23 hl rfl (by first | rfl | decide | exact nI_1 i) (by decide) rfl (fun ls hl => ?_)
  have hl : lv_has ls 5 [(2, .int 4), (0, .ref oM), (1, .int fa)] := hl
  refine lv_goto (tgt := 6) hx hb d_Mo_isCalm_26 (by decide) ?_
  refine lv_iload_n hx hb d_Mo_isCalm_6 rfl (lv_at hl 0 rfl) ?_
  refine lv_bipush (v := 16) hx hb d_Mo_isCalm_7 (by decide) ?_
  refine lv_icmp_ge (tgt := 29) hx hb d_Mo_isCalm_9 (by decide) (fun h => absurd h (by decide)) (fun _ => ?_)
  refine lv_aload_n hx hb d_Mo_isCalm_12 rfl (lv_at hl 1 rfl) ?_
  refine va_get (D := (dC, dI)) (ci := 12) (v := .ref am_floods) (C := R_Mo) (T := F_Mo) (N := 87) hx hb hts (fun w h => List.mem_cons_of_mem _ (in_Mo w h)) hown hK.1 hP 0 rfl rfl 44 (by decide) (hts _ (List.mem_cons_of_mem _ mw_1830)) (fun _ h9 => h9) hm_floods d_Mo_isCalm_13 ?_
  refine lv_iload_n hx hb d_Mo_isCalm_16 rfl (lv_at hl 0 rfl) ?_
  refine lv_aload_n hx hb d_Mo_isCalm_17 rfl (lv_at hl 1 rfl) ?_
  refine lv_iload_n hx hb d_Mo_isCalm_18 rfl (lv_at hl 0 rfl) ?_
  have hPc := hP.sub (ws' := [(oM, .inr (12, fm))]) [0] rfl
  have hDc := hD.sub (ws' := [(oM, .inr (12, fm))]) [0] (by decide) rfl
  have hFc := pu_free hS hA
  refine va_calll (va_runV (C := R_Mo) (As := [.int 4]) (rest := [.int 4, .ref am_floods]) ⟨hx, hb, hml, hown, hts⟩ (c_Mo_flood l dC dI cI cB cZ cJ 4 oM fm hm_things hm_pipes H.size) (cwV 1 hts (tb_V mw_2388 mw_2390 sl_149 mw_18 mw_2391) rfl rfl rfl ⟨rfl, by decide +kernel, by decide +kernel, by decide +kernel⟩ ⟨(Nat.le_of_ble_eq_true rfl), (Nat.le_of_ble_eq_true rfl)⟩) ⟨pw_blind, va_recv (q := (R_Mo, F_Mo, 87)) hK.1 hP (ci := 12) (q0 := 0) rfl rfl, pw_pre hPc hK hDc⟩ rfl rfl hl.1 rfl (lv_room (Nat.le_of_ble_eq_true rfl)) d_Mo_isCalm_19 ⟨(Nat.le_of_ble_eq_true rfl), (Nat.le_of_ble_eq_true rfl)⟩) hS (fun q _ h => hFc q h) hFc (fun r u t H locs ht hvm hw hB hz1 hk1 hS => ?_)
  have hP := pu_kept hP hk1
  obtain rfl : r = 0 := hw
  refine va_last hx hb hK.1 hP hD hS 1 3 rfl rfl (vp_in_iff.mpr (by decide)) d_Mo_isCalm_22 (fun H locs hP hD hS => ?_)
  have hP : va_P (dC, dI) classes [(oM, .inr (12, fm)), (am_floods, .inl (cJ, 16, .inr (.inl ((vp_updL f22_3 (4 : Int32).toNatClampNeg 0)))))] H := hP
  have hD : va_D A [(oM, .inr (12, fm)), (am_floods, .inl (cJ, 16, .inr (.inl ((vp_updL f22_3 (4 : Int32).toNatClampNeg 0)))))] := hD
  generalize (vp_updL f22_3 (4 : Int32).toNatClampNeg 0) = f22_4 at hP hD
  refine lv_iinc (k := 0) (v := 5) hx hb d_Mo_isCalm_23 hl rfl (by first | rfl | decide | exact nI_1 i) (by decide) rfl (fun ls hl => ?_)
  have hl : lv_has ls 5 [(2, .int 5), (0, .ref oM), (1, .int fa)] := hl
  refine lv_goto (tgt := 6) hx hb d_Mo_isCalm_26 (by decide) ?_
  refine lv_iload_n hx hb d_Mo_isCalm_6 rfl (lv_at hl 0 rfl) ?_
  refine lv_bipush (v := 16) hx hb d_Mo_isCalm_7 (by decide) ?_
  refine lv_icmp_ge (tgt := 29) hx hb d_Mo_isCalm_9 (by decide) (fun h => absurd h (by decide)) (fun _ => ?_)
  refine lv_aload_n hx hb d_Mo_isCalm_12 rfl (lv_at hl 1 rfl) ?_
  refine va_get (D := (dC, dI)) (ci := 12) (v := .ref am_floods) (C := R_Mo) (T := F_Mo) (N := 87) hx hb hts (fun w h => List.mem_cons_of_mem _ (in_Mo w h)) hown hK.1 hP 0 rfl rfl 44 (by decide) (hts _ (List.mem_cons_of_mem _ mw_1830)) (fun _ h9 => h9) hm_floods d_Mo_isCalm_13 ?_
  refine lv_iload_n hx hb d_Mo_isCalm_16 rfl (lv_at hl 0 rfl) ?_
  refine lv_aload_n hx hb d_Mo_isCalm_17 rfl (lv_at hl 1 rfl) ?_
  refine lv_iload_n hx hb d_Mo_isCalm_18 rfl (lv_at hl 0 rfl) ?_
  have hPc := hP.sub (ws' := [(oM, .inr (12, fm))]) [0] rfl
  have hDc := hD.sub (ws' := [(oM, .inr (12, fm))]) [0] (by decide) rfl
  have hFc := pu_free hS hA
  refine va_calll (va_runV (C := R_Mo) (As := [.int 5]) (rest := [.int 5, .ref am_floods]) ⟨hx, hb, hml, hown, hts⟩ (c_Mo_flood l dC dI cI cB cZ cJ 5 oM fm hm_things hm_pipes H.size) (cwV 1 hts (tb_V mw_2388 mw_2390 sl_149 mw_18 mw_2391) rfl rfl rfl ⟨rfl, by decide +kernel, by decide +kernel, by decide +kernel⟩ ⟨(Nat.le_of_ble_eq_true rfl), (Nat.le_of_ble_eq_true rfl)⟩) ⟨pw_blind, va_recv (q := (R_Mo, F_Mo, 87)) hK.1 hP (ci := 12) (q0 := 0) rfl rfl, pw_pre hPc hK hDc⟩ rfl rfl hl.1 rfl (lv_room (Nat.le_of_ble_eq_true rfl)) d_Mo_isCalm_19 ⟨(Nat.le_of_ble_eq_true rfl), (Nat.le_of_ble_eq_true rfl)⟩) hS (fun q _ h => hFc q h) hFc (fun r u t H locs ht hvm hw hB hz1 hk1 hS => ?_)
  have hP := pu_kept hP hk1
  obtain rfl : r = 0 := hw
  refine va_last hx hb hK.1 hP hD hS 1 3 rfl rfl (vp_in_iff.mpr (by decide)) d_Mo_isCalm_22 (fun H locs hP hD hS => ?_)
  have hP : va_P (dC, dI) classes [(oM, .inr (12, fm)), (am_floods, .inl (cJ, 16, .inr (.inl ((vp_updL f22_4 (5 : Int32).toNatClampNeg 0)))))] H := hP
  have hD : va_D A [(oM, .inr (12, fm)), (am_floods, .inl (cJ, 16, .inr (.inl ((vp_updL f22_4 (5 : Int32).toNatClampNeg 0)))))] := hD
  generalize (vp_updL f22_4 (5 : Int32).toNatClampNeg 0) = f22_5 at hP hD
  refine lv_iinc (k := 0) (v := 6) hx hb d_Mo_isCalm_23 hl rfl (by first | rfl | decide | exact nI_1 i) (by decide) rfl (fun ls hl => ?_)
  have hl : lv_has ls 5 [(2, .int 6), (0, .ref oM), (1, .int fa)] := hl
  refine lv_goto (tgt := 6) hx hb d_Mo_isCalm_26 (by decide) ?_
  refine lv_iload_n hx hb d_Mo_isCalm_6 rfl (lv_at hl 0 rfl) ?_
  refine lv_bipush (v := 16) hx hb d_Mo_isCalm_7 (by decide) ?_
  refine lv_icmp_ge (tgt := 29) hx hb d_Mo_isCalm_9 (by decide) (fun h => absurd h (by decide)) (fun _ => ?_)
  refine lv_aload_n hx hb d_Mo_isCalm_12 rfl (lv_at hl 1 rfl) ?_
  refine va_get (D := (dC, dI)) (ci := 12) (v := .ref am_floods) (C := R_Mo) (T := F_Mo) (N := 87) hx hb hts (fun w h => List.mem_cons_of_mem _ (in_Mo w h)) hown hK.1 hP 0 rfl rfl 44 (by decide) (hts _ (List.mem_cons_of_mem _ mw_1830)) (fun _ h9 => h9) hm_floods d_Mo_isCalm_13 ?_
  refine lv_iload_n hx hb d_Mo_isCalm_16 rfl (lv_at hl 0 rfl) ?_
  refine lv_aload_n hx hb d_Mo_isCalm_17 rfl (lv_at hl 1 rfl) ?_
  refine lv_iload_n hx hb d_Mo_isCalm_18 rfl (lv_at hl 0 rfl) ?_
  have hPc := hP.sub (ws' := [(oM, .inr (12, fm))]) [0] rfl
  have hDc := hD.sub (ws' := [(oM, .inr (12, fm))]) [0] (by decide) rfl
  have hFc := pu_free hS hA
  refine va_calll (va_runV (C := R_Mo) (As := [.int 6]) (rest := [.int 6, .ref am_floods]) ⟨hx, hb, hml, hown, hts⟩ (c_Mo_flood l dC dI cI cB cZ cJ 6 oM fm hm_things hm_pipes H.size) (cwV 1 hts (tb_V mw_2388 mw_2390 sl_149 mw_18 mw_2391) rfl rfl rfl ⟨rfl, by decide +kernel, by decide +kernel, by decide +kernel⟩ ⟨(Nat.le_of_ble_eq_true rfl), (Nat.le_of_ble_eq_true rfl)⟩) ⟨pw_blind, va_recv (q := (R_Mo, F_Mo, 87)) hK.1 hP (ci := 12) (q0 := 0) rfl rfl, pw_pre hPc hK hDc⟩ rfl rfl hl.1 rfl (lv_room (Nat.le_of_ble_eq_true rfl)) d_Mo_isCalm_19 ⟨(Nat.le_of_ble_eq_true rfl), (Nat.le_of_ble_eq_true rfl)⟩) hS (fun q _ h => hFc q h) hFc (fun r u t H locs ht hvm hw hB hz1 hk1 hS => ?_)
  have hP := pu_kept hP hk1
  obtain rfl : r = 0 := hw
  refine va_last hx hb hK.1 hP hD hS 1 3 rfl rfl (vp_in_iff.mpr (by decide)) d_Mo_isCalm_22 (fun H locs hP hD hS => ?_)
  have hP : va_P (dC, dI) classes [(oM, .inr (12, fm)), (am_floods, .inl (cJ, 16, .inr (.inl ((vp_updL f22_5 (6 : Int32).toNatClampNeg 0)))))] H := hP
  have hD : va_D A [(oM, .inr (12, fm)), (am_floods, .inl (cJ, 16, .inr (.inl ((vp_updL f22_5 (6 : Int32).toNatClampNeg 0)))))] := hD
  generalize (vp_updL f22_5 (6 : Int32).toNatClampNeg 0) = f22_6 at hP hD
  refine lv_iinc (k := 0) (v := 7) hx hb d_Mo_isCalm_23 hl rfl (by first | rfl | decide | exact nI_1 i) (by decide) rfl (fun ls hl => ?_)
  have hl : lv_has ls 5 [(2, .int 7), (0, .ref oM), (1, .int fa)] := hl
  refine lv_goto (tgt := 6) hx hb d_Mo_isCalm_26 (by decide) ?_
  refine lv_iload_n hx hb d_Mo_isCalm_6 rfl (lv_at hl 0 rfl) ?_
  refine lv_bipush (v := 16) hx hb d_Mo_isCalm_7 (by decide) ?_
  refine lv_icmp_ge (tgt := 29) hx hb d_Mo_isCalm_9 (by decide) (fun h => absurd h (by decide)) (fun _ => ?_)
  refine lv_aload_n hx hb d_Mo_isCalm_12 rfl (lv_at hl 1 rfl) ?_
  refine va_get (D := (dC, dI)) (ci := 12) (v := .ref am_floods) (C := R_Mo) (T := F_Mo) (N := 87) hx hb hts (fun w h => List.mem_cons_of_mem _ (in_Mo w h)) hown hK.1 hP 0 rfl rfl 44 (by decide) (hts _ (List.mem_cons_of_mem _ mw_1830)) (fun _ h9 => h9) hm_floods d_Mo_isCalm_13 ?_
  refine lv_iload_n hx hb d_Mo_isCalm_16 rfl (lv_at hl 0 rfl) ?_
  refine lv_aload_n hx hb d_Mo_isCalm_17 rfl (lv_at hl 1 rfl) ?_
  refine lv_iload_n hx hb d_Mo_isCalm_18 rfl (lv_at hl 0 rfl) ?_
  have hPc := hP.sub (ws' := [(oM, .inr (12, fm))]) [0] rfl
  have hDc := hD.sub (ws' := [(oM, .inr (12, fm))]) [0] (by decide) rfl
  have hFc := pu_free hS hA
  refine va_calll (va_runV (C := R_Mo) (As := [.int 7]) (rest := [.int 7, .ref am_floods]) ⟨hx, hb, hml, hown, hts⟩ (c_Mo_flood l dC dI cI cB cZ cJ 7 oM fm hm_things hm_pipes H.size) (cwV 1 hts (tb_V mw_2388 mw_2390 sl_149 mw_18 mw_2391) rfl rfl rfl ⟨rfl, by decide +kernel, by decide +kernel, by decide +kernel⟩ ⟨(Nat.le_of_ble_eq_true rfl), (Nat.le_of_ble_eq_true rfl)⟩) ⟨pw_blind, va_recv (q := (R_Mo, F_Mo, 87)) hK.1 hP (ci := 12) (q0 := 0) rfl rfl, pw_pre hPc hK hDc⟩ rfl rfl hl.1 rfl (lv_room (Nat.le_of_ble_eq_true rfl)) d_Mo_isCalm_19 ⟨(Nat.le_of_ble_eq_true rfl), (Nat.le_of_ble_eq_true rfl)⟩) hS (fun q _ h => hFc q h) hFc (fun r u t H locs ht hvm hw hB hz1 hk1 hS => ?_)
  have hP := pu_kept hP hk1
  obtain rfl : r = 0 := hw
  refine va_last hx hb hK.1 hP hD hS 1 3 rfl rfl (vp_in_iff.mpr (by decide)) d_Mo_isCalm_22 (fun H locs hP hD hS => ?_)
  have hP : va_P (dC, dI) classes [(oM, .inr (12, fm)), (am_floods, .inl (cJ, 16, .inr (.inl ((vp_updL f22_6 (7 : Int32).toNatClampNeg 0)))))] H := hP
  have hD : va_D A [(oM, .inr (12, fm)), (am_floods, .inl (cJ, 16, .inr (.inl ((vp_updL f22_6 (7 : Int32).toNatClampNeg 0)))))] := hD
  generalize (vp_updL f22_6 (7 : Int32).toNatClampNeg 0) = f22_7 at hP hD
  refine lv_iinc (k := 0) (v := 8) hx hb d_Mo_isCalm_23 hl rfl (by first | rfl | decide | exact nI_1 i) (by decide) rfl (fun ls hl => ?_)
  have hl : lv_has ls 5 [(2, .int 8), (0, .ref oM), (1, .int fa)] := hl
  refine lv_goto (tgt := 6) hx hb d_Mo_isCalm_26 (by decide) ?_
  refine lv_iload_n hx hb d_Mo_isCalm_6 rfl (lv_at hl 0 rfl) ?_
  refine lv_bipush (v := 16) hx hb d_Mo_isCalm_7 (by decide) ?_
  refine lv_icmp_ge (tgt := 29) hx hb d_Mo_isCalm_9 (by decide) (fun h => absurd h (by decide)) (fun _ => ?_)
  refine lv_aload_n hx hb d_Mo_isCalm_12 rfl (lv_at hl 1 rfl) ?_
  refine va_get (D := (dC, dI)) (ci := 12) (v := .ref am_floods) (C := R_Mo) (T := F_Mo) (N := 87) hx hb hts (fun w h => List.mem_cons_of_mem _ (in_Mo w h)) hown hK.1 hP 0 rfl rfl 44 (by decide) (hts _ (List.mem_cons_of_mem _ mw_1830)) (fun _ h9 => h9) hm_floods d_Mo_isCalm_13 ?_
  refine lv_iload_n hx hb d_Mo_isCalm_16 rfl (lv_at hl 0 rfl) ?_
  refine lv_aload_n hx hb d_Mo_isCalm_17 rfl (lv_at hl 1 rfl) ?_
  refine lv_iload_n hx hb d_Mo_isCalm_18 rfl (lv_at hl 0 rfl) ?_
  have hPc := hP.sub (ws' := [(oM, .inr (12, fm))]) [0] rfl
  have hDc := hD.sub (ws' := [(oM, .inr (12, fm))]) [0] (by decide) rfl
  have hFc := pu_free hS hA
  refine va_calll (va_runV (C := R_Mo) (As := [.int 8]) (rest := [.int 8, .ref am_floods]) ⟨hx, hb, hml, hown, hts⟩ (c_Mo_flood l dC dI cI cB cZ cJ 8 oM fm hm_things hm_pipes H.size) (cwV 1 hts (tb_V mw_2388 mw_2390 sl_149 mw_18 mw_2391) rfl rfl rfl ⟨rfl, by decide +kernel, by decide +kernel, by decide +kernel⟩ ⟨(Nat.le_of_ble_eq_true rfl), (Nat.le_of_ble_eq_true rfl)⟩) ⟨pw_blind, va_recv (q := (R_Mo, F_Mo, 87)) hK.1 hP (ci := 12) (q0 := 0) rfl rfl, pw_pre hPc hK hDc⟩ rfl rfl hl.1 rfl (lv_room (Nat.le_of_ble_eq_true rfl)) d_Mo_isCalm_19 ⟨(Nat.le_of_ble_eq_true rfl), (Nat.le_of_ble_eq_true rfl)⟩) hS (fun q _ h => hFc q h) hFc (fun r u t H locs ht hvm hw hB hz1 hk1 hS => ?_)
  have hP := pu_kept hP hk1
  obtain rfl : r = 0 := hw
  refine va_last hx hb hK.1 hP hD hS 1 3 rfl rfl (vp_in_iff.mpr (by decide)) d_Mo_isCalm_22 (fun H locs hP hD hS => ?_)
  have hP : va_P (dC, dI) classes [(oM, .inr (12, fm)), (am_floods, .inl (cJ, 16, .inr (.inl ((vp_updL f22_7 (8 : Int32).toNatClampNeg 0)))))] H := hP
  have hD : va_D A [(oM, .inr (12, fm)), (am_floods, .inl (cJ, 16, .inr (.inl ((vp_updL f22_7 (8 : Int32).toNatClampNeg 0)))))] := hD
  generalize (vp_updL f22_7 (8 : Int32).toNatClampNeg 0) = f22_8 at hP hD
  refine lv_iinc (k := 0) (v := 9) hx hb d_Mo_isCalm_23 hl rfl (by first | rfl | decide | exact nI_1 i) (by decide) rfl (fun ls hl => ?_)
  have hl : lv_has ls 5 [(2, .int 9), (0, .ref oM), (1, .int fa)] := hl
  refine lv_goto (tgt := 6) hx hb d_Mo_isCalm_26 (by decide) ?_
  refine lv_iload_n hx hb d_Mo_isCalm_6 rfl (lv_at hl 0 rfl) ?_
  refine lv_bipush (v := 16) hx hb d_Mo_isCalm_7 (by decide) ?_
  refine lv_icmp_ge (tgt := 29) hx hb d_Mo_isCalm_9 (by decide) (fun h => absurd h (by decide)) (fun _ => ?_)
  refine lv_aload_n hx hb d_Mo_isCalm_12 rfl (lv_at hl 1 rfl) ?_
  refine va_get (D := (dC, dI)) (ci := 12) (v := .ref am_floods) (C := R_Mo) (T := F_Mo) (N := 87) hx hb hts (fun w h => List.mem_cons_of_mem _ (in_Mo w h)) hown hK.1 hP 0 rfl rfl 44 (by decide) (hts _ (List.mem_cons_of_mem _ mw_1830)) (fun _ h9 => h9) hm_floods d_Mo_isCalm_13 ?_
  refine lv_iload_n hx hb d_Mo_isCalm_16 rfl (lv_at hl 0 rfl) ?_
  refine lv_aload_n hx hb d_Mo_isCalm_17 rfl (lv_at hl 1 rfl) ?_
  refine lv_iload_n hx hb d_Mo_isCalm_18 rfl (lv_at hl 0 rfl) ?_
  have hPc := hP.sub (ws' := [(oM, .inr (12, fm))]) [0] rfl
  have hDc := hD.sub (ws' := [(oM, .inr (12, fm))]) [0] (by decide) rfl
  have hFc := pu_free hS hA
  refine va_calll (va_runV (C := R_Mo) (As := [.int 9]) (rest := [.int 9, .ref am_floods]) ⟨hx, hb, hml, hown, hts⟩ (c_Mo_flood l dC dI cI cB cZ cJ 9 oM fm hm_things hm_pipes H.size) (cwV 1 hts (tb_V mw_2388 mw_2390 sl_149 mw_18 mw_2391) rfl rfl rfl ⟨rfl, by decide +kernel, by decide +kernel, by decide +kernel⟩ ⟨(Nat.le_of_ble_eq_true rfl), (Nat.le_of_ble_eq_true rfl)⟩) ⟨pw_blind, va_recv (q := (R_Mo, F_Mo, 87)) hK.1 hP (ci := 12) (q0 := 0) rfl rfl, pw_pre hPc hK hDc⟩ rfl rfl hl.1 rfl (lv_room (Nat.le_of_ble_eq_true rfl)) d_Mo_isCalm_19 ⟨(Nat.le_of_ble_eq_true rfl), (Nat.le_of_ble_eq_true rfl)⟩) hS (fun q _ h => hFc q h) hFc (fun r u t H locs ht hvm hw hB hz1 hk1 hS => ?_)
  have hP := pu_kept hP hk1
  obtain rfl : r = 0 := hw
  refine va_last hx hb hK.1 hP hD hS 1 3 rfl rfl (vp_in_iff.mpr (by decide)) d_Mo_isCalm_22 (fun H locs hP hD hS => ?_)
  have hP : va_P (dC, dI) classes [(oM, .inr (12, fm)), (am_floods, .inl (cJ, 16, .inr (.inl ((vp_updL f22_8 (9 : Int32).toNatClampNeg 0)))))] H := hP
  have hD : va_D A [(oM, .inr (12, fm)), (am_floods, .inl (cJ, 16, .inr (.inl ((vp_updL f22_8 (9 : Int32).toNatClampNeg 0)))))] := hD
  generalize (vp_updL f22_8 (9 : Int32).toNatClampNeg 0) = f22_9 at hP hD
  refine lv_iinc (k := 0) (v := 10) hx hb d_Mo_isCalm_23 hl rfl (by first | rfl | decide | exact nI_1 i) (by decide) rfl (fun ls hl => ?_)
  have hl : lv_has ls 5 [(2, .int 10), (0, .ref oM), (1, .int fa)] := hl
  refine lv_goto (tgt := 6) hx hb d_Mo_isCalm_26 (by decide) ?_
  refine lv_iload_n hx hb d_Mo_isCalm_6 rfl (lv_at hl 0 rfl) ?_
  refine lv_bipush (v := 16) hx hb d_Mo_isCalm_7 (by decide) ?_
  refine lv_icmp_ge (tgt := 29) hx hb d_Mo_isCalm_9 (by decide) (fun h => absurd h (by decide)) (fun _ => ?_)
  refine lv_aload_n hx hb d_Mo_isCalm_12 rfl (lv_at hl 1 rfl) ?_
  refine va_get (D := (dC, dI)) (ci := 12) (v := .ref am_floods) (C := R_Mo) (T := F_Mo) (N := 87) hx hb hts (fun w h => List.mem_cons_of_mem _ (in_Mo w h)) hown hK.1 hP 0 rfl rfl 44 (by decide) (hts _ (List.mem_cons_of_mem _ mw_1830)) (fun _ h9 => h9) hm_floods d_Mo_isCalm_13 ?_
  refine lv_iload_n hx hb d_Mo_isCalm_16 rfl (lv_at hl 0 rfl) ?_
  refine lv_aload_n hx hb d_Mo_isCalm_17 rfl (lv_at hl 1 rfl) ?_
  refine lv_iload_n hx hb d_Mo_isCalm_18 rfl (lv_at hl 0 rfl) ?_
  have hPc := hP.sub (ws' := [(oM, .inr (12, fm))]) [0] rfl
  have hDc := hD.sub (ws' := [(oM, .inr (12, fm))]) [0] (by decide) rfl
  have hFc := pu_free hS hA
  refine va_calll (va_runV (C := R_Mo) (As := [.int 10]) (rest := [.int 10, .ref am_floods]) ⟨hx, hb, hml, hown, hts⟩ (c_Mo_flood l dC dI cI cB cZ cJ 10 oM fm hm_things hm_pipes H.size) (cwV 1 hts (tb_V mw_2388 mw_2390 sl_149 mw_18 mw_2391) rfl rfl rfl ⟨rfl, by decide +kernel, by decide +kernel, by decide +kernel⟩ ⟨(Nat.le_of_ble_eq_true rfl), (Nat.le_of_ble_eq_true rfl)⟩) ⟨pw_blind, va_recv (q := (R_Mo, F_Mo, 87)) hK.1 hP (ci := 12) (q0 := 0) rfl rfl, pw_pre hPc hK hDc⟩ rfl rfl hl.1 rfl (lv_room (Nat.le_of_ble_eq_true rfl)) d_Mo_isCalm_19 ⟨(Nat.le_of_ble_eq_true rfl), (Nat.le_of_ble_eq_true rfl)⟩) hS (fun q _ h => hFc q h) hFc (fun r u t H locs ht hvm hw hB hz1 hk1 hS => ?_)
  have hP := pu_kept hP hk1
  obtain rfl : r = 0 := hw
  refine va_last hx hb hK.1 hP hD hS 1 3 rfl rfl (vp_in_iff.mpr (by decide)) d_Mo_isCalm_22 (fun H locs hP hD hS => ?_)
  have hP : va_P (dC, dI) classes [(oM, .inr (12, fm)), (am_floods, .inl (cJ, 16, .inr (.inl ((vp_updL f22_9 (10 : Int32).toNatClampNeg 0)))))] H := hP
  have hD : va_D A [(oM, .inr (12, fm)), (am_floods, .inl (cJ, 16, .inr (.inl ((vp_updL f22_9 (10 : Int32).toNatClampNeg 0)))))] := hD
  generalize (vp_updL f22_9 (10 : Int32).toNatClampNeg 0) = f22_10 at hP hD
  refine lv_iinc (k := 0) (v := 11) hx hb d_Mo_isCalm_23 hl rfl (by first | rfl | decide | exact nI_1 i) (by decide) rfl (fun ls hl => ?_)
  have hl : lv_has ls 5 [(2, .int 11), (0, .ref oM), (1, .int fa)] := hl
  refine lv_goto (tgt := 6) hx hb d_Mo_isCalm_26 (by decide) ?_
  refine lv_iload_n hx hb d_Mo_isCalm_6 rfl (lv_at hl 0 rfl) ?_
  refine lv_bipush (v := 16) hx hb d_Mo_isCalm_7 (by decide) ?_
  refine lv_icmp_ge (tgt := 29) hx hb d_Mo_isCalm_9 (by decide) (fun h => absurd h (by decide)) (fun _ => ?_)
  refine lv_aload_n hx hb d_Mo_isCalm_12 rfl (lv_at hl 1 rfl) ?_
  refine va_get (D := (dC, dI)) (ci := 12) (v := .ref am_floods) (C := R_Mo) (T := F_Mo) (N := 87) hx hb hts (fun w h => List.mem_cons_of_mem _ (in_Mo w h)) hown hK.1 hP 0 rfl rfl 44 (by decide) (hts _ (List.mem_cons_of_mem _ mw_1830)) (fun _ h9 => h9) hm_floods d_Mo_isCalm_13 ?_
  refine lv_iload_n hx hb d_Mo_isCalm_16 rfl (lv_at hl 0 rfl) ?_
  refine lv_aload_n hx hb d_Mo_isCalm_17 rfl (lv_at hl 1 rfl) ?_
  refine lv_iload_n hx hb d_Mo_isCalm_18 rfl (lv_at hl 0 rfl) ?_
  have hPc := hP.sub (ws' := [(oM, .inr (12, fm))]) [0] rfl
  have hDc := hD.sub (ws' := [(oM, .inr (12, fm))]) [0] (by decide) rfl
  have hFc := pu_free hS hA
  refine va_calll (va_runV (C := R_Mo) (As := [.int 11]) (rest := [.int 11, .ref am_floods]) ⟨hx, hb, hml, hown, hts⟩ (c_Mo_flood l dC dI cI cB cZ cJ 11 oM fm hm_things hm_pipes H.size) (cwV 1 hts (tb_V mw_2388 mw_2390 sl_149 mw_18 mw_2391) rfl rfl rfl ⟨rfl, by decide +kernel, by decide +kernel, by decide +kernel⟩ ⟨(Nat.le_of_ble_eq_true rfl), (Nat.le_of_ble_eq_true rfl)⟩) ⟨pw_blind, va_recv (q := (R_Mo, F_Mo, 87)) hK.1 hP (ci := 12) (q0 := 0) rfl rfl, pw_pre hPc hK hDc⟩ rfl rfl hl.1 rfl (lv_room (Nat.le_of_ble_eq_true rfl)) d_Mo_isCalm_19 ⟨(Nat.le_of_ble_eq_true rfl), (Nat.le_of_ble_eq_true rfl)⟩) hS (fun q _ h => hFc q h) hFc (fun r u t H locs ht hvm hw hB hz1 hk1 hS => ?_)
  have hP := pu_kept hP hk1
  obtain rfl : r = 0 := hw
  refine va_last hx hb hK.1 hP hD hS 1 3 rfl rfl (vp_in_iff.mpr (by decide)) d_Mo_isCalm_22 (fun H locs hP hD hS => ?_)
  have hP : va_P (dC, dI) classes [(oM, .inr (12, fm)), (am_floods, .inl (cJ, 16, .inr (.inl ((vp_updL f22_10 (11 : Int32).toNatClampNeg 0)))))] H := hP
  have hD : va_D A [(oM, .inr (12, fm)), (am_floods, .inl (cJ, 16, .inr (.inl ((vp_updL f22_10 (11 : Int32).toNatClampNeg 0)))))] := hD
  generalize (vp_updL f22_10 (11 : Int32).toNatClampNeg 0) = f22_11 at hP hD
  refine lv_iinc (k := 0) (v := 12) hx hb d_Mo_isCalm_23 hl rfl (by first | rfl | decide | exact nI_1 i) (by decide) rfl (fun ls hl => ?_)
  have hl : lv_has ls 5 [(2, .int 12), (0, .ref oM), (1, .int fa)] := hl
  refine lv_goto (tgt := 6) hx hb d_Mo_isCalm_26 (by decide) ?_
  refine lv_iload_n hx hb d_Mo_isCalm_6 rfl (lv_at hl 0 rfl) ?_
  refine lv_bipush (v := 16) hx hb d_Mo_isCalm_7 (by decide) ?_
  refine lv_icmp_ge (tgt := 29) hx hb d_Mo_isCalm_9 (by decide) (fun h => absurd h (by decide)) (fun _ => ?_)
  refine lv_aload_n hx hb d_Mo_isCalm_12 rfl (lv_at hl 1 rfl) ?_
  refine va_get (D := (dC, dI)) (ci := 12) (v := .ref am_floods) (C := R_Mo) (T := F_Mo) (N := 87) hx hb hts (fun w h => List.mem_cons_of_mem _ (in_Mo w h)) hown hK.1 hP 0 rfl rfl 44 (by decide) (hts _ (List.mem_cons_of_mem _ mw_1830)) (fun _ h9 => h9) hm_floods d_Mo_isCalm_13 ?_
  refine lv_iload_n hx hb d_Mo_isCalm_16 rfl (lv_at hl 0 rfl) ?_
  refine lv_aload_n hx hb d_Mo_isCalm_17 rfl (lv_at hl 1 rfl) ?_
  refine lv_iload_n hx hb d_Mo_isCalm_18 rfl (lv_at hl 0 rfl) ?_
  have hPc := hP.sub (ws' := [(oM, .inr (12, fm))]) [0] rfl
  have hDc := hD.sub (ws' := [(oM, .inr (12, fm))]) [0] (by decide) rfl
  have hFc := pu_free hS hA
  refine va_calll (va_runV (C := R_Mo) (As := [.int 12]) (rest := [.int 12, .ref am_floods]) ⟨hx, hb, hml, hown, hts⟩ (c_Mo_flood l dC dI cI cB cZ cJ 12 oM fm hm_things hm_pipes H.size) (cwV 1 hts (tb_V mw_2388 mw_2390 sl_149 mw_18 mw_2391) rfl rfl rfl ⟨rfl, by decide +kernel, by decide +kernel, by decide +kernel⟩ ⟨(Nat.le_of_ble_eq_true rfl), (Nat.le_of_ble_eq_true rfl)⟩) ⟨pw_blind, va_recv (q := (R_Mo, F_Mo, 87)) hK.1 hP (ci := 12) (q0 := 0) rfl rfl, pw_pre hPc hK hDc⟩ rfl rfl hl.1 rfl (lv_room (Nat.le_of_ble_eq_true rfl)) d_Mo_isCalm_19 ⟨(Nat.le_of_ble_eq_true rfl), (Nat.le_of_ble_eq_true rfl)⟩) hS (fun q _ h => hFc q h) hFc (fun r u t H locs ht hvm hw hB hz1 hk1 hS => ?_)
  have hP := pu_kept hP hk1
  obtain rfl : r = 0 := hw
  refine va_last hx hb hK.1 hP hD hS 1 3 rfl rfl (vp_in_iff.mpr (by decide)) d_Mo_isCalm_22 (fun H locs hP hD hS => ?_)
  have hP : va_P (dC, dI) classes [(oM, .inr (12, fm)), (am_floods, .inl (cJ, 16, .inr (.inl ((vp_updL f22_11 (12 : Int32).toNatClampNeg 0)))))] H := hP
  have hD : va_D A [(oM, .inr (12, fm)), (am_floods, .inl (cJ, 16, .inr (.inl ((vp_updL f22_11 (12 : Int32).toNatClampNeg 0)))))] := hD
  generalize (vp_updL f22_11 (12 : Int32).toNatClampNeg 0) = f22_12 at hP hD
  refine lv_iinc (k := 0) (v := 13) hx hb d_Mo_isCalm_23 hl rfl (by first | rfl | decide | exact nI_1 i) (by decide) rfl (fun ls hl => ?_)
  have hl : lv_has ls 5 [(2, .int 13), (0, .ref oM), (1, .int fa)] := hl
  refine lv_goto (tgt := 6) hx hb d_Mo_isCalm_26 (by decide) ?_
  refine lv_iload_n hx hb d_Mo_isCalm_6 rfl (lv_at hl 0 rfl) ?_
  refine lv_bipush (v := 16) hx hb d_Mo_isCalm_7 (by decide) ?_
  refine lv_icmp_ge (tgt := 29) hx hb d_Mo_isCalm_9 (by decide) (fun h => absurd h (by decide)) (fun _ => ?_)
  refine lv_aload_n hx hb d_Mo_isCalm_12 rfl (lv_at hl 1 rfl) ?_
  refine va_get (D := (dC, dI)) (ci := 12) (v := .ref am_floods) (C := R_Mo) (T := F_Mo) (N := 87) hx hb hts (fun w h => List.mem_cons_of_mem _ (in_Mo w h)) hown hK.1 hP 0 rfl rfl 44 (by decide) (hts _ (List.mem_cons_of_mem _ mw_1830)) (fun _ h9 => h9) hm_floods d_Mo_isCalm_13 ?_
  refine lv_iload_n hx hb d_Mo_isCalm_16 rfl (lv_at hl 0 rfl) ?_
  refine lv_aload_n hx hb d_Mo_isCalm_17 rfl (lv_at hl 1 rfl) ?_
  refine lv_iload_n hx hb d_Mo_isCalm_18 rfl (lv_at hl 0 rfl) ?_
  have hPc := hP.sub (ws' := [(oM, .inr (12, fm))]) [0] rfl
  have hDc := hD.sub (ws' := [(oM, .inr (12, fm))]) [0] (by decide) rfl
  have hFc := pu_free hS hA
  refine va_calll (va_runV (C := R_Mo) (As := [.int 13]) (rest := [.int 13, .ref am_floods]) ⟨hx, hb, hml, hown, hts⟩ (c_Mo_flood l dC dI cI cB cZ cJ 13 oM fm hm_things hm_pipes H.size) (cwV 1 hts (tb_V mw_2388 mw_2390 sl_149 mw_18 mw_2391) rfl rfl rfl ⟨rfl, by decide +kernel, by decide +kernel, by decide +kernel⟩ ⟨(Nat.le_of_ble_eq_true rfl), (Nat.le_of_ble_eq_true rfl)⟩) ⟨pw_blind, va_recv (q := (R_Mo, F_Mo, 87)) hK.1 hP (ci := 12) (q0 := 0) rfl rfl, pw_pre hPc hK hDc⟩ rfl rfl hl.1 rfl (lv_room (Nat.le_of_ble_eq_true rfl)) d_Mo_isCalm_19 ⟨(Nat.le_of_ble_eq_true rfl), (Nat.le_of_ble_eq_true rfl)⟩) hS (fun q _ h => hFc q h) hFc (fun r u t H locs ht hvm hw hB hz1 hk1 hS => ?_)
  have hP := pu_kept hP hk1
  obtain rfl : r = 0 := hw
  refine va_last hx hb hK.1 hP hD hS 1 3 rfl rfl (vp_in_iff.mpr (by decide)) d_Mo_isCalm_22 (fun H locs hP hD hS => ?_)
  have hP : va_P (dC, dI) classes [(oM, .inr (12, fm)), (am_floods, .inl (cJ, 16, .inr (.inl ((vp_updL f22_12 (13 : Int32).toNatClampNeg 0)))))] H := hP
  have hD : va_D A [(oM, .inr (12, fm)), (am_floods, .inl (cJ, 16, .inr (.inl ((vp_updL f22_12 (13 : Int32).toNatClampNeg 0)))))] := hD
  generalize (vp_updL f22_12 (13 : Int32).toNatClampNeg 0) = f22_13 at hP hD
  refine lv_iinc (k := 0) (v := 14) hx hb d_Mo_isCalm_23 hl rfl (by first | rfl | decide | exact nI_1 i) (by decide) rfl (fun ls hl => ?_)
  have hl : lv_has ls 5 [(2, .int 14), (0, .ref oM), (1, .int fa)] := hl
  refine lv_goto (tgt := 6) hx hb d_Mo_isCalm_26 (by decide) ?_
  refine lv_iload_n hx hb d_Mo_isCalm_6 rfl (lv_at hl 0 rfl) ?_
  refine lv_bipush (v := 16) hx hb d_Mo_isCalm_7 (by decide) ?_
  refine lv_icmp_ge (tgt := 29) hx hb d_Mo_isCalm_9 (by decide) (fun h => absurd h (by decide)) (fun _ => ?_)
  refine lv_aload_n hx hb d_Mo_isCalm_12 rfl (lv_at hl 1 rfl) ?_
  refine va_get (D := (dC, dI)) (ci := 12) (v := .ref am_floods) (C := R_Mo) (T := F_Mo) (N := 87) hx hb hts (fun w h => List.mem_cons_of_mem _ (in_Mo w h)) hown hK.1 hP 0 rfl rfl 44 (by decide) (hts _ (List.mem_cons_of_mem _ mw_1830)) (fun _ h9 => h9) hm_floods d_Mo_isCalm_13 ?_
  refine lv_iload_n hx hb d_Mo_isCalm_16 rfl (lv_at hl 0 rfl) ?_
  refine lv_aload_n hx hb d_Mo_isCalm_17 rfl (lv_at hl 1 rfl) ?_
  refine lv_iload_n hx hb d_Mo_isCalm_18 rfl (lv_at hl 0 rfl) ?_
  have hPc := hP.sub (ws' := [(oM, .inr (12, fm))]) [0] rfl
  have hDc := hD.sub (ws' := [(oM, .inr (12, fm))]) [0] (by decide) rfl
  have hFc := pu_free hS hA
  refine va_calll (va_runV (C := R_Mo) (As := [.int 14]) (rest := [.int 14, .ref am_floods]) ⟨hx, hb, hml, hown, hts⟩ (c_Mo_flood l dC dI cI cB cZ cJ 14 oM fm hm_things hm_pipes H.size) (cwV 1 hts (tb_V mw_2388 mw_2390 sl_149 mw_18 mw_2391) rfl rfl rfl ⟨rfl, by decide +kernel, by decide +kernel, by decide +kernel⟩ ⟨(Nat.le_of_ble_eq_true rfl), (Nat.le_of_ble_eq_true rfl)⟩) ⟨pw_blind, va_recv (q := (R_Mo, F_Mo, 87)) hK.1 hP (ci := 12) (q0 := 0) rfl rfl, pw_pre hPc hK hDc⟩ rfl rfl hl.1 rfl (lv_room (Nat.le_of_ble_eq_true rfl)) d_Mo_isCalm_19 ⟨(Nat.le_of_ble_eq_true rfl), (Nat.le_of_ble_eq_true rfl)⟩) hS (fun q _ h => hFc q h) hFc (fun r u t H locs ht hvm hw hB hz1 hk1 hS => ?_)
  have hP := pu_kept hP hk1
  obtain rfl : r = 0 := hw
  refine va_last hx hb hK.1 hP hD hS 1 3 rfl rfl (vp_in_iff.mpr (by decide)) d_Mo_isCalm_22 (fun H locs hP hD hS => ?_)
  have hP : va_P (dC, dI) classes [(oM, .inr (12, fm)), (am_floods, .inl (cJ, 16, .inr (.inl ((vp_updL f22_13 (14 : Int32).toNatClampNeg 0)))))] H := hP
  have hD : va_D A [(oM, .inr (12, fm)), (am_floods, .inl (cJ, 16, .inr (.inl ((vp_updL f22_13 (14 : Int32).toNatClampNeg 0)))))] := hD
  generalize (vp_updL f22_13 (14 : Int32).toNatClampNeg 0) = f22_14 at hP hD
  refine lv_iinc (k := 0) (v := 15) hx hb d_Mo_isCalm_23 hl rfl (by first | rfl | decide | exact nI_1 i) (by decide) rfl (fun ls hl => ?_)
  have hl : lv_has ls 5 [(2, .int 15), (0, .ref oM), (1, .int fa)] := hl
  refine lv_goto (tgt := 6) hx hb d_Mo_isCalm_26 (by decide) ?_
  refine lv_iload_n hx hb d_Mo_isCalm_6 rfl (lv_at hl 0 rfl) ?_
  refine lv_bipush (v := 16) hx hb d_Mo_isCalm_7 (by decide) ?_
  refine lv_icmp_ge (tgt := 29) hx hb d_Mo_isCalm_9 (by decide) (fun h => absurd h (by decide)) (fun _ => ?_)
  refine lv_aload_n hx hb d_Mo_isCalm_12 rfl (lv_at hl 1 rfl) ?_
  refine va_get (D := (dC, dI)) (ci := 12) (v := .ref am_floods) (C := R_Mo) (T := F_Mo) (N := 87) hx hb hts (fun w h => List.mem_cons_of_mem _ (in_Mo w h)) hown hK.1 hP 0 rfl rfl 44 (by decide) (hts _ (List.mem_cons_of_mem _ mw_1830)) (fun _ h9 => h9) hm_floods d_Mo_isCalm_13 ?_
  refine lv_iload_n hx hb d_Mo_isCalm_16 rfl (lv_at hl 0 rfl) ?_
  refine lv_aload_n hx hb d_Mo_isCalm_17 rfl (lv_at hl 1 rfl) ?_
  refine lv_iload_n hx hb d_Mo_isCalm_18 rfl (lv_at hl 0 rfl) ?_
  have hPc := hP.sub (ws' := [(oM, .inr (12, fm))]) [0] rfl
  have hDc := hD.sub (ws' := [(oM, .inr (12, fm))]) [0] (by decide) rfl
  have hFc := pu_free hS hA
  refine va_calll (va_runV (C := R_Mo) (As := [.int 15]) (rest := [.int 15, .ref am_floods]) ⟨hx, hb, hml, hown, hts⟩ (c_Mo_flood l dC dI cI cB cZ cJ 15 oM fm hm_things hm_pipes H.size) (cwV 1 hts (tb_V mw_2388 mw_2390 sl_149 mw_18 mw_2391) rfl rfl rfl ⟨rfl, by decide +kernel, by decide +kernel, by decide +kernel⟩ ⟨(Nat.le_of_ble_eq_true rfl), (Nat.le_of_ble_eq_true rfl)⟩) ⟨pw_blind, va_recv (q := (R_Mo, F_Mo, 87)) hK.1 hP (ci := 12) (q0 := 0) rfl rfl, pw_pre hPc hK hDc⟩ rfl rfl hl.1 rfl (lv_room (Nat.le_of_ble_eq_true rfl)) d_Mo_isCalm_19 ⟨(Nat.le_of_ble_eq_true rfl), (Nat.le_of_ble_eq_true rfl)⟩) hS (fun q _ h => hFc q h) hFc (fun r u t H locs ht hvm hw hB hz1 hk1 hS => ?_)
  have hP := pu_kept hP hk1
  obtain rfl : r = 0 := hw
  refine va_last hx hb hK.1 hP hD hS 1 3 rfl rfl (vp_in_iff.mpr (by decide)) d_Mo_isCalm_22 (fun H locs hP hD hS => ?_)
  have hP : va_P (dC, dI) classes [(oM, .inr (12, fm)), (am_floods, .inl (cJ, 16, .inr (.inl ((vp_updL f22_14 (15 : Int32).toNatClampNeg 0)))))] H := hP
  have hD : va_D A [(oM, .inr (12, fm)), (am_floods, .inl (cJ, 16, .inr (.inl ((vp_updL f22_14 (15 : Int32).toNatClampNeg 0)))))] := hD
  generalize (vp_updL f22_14 (15 : Int32).toNatClampNeg 0) = f22_15 at hP hD
  refine lv_iinc (k := 0) (v := 16) hx hb d_Mo_isCalm_23 hl rfl (by first | rfl | decide | exact nI_1 i) (by decide) rfl (fun ls hl => ?_)
  have hl : lv_has ls 5 [(2, .int 16), (0, .ref oM), (1, .int fa)] := hl
  refine lv_goto (tgt := 6) hx hb d_Mo_isCalm_26 (by decide) ?_
  refine lv_iload_n hx hb d_Mo_isCalm_6 rfl (lv_at hl 0 rfl) ?_
  refine lv_bipush (v := 16) hx hb d_Mo_isCalm_7 (by decide) ?_
  refine lv_icmp_ge (tgt := 29) hx hb d_Mo_isCalm_9 (by decide) (fun _ => ?_) (fun h => absurd (by decide) h)
  refine lv_iconst (v := 0) hx hb d_Mo_isCalm_29 (by decide) ?_
  refine lv_istore_n hx hb d_Mo_isCalm_30 rfl hl (by decide) rfl (fun ls hl => ?_)
  have hl : lv_has ls 5 [(2, .int 0), (0, .ref oM), (1, .int fa)] := hl
  refine lv_iload_n hx hb d_Mo_isCalm_31 rfl (lv_at hl 0 rfl) ?_
  refine lv_aload_n hx hb d_Mo_isCalm_32 rfl (lv_at hl 1 rfl) ?_
  refine va_get (D := (dC, dI)) (ci := 12) (v := .int 0) (C := R_Mo) (T := F_Mo) (N := 87) hx hb hts (fun w h => List.mem_cons_of_mem _ (in_Mo w h)) hown hK.1 hP 0 rfl rfl 4 (by decide) (hts _ (List.mem_cons_of_mem _ mw_1790)) (fun _ h9 => h9) hm_things d_Mo_isCalm_33 ?_
  refine lv_aload_n hx hb d_Mo_isCalm_36 rfl (lv_at hl 1 rfl) ?_
  refine va_get (D := (dC, dI)) (ci := 12) (v := .int 0) (C := R_Mo) (T := F_Mo) (N := 87) hx hb hts (fun w h => List.mem_cons_of_mem _ (in_Mo w h)) hown hK.1 hP 0 rfl rfl 11 (by decide) (hts _ (List.mem_cons_of_mem _ mw_1797)) (fun _ h9 => h9) hm_pipes d_Mo_isCalm_37 ?_
  refine lv_iadd hx hb d_Mo_isCalm_40 ?_
  refine lv_topi (fun x0 e0 => ?_)
  obtain rfl : x0 = 0 := e0.trans (by decide)
  refine lv_icmp_ge (tgt := 138) hx hb d_Mo_isCalm_41 (by decide) (fun _ => ?_) (fun h => absurd (by decide) h)
  refine lv_iconst (v := 1) hx hb d_Mo_isCalm_138 (by decide) ?_
  exact W.zret (v := 1) (ty := .boolean) hx hb hr (by decide) (fun t ht hW => ⟨⟨_, (), rfl, (rfl), ⟨f22_15, hm_things, hm_pipes, hm_floods, by rw [ht]; exact hP, hD⟩⟩, hS.F ht⟩) hS.2.2 d_Mo_isCalm_139
theorem d_Mo_isSafe_0 : decode b_Mo_isSafe 0 = .ok (.aload_n 0, 1) := by decide +kernel
theorem d_Mo_isSafe_1 : decode b_Mo_isSafe 1 = .ok (.iconst 1, 1) := by decide +kernel
theorem d_Mo_isSafe_2 : decode b_Mo_isSafe 2 = .ok (.invokevirtual 359, 3) := by decide +kernel
theorem d_Mo_isSafe_5 : decode b_Mo_isSafe 5 = .ok (.istore_n 1, 1) := by decide +kernel
theorem d_Mo_isSafe_6 : decode b_Mo_isSafe 6 = .ok (.iconst 0, 1) := by decide +kernel
theorem d_Mo_isSafe_7 : decode b_Mo_isSafe 7 = .ok (.istore_n 2, 1) := by decide +kernel
theorem d_Mo_isSafe_8 : decode b_Mo_isSafe 8 = .ok (.iload_n 2, 1) := by decide +kernel
theorem d_Mo_isSafe_9 : decode b_Mo_isSafe 9 = .ok (.aload_n 0, 1) := by decide +kernel
theorem d_Mo_isSafe_10 : decode b_Mo_isSafe 10 = .ok (.getfield 278, 3) := by decide +kernel
theorem d_Mo_isSafe_13 : decode b_Mo_isSafe 13 = .ok (.if_icmp .ge 101, 3) := by decide +kernel
theorem d_Mo_isSafe_114 : decode b_Mo_isSafe 114 = .ok (.iload_n 1, 1) := by decide +kernel
theorem d_Mo_isSafe_115 : decode b_Mo_isSafe 115 = .ok (.ireturn, 1) := by decide +kernel
set_option maxHeartbeats 4000000 in
set_option maxRecDepth 100000 in
theorem c_Mo_isSafe (l : Launch) (dC : Nat → ClassId) (dI : Nat → Nat → Nat) (cI cB cZ cJ : ClassId) (oM : Nat) (am_floods : Nat) (fm : List Value) (hm_things : fm[4]? = some (.int 0)) (hm_pipes : fm[11]? = some (.int 0)) (hm_floods : fm[44]? = some (.ref am_floods)) (sz : Nat) : Met l y_Mo_isSafe w_Mo_isSafe ({ frames := 2, cells := 0, slots := 0, locals := 51 }) (va_Pc [.ref oM] (PW dC dI cI cB cZ cJ [(oM, .inr (12, fm)), (am_floods, .inl (cJ, 16, .inr (.inl (fun _ => 0))))] sz)) (va_Qi (fun (r : Int32) (_ : Unit) => r = 1) (fun _ _ => True) (va_A [(oM, .inr (12, fm)), (am_floods, .inl (cJ, 16, .inr (.inl (fun _ => 0))))] sz)) 0 0 (va_A [(oM, .inr (12, fm)), (am_floods, .inl (cJ, 16, .inr (.inl (fun _ => 0))))] sz) := by
  refine Met.ofW (cc := b_Mo_isSafe) (maxL := 5) (ret := (some .boolean)) (by decide) rfl ?_
  intro p e s m args below meth c s₁ B hml hv
  obtain ⟨rfl, hsz, hP, hK, hD⟩ := hv
  have hx := B.exec
  have hb := B.bytes
  have hr := B.returns
  have hts := atoms_spec (ws := w_Mo_isSafe) B.pre
  have hown : s.vm.findClass R_Mo = some m.cls := findClass_of_methodNamed B.named
  have hlocks := B.notSynchronized
  subst hsz
  have hD := hD.self (sz := s.heap.size)
  generalize hAe : va_A [(oM, .inr (12, fm)), (am_floods, .inl (cJ, 16, .inr (.inl (fun _ => 0))))] s.heap.size = A at hD ⊢
  have hA : ∀ q : Nat, s.heap.size ≤ q → A q := fun q h => by rw [← hAe]; exact Or.inr h
  have hS : va_S A s.heap s.heap [] := va_S.rf
  have hP : va_P (dC, dI) classes [(oM, .inr (12, fm)), (am_floods, .inl (cJ, 16, .inr (.inl (fun _ => 0))))] s.heap := hP
  have hl := lv_entry ([.ref oM]) (n := 5) (Nat.le_of_ble_eq_true rfl)
  rw [lg_entry_eq]
  generalize (lg_sl ([.ref oM]) ++ List.replicate (5 - (lg_sl ([.ref oM])).length) Slot.unset).toArray = ls at hl ⊢
  have hl : lv_has ls 5 [(0, .ref oM)] := hl
  refine lv_aload_n hx hb d_Mo_isSafe_0 rfl (lv_at hl 0 rfl) ?_
  refine lv_iconst (v := 1) hx hb d_Mo_isSafe_1 (by decide) ?_
  have hPc := hP.sub (ws' := [(oM, .inr (12, fm)), (am_floods, .inl (cJ, 16, .inr (.inl (fun _ => 0))))]) [0, 1] rfl
  have hDc := hD.sub (ws' := [(oM, .inr (12, fm)), (am_floods, .inl (cJ, 16, .inr (.inl (fun _ => 0))))]) [0, 1] (by decide) rfl
  have hFc := va_free (wc := [(oM, .inr (12, fm)), (am_floods, .inl (cJ, 16, .inr (.inl (fun _ => 0))))]) hD hS hA [0, 1] rfl
  refine va_calli (va_runV (C := R_Mo) (As := [.int 1]) (rest := []) ⟨hx, hb, hml, hown, hts⟩ (c_Mo_isCalm l dC dI cI cB cZ cJ 1 oM am_floods fm hm_things hm_pipes hm_floods s.heap.size) (cwV 1 hts (tb_V mw_2377 mw_2379 sl_147 mw_18 mw_2380) rfl rfl rfl ⟨rfl, by decide +kernel, by decide +kernel, by decide +kernel⟩ ⟨(Nat.le_of_ble_eq_true rfl), (Nat.le_of_ble_eq_true rfl)⟩) ⟨pw_blind, va_recv (q := (R_Mo, F_Mo, 87)) hK.1 hP (ci := 12) (q0 := 0) rfl rfl, pw_pre hPc hK hDc⟩ rfl rfl hl.1 rfl (lv_room (Nat.le_of_ble_eq_true rfl)) d_Mo_isSafe_2 ⟨(Nat.le_of_ble_eq_true rfl), (Nat.le_of_ble_eq_true rfl)⟩) hS (fun q _ h => hFc q h) hFc (fun r u t H locs ht hvm hw hB hz1 hk1 hS => ?_)
  obtain ⟨f2_1_am_floods, k2_1_oM_4, k2_1_oM_11, k2_1_oM_44, hP1, hD1⟩ := hB
  rw [ht] at hP1
  obtain ⟨hP, hD⟩ := va_join (wr := []) (w1 := [(oM, .inr (12, fm)), (am_floods, .inl (cJ, 16, .inr (.inl f2_1_am_floods)))]) hP hD [0, 1] [] rfl rfl (by decide) (by decide) hk1 hFc hP1 hD1
  have hP : va_P (dC, dI) classes [(oM, .inr (12, fm)), (am_floods, .inl (cJ, 16, .inr (.inl f2_1_am_floods)))] H := hP
  have hD : va_D A [(oM, .inr (12, fm)), (am_floods, .inl (cJ, 16, .inr (.inl f2_1_am_floods)))] := hD
  obtain rfl : r = 1 := hw
  refine lv_istore_n hx hb d_Mo_isSafe_5 rfl hl (by decide) rfl (fun ls hl => ?_)
  have hl : lv_has ls 5 [(1, .int 1), (0, .ref oM)] := hl
  refine lv_iconst (v := 0) hx hb d_Mo_isSafe_6 (by decide) ?_
  refine lv_istore_n hx hb d_Mo_isSafe_7 rfl hl (by decide) rfl (fun ls hl => ?_)
  have hl : lv_has ls 5 [(2, .int 0), (1, .int 1), (0, .ref oM)] := hl
  refine lv_iload_n hx hb d_Mo_isSafe_8 rfl (lv_at hl 0 rfl) ?_
  refine lv_aload_n hx hb d_Mo_isSafe_9 rfl (lv_at hl 2 rfl) ?_
  refine va_get (D := (dC, dI)) (ci := 12) (v := .int 0) (C := R_Mo) (T := F_Mo) (N := 87) hx hb hts (fun w h => List.mem_cons_of_mem _ (in_Mo w h)) hown hK.1 hP 0 rfl rfl 4 (by decide) (hts _ (List.mem_cons_of_mem _ mw_1790)) (fun _ h9 => h9) k2_1_oM_4 d_Mo_isSafe_10 ?_
  refine lv_icmp_ge (tgt := 114) hx hb d_Mo_isSafe_13 (by decide) (fun _ => ?_) (fun h => absurd (by decide) h)
  refine lv_iload_n hx hb d_Mo_isSafe_114 rfl (lv_at hl 1 rfl) ?_
  exact W.zret (v := 1) (ty := .boolean) hx hb hr (by decide) (fun t ht hW => ⟨⟨_, (), rfl, (rfl), trivial⟩, hS.F ht⟩) hS.2.2 d_Mo_isSafe_115
theorem d_Mo_danger_0 : decode b_Mo_danger 0 = .ok (.aload_n 0, 1) := by decide +kernel
theorem d_Mo_danger_1 : decode b_Mo_danger 1 = .ok (.invokevirtual 366, 3) := by decide +kernel
theorem d_Mo_danger_4 : decode b_Mo_danger 4 = .ok (.aload_n 0, 1) := by decide +kernel
theorem d_Mo_danger_5 : decode b_Mo_danger 5 = .ok (.invokevirtual 369, 3) := by decide +kernel
theorem d_Mo_danger_8 : decode b_Mo_danger 8 = .ok (.ifCond .eq 13, 3) := by decide +kernel
theorem d_Mo_danger_11 : decode b_Mo_danger 11 = .ok (.iload_n 1, 1) := by decide +kernel
theorem d_Mo_danger_12 : decode b_Mo_danger 12 = .ok (.ifCond .ne 7, 3) := by decide +kernel
theorem d_Mo_danger_15 : decode b_Mo_danger 15 = .ok (.iconst 0, 1) := by decide +kernel
theorem d_Mo_danger_16 : decode b_Mo_danger 16 = .ok (.goto 4, 3) := by decide +kernel
theorem d_Mo_danger_19 : decode b_Mo_danger 19 = .ok (.iconst (-1), 1) := by decide +kernel
theorem d_Mo_danger_20 : decode b_Mo_danger 20 = .ok (.ireturn, 1) := by decide +kernel
def fn_Mo_danger (wh : Int32) : Int32 := (if wh = 0 then 0 else (-1))
set_option maxHeartbeats 4000000 in
set_option maxRecDepth 100000 in
theorem c_Mo_danger (l : Launch) (dC : Nat → ClassId) (dI : Nat → Nat → Nat) (cI cB cZ cJ : ClassId) (wh : Int32) (oM : Nat) (am_floods : Nat) (fm : List Value) (hm_things : fm[4]? = some (.int 0)) (hm_pipes : fm[11]? = some (.int 0)) (hm_ways : fm[26]? = some (.int 0)) (hm_floods : fm[44]? = some (.ref am_floods)) (sz : Nat) : Met l y_Mo_danger w_Mo_danger ({ frames := 3, cells := 0, slots := 0, locals := 75 }) (va_Pc [.ref oM, .int wh] (PW dC dI cI cB cZ cJ [(oM, .inr (12, fm)), (am_floods, .inl (cJ, 16, .inr (.inl (fun _ => 0))))] sz)) (va_Qi (fun (r : Int32) (_ : Unit) => r = fn_Mo_danger wh) (fun _ _ => True) (va_A [(oM, .inr (12, fm)), (am_floods, .inl (cJ, 16, .inr (.inl (fun _ => 0))))] sz)) 0 0 (va_A [(oM, .inr (12, fm)), (am_floods, .inl (cJ, 16, .inr (.inl (fun _ => 0))))] sz) := by
  refine Met.ofW (cc := b_Mo_danger) (maxL := 2) (ret := (some .int)) (by decide) rfl ?_
  intro p e s m args below meth c s₁ B hml hv
  obtain ⟨rfl, hsz, hP, hK, hD⟩ := hv
  have hx := B.exec
  have hb := B.bytes
  have hr := B.returns
  have hts := atoms_spec (ws := w_Mo_danger) B.pre
  have hown : s.vm.findClass R_Mo = some m.cls := findClass_of_methodNamed B.named
  have hlocks := B.notSynchronized
  subst hsz
  have hD := hD.self (sz := s.heap.size)
  generalize hAe : va_A [(oM, .inr (12, fm)), (am_floods, .inl (cJ, 16, .inr (.inl (fun _ => 0))))] s.heap.size = A at hD ⊢
  have hA : ∀ q : Nat, s.heap.size ≤ q → A q := fun q h => by rw [← hAe]; exact Or.inr h
  have hS : va_S A s.heap s.heap [] := va_S.rf
  have hP : va_P (dC, dI) classes [(oM, .inr (12, fm)), (am_floods, .inl (cJ, 16, .inr (.inl (fun _ => 0))))] s.heap := hP
  have hl := lv_entry ([.ref oM, .int wh]) (n := 2) (Nat.le_of_ble_eq_true rfl)
  rw [lg_entry_eq]
  generalize (lg_sl ([.ref oM, .int wh]) ++ List.replicate (2 - (lg_sl ([.ref oM, .int wh])).length) Slot.unset).toArray = ls at hl ⊢
  have hl : lv_has ls 2 [(0, .ref oM), (1, .int wh)] := hl
  refine lv_aload_n hx hb d_Mo_danger_0 rfl (lv_at hl 0 rfl) ?_
  have hPc := hP.sub (ws' := [(oM, .inr (12, fm))]) [0] rfl
  have hDc := hD.sub (ws' := [(oM, .inr (12, fm))]) [0] (by decide) rfl
  have hFc := pu_free hS hA
  refine va_callv (va_runV (C := R_Mo) (As := []) (rest := []) ⟨hx, hb, hml, hown, hts⟩ (c_Mo_look l dC dI cI cB cZ cJ oM fm hm_things hm_pipes hm_ways s.heap.size) (cwV 0 hts (tb_V mw_2361 mw_2363 sl_143 mw_18 mw_2364) rfl rfl rfl ⟨rfl, by decide +kernel, by decide +kernel, by decide +kernel⟩ ⟨(Nat.le_of_ble_eq_true rfl), (Nat.le_of_ble_eq_true rfl)⟩) ⟨pw_blind, va_recv (q := (R_Mo, F_Mo, 87)) hK.1 hP (ci := 12) (q0 := 0) rfl rfl, pw_pre hPc hK hDc⟩ rfl rfl hl.1 rfl (lv_room (Nat.le_of_ble_eq_true rfl)) d_Mo_danger_1 ⟨(Nat.le_of_ble_eq_true rfl), (Nat.le_of_ble_eq_true rfl)⟩) hS (fun q _ h => hFc q h) hFc (fun u t H locs ht hvm hw hB hz1 hk1 hS => ?_)
  have hP := pu_kept hP hk1
  refine lv_aload_n hx hb d_Mo_danger_4 rfl (lv_at hl 0 rfl) ?_
  have hPc := hP.sub (ws' := [(oM, .inr (12, fm)), (am_floods, .inl (cJ, 16, .inr (.inl (fun _ => 0))))]) [0, 1] rfl
  have hDc := hD.sub (ws' := [(oM, .inr (12, fm)), (am_floods, .inl (cJ, 16, .inr (.inl (fun _ => 0))))]) [0, 1] (by decide) rfl
  have hFc := va_free (wc := [(oM, .inr (12, fm)), (am_floods, .inl (cJ, 16, .inr (.inl (fun _ => 0))))]) hD hS hA [0, 1] rfl
  refine va_calli (va_runV (C := R_Mo) (As := []) (rest := []) ⟨hx, hb, hml, hown, hts⟩ (c_Mo_isSafe l dC dI cI cB cZ cJ oM am_floods fm hm_things hm_pipes hm_floods H.size) (cwV 0 hts (tb_V mw_2373 mw_2375 sl_146 mw_18 mw_2376) rfl rfl rfl ⟨rfl, by decide +kernel, by decide +kernel, by decide +kernel⟩ ⟨(Nat.le_of_ble_eq_true rfl), (Nat.le_of_ble_eq_true rfl)⟩) ⟨pw_blind, va_recv (q := (R_Mo, F_Mo, 87)) hK.1 hP (ci := 12) (q0 := 0) rfl rfl, pw_pre hPc hK hDc⟩ rfl rfl hl.1 rfl (lv_room (Nat.le_of_ble_eq_true rfl)) d_Mo_danger_5 ⟨(Nat.le_of_ble_eq_true rfl), (Nat.le_of_ble_eq_true rfl)⟩) hS (fun q _ h => hFc q h) hFc (fun r u t H locs ht hvm hw hB hz1 hk1 hS => ?_)
  obtain ⟨hP, hD⟩ := va_join (wr := []) (w1 := []) hP hD [0, 1] [] rfl rfl (by decide) (by decide) hk1 hFc wn_P wn_D
  have hP : va_P (dC, dI) classes [] H := hP
  have hD : va_D A [] := hD
  obtain rfl : r = 1 := hw
  refine lv_if_eq (tgt := 21) hx hb d_Mo_danger_8 (by decide) (fun h => absurd h (by decide)) (fun _ => ?_)
  refine lv_iload_n hx hb d_Mo_danger_11 rfl (lv_at hl 1 rfl) ?_
  refine lv_if_ne (tgt := 19) hx hb d_Mo_danger_12 (by decide) (fun h12 => ?_) (fun h12 => ?_)
  · refine lv_iconst (v := (-1)) hx hb d_Mo_danger_19 (by decide) ?_
    exact W.iret (v := (-1)) hx hb hr (fun t ht hW => ⟨⟨_, (), rfl, (by unfold fn_Mo_danger; rw [if_neg h12]), trivial⟩, hS.F ht⟩) hS.2.2 d_Mo_danger_20
  · refine lv_iconst (v := 0) hx hb d_Mo_danger_15 (by decide) ?_
    refine lv_goto (tgt := 20) hx hb d_Mo_danger_16 (by decide) ?_
    exact W.iret (v := 0) hx hb hr (fun t ht hW => ⟨⟨_, (), rfl, (by unfold fn_Mo_danger; rw [if_pos h12]), trivial⟩, hS.F ht⟩) hS.2.2 d_Mo_danger_20
theorem d_Mo_closeAll_0 : decode b_Mo_closeAll 0 = .ok (.aload_n 0, 1) := by decide +kernel
theorem d_Mo_closeAll_1 : decode b_Mo_closeAll 1 = .ok (.getfield 284, 3) := by decide +kernel
theorem d_Mo_closeAll_4 : decode b_Mo_closeAll 4 = .ok (.ifCond .le 16, 3) := by decide +kernel
theorem d_Mo_closeAll_20 : decode b_Mo_closeAll 20 = .ok (.return_, 1) := by decide +kernel
set_option maxHeartbeats 4000000 in
set_option maxRecDepth 100000 in
theorem c_Mo_closeAll (l : Launch) (dC : Nat → ClassId) (dI : Nat → Nat → Nat) (cI cB cZ cJ : ClassId) (oM : Nat) (fm : List Value) (hm_ways : fm[26]? = some (.int 0)) (sz : Nat) : Met l y_Mo_closeAll w_Mo_closeAll ({ frames := 0, cells := 0, slots := 0, locals := 0 }) (va_Pc [.ref oM] (PW dC dI cI cB cZ cJ [(oM, .inr (12, fm))] sz)) (va_Qv (fun _ : Unit => True) (fun _ _ => True) (va_A [] sz)) 0 0 (va_A [] sz) := by
  refine Met.ofW (cc := b_Mo_closeAll) (maxL := 1) (ret := none) (by decide) rfl ?_
  intro p e s m args below meth c s₁ B hml hv
  obtain ⟨rfl, hsz, hP, hK, hD⟩ := hv
  have hx := B.exec
  have hb := B.bytes
  have hr := B.returns
  have hts := atoms_spec (ws := w_Mo_closeAll) B.pre
  have hown : s.vm.findClass R_Mo = some m.cls := findClass_of_methodNamed B.named
  have hlocks := B.notSynchronized
  subst hsz
  generalize hAe : va_A [] s.heap.size = A at ⊢
  have hA : ∀ q : Nat, s.heap.size ≤ q → A q := fun q h => by rw [← hAe]; exact Or.inr h
  have hS : va_S A s.heap s.heap [] := va_S.rf
  have hP : va_P (dC, dI) classes [(oM, .inr (12, fm))] s.heap := hP
  have hl := lv_entry ([.ref oM]) (n := 1) (Nat.le_of_ble_eq_true rfl)
  rw [lg_entry_eq]
  generalize (lg_sl ([.ref oM]) ++ List.replicate (1 - (lg_sl ([.ref oM])).length) Slot.unset).toArray = ls at hl ⊢
  have hl : lv_has ls 1 [(0, .ref oM)] := hl
  refine lv_aload_n hx hb d_Mo_closeAll_0 rfl (lv_at hl 0 rfl) ?_
  refine va_get (D := (dC, dI)) (ci := 12) (v := .int 0) (C := R_Mo) (T := F_Mo) (N := 87) hx hb hts (fun w h => List.mem_cons_of_mem _ (in_Mo w h)) hown hK.1 hP 0 rfl rfl 26 (by decide) (hts _ (List.mem_cons_of_mem _ mw_1812)) (fun _ h9 => h9) hm_ways d_Mo_closeAll_1 ?_
  refine lv_if_le (tgt := 20) hx hb d_Mo_closeAll_4 (by decide) (fun _ => ?_) (fun h => absurd (by decide) h)
  exact W.vret hx hb hr (fun t ht hW => ⟨⟨(), rfl, trivial, trivial⟩, hS.F ht⟩) hS.2.2 d_Mo_closeAll_20
theorem d_Mo_senseAll_0 : decode b_Mo_senseAll 0 = .ok (.iconst 0, 1) := by decide +kernel
theorem d_Mo_senseAll_1 : decode b_Mo_senseAll 1 = .ok (.istore_n 1, 1) := by decide +kernel
theorem d_Mo_senseAll_2 : decode b_Mo_senseAll 2 = .ok (.iload_n 1, 1) := by decide +kernel
theorem d_Mo_senseAll_3 : decode b_Mo_senseAll 3 = .ok (.aload_n 0, 1) := by decide +kernel
theorem d_Mo_senseAll_4 : decode b_Mo_senseAll 4 = .ok (.getfield 16, 3) := by decide +kernel
theorem d_Mo_senseAll_7 : decode b_Mo_senseAll 7 = .ok (.getfield 442, 3) := by decide +kernel
theorem d_Mo_senseAll_10 : decode b_Mo_senseAll 10 = .ok (.if_icmp .ge 51, 3) := by decide +kernel
theorem d_Mo_senseAll_61 : decode b_Mo_senseAll 61 = .ok (.iconst 0, 1) := by decide +kernel
theorem d_Mo_senseAll_62 : decode b_Mo_senseAll 62 = .ok (.istore_n 1, 1) := by decide +kernel
theorem d_Mo_senseAll_63 : decode b_Mo_senseAll 63 = .ok (.iload_n 1, 1) := by decide +kernel
theorem d_Mo_senseAll_64 : decode b_Mo_senseAll 64 = .ok (.bipush 16, 2) := by decide +kernel
theorem d_Mo_senseAll_66 : decode b_Mo_senseAll 66 = .ok (.if_icmp .ge 127, 3) := by decide +kernel
theorem d_Mo_senseAll_69 : decode b_Mo_senseAll 69 = .ok (.aload_n 0, 1) := by decide +kernel
theorem d_Mo_senseAll_70 : decode b_Mo_senseAll 70 = .ok (.getfield 150, 3) := by decide +kernel
theorem d_Mo_senseAll_73 : decode b_Mo_senseAll 73 = .ok (.iload_n 1, 1) := by decide +kernel
theorem d_Mo_senseAll_74 : decode b_Mo_senseAll 74 = .ok (.iaload, 1) := by decide +kernel
theorem d_Mo_senseAll_75 : decode b_Mo_senseAll 75 = .ok (.iconst (-1), 1) := by decide +kernel
theorem d_Mo_senseAll_76 : decode b_Mo_senseAll 76 = .ok (.if_icmp .eq 111, 3) := by decide +kernel
theorem d_Mo_senseAll_187 : decode b_Mo_senseAll 187 = .ok (.iinc 1 1, 3) := by decide +kernel
theorem d_Mo_senseAll_190 : decode b_Mo_senseAll 190 = .ok (.goto (-127), 3) := by decide +kernel
theorem d_Mo_senseAll_193 : decode b_Mo_senseAll 193 = .ok (.return_, 1) := by decide +kernel
set_option maxHeartbeats 4000000 in
set_option maxRecDepth 100000 in
theorem c_Mo_senseAll (l : Launch) (dC : Nat → ClassId) (dI : Nat → Nat → Nat) (cI cB cZ cJ : ClassId) (oM : Nat) (oT : Nat) (am_watchWhat : Nat) (fm : List Value) (hm_program : fm[2]? = some (.ref oT)) (hm_watchWhat : fm[55]? = some (.ref am_watchWhat)) (ft : List Value) (ht_nameCount : ft[32]? = some (.int 0)) (sz : Nat) : Met l y_Mo_senseAll w_Mo_senseAll ({ frames := 0, cells := 0, slots := 0, locals := 0 }) (va_Pc [.ref oM] (PW dC dI cI cB cZ cJ [(oM, .inr (12, fm)), (oT, .inr (13, ft)), (am_watchWhat, .inl (cI, 16, .inl ((fun _ => (-1)))))] sz)) (va_Qv (fun _ : Unit => True) (fun _ _ => True) (va_A [] sz)) 0 0 (va_A [] sz) := by
  refine Met.ofW (cc := b_Mo_senseAll) (maxL := 5) (ret := none) (by decide) rfl ?_
  intro p e s m args below meth c s₁ B hml hv
  obtain ⟨rfl, hsz, hP, hK, hD⟩ := hv
  have hx := B.exec
  have hb := B.bytes
  have hr := B.returns
  have hts := atoms_spec (ws := w_Mo_senseAll) B.pre
  have hown : s.vm.findClass R_Mo = some m.cls := findClass_of_methodNamed B.named
  have hlocks := B.notSynchronized
  subst hsz
  generalize hAe : va_A [] s.heap.size = A at ⊢
  have hA : ∀ q : Nat, s.heap.size ≤ q → A q := fun q h => by rw [← hAe]; exact Or.inr h
  have hS : va_S A s.heap s.heap [] := va_S.rf
  have hP : va_P (dC, dI) classes [(oM, .inr (12, fm)), (oT, .inr (13, ft)), (am_watchWhat, .inl (cI, 16, .inl ((fun _ => (-1)))))] s.heap := hP
  have hl := lv_entry ([.ref oM]) (n := 5) (Nat.le_of_ble_eq_true rfl)
  rw [lg_entry_eq]
  generalize (lg_sl ([.ref oM]) ++ List.replicate (5 - (lg_sl ([.ref oM])).length) Slot.unset).toArray = ls at hl ⊢
  have hl : lv_has ls 5 [(0, .ref oM)] := hl
  refine lv_iconst (v := 0) hx hb d_Mo_senseAll_0 (by decide) ?_
  refine lv_istore_n hx hb d_Mo_senseAll_1 rfl hl (by decide) rfl (fun ls hl => ?_)
  have hl : lv_has ls 5 [(1, .int 0), (0, .ref oM)] := hl
  refine lv_iload_n hx hb d_Mo_senseAll_2 rfl (lv_at hl 0 rfl) ?_
  refine lv_aload_n hx hb d_Mo_senseAll_3 rfl (lv_at hl 1 rfl) ?_
  refine va_get (D := (dC, dI)) (ci := 12) (v := .ref oT) (C := R_Mo) (T := F_Mo) (N := 87) hx hb hts (fun w h => List.mem_cons_of_mem _ (in_Mo w h)) hown hK.1 hP 0 rfl rfl 2 (by decide) (hts _ (List.mem_cons_of_mem _ mw_1788)) (fun _ h9 => h9) hm_program d_Mo_senseAll_4 ?_
  refine va_getN (D := (dC, dI)) (ci := 13) (v := .int 0) (C := R_Tx) (T := F_Tx) (N := 39) hx hb hts (fun w h => List.mem_cons_of_mem _ (in_Tx w h)) hown hK.1 hP 1 rfl rfl 32 (by decide) (va_Nw.use rfl (hK.2 _ nw_1612)) (fun _ h9 => h9) ht_nameCount d_Mo_senseAll_7 ?_
  refine lv_icmp_ge (tgt := 61) hx hb d_Mo_senseAll_10 (by decide) (fun _ => ?_) (fun h => absurd (by decide) h)
  refine lv_iconst (v := 0) hx hb d_Mo_senseAll_61 (by decide) ?_
  refine lv_istore_n hx hb d_Mo_senseAll_62 rfl hl (by decide) rfl (fun ls hl => ?_)
  have hl : lv_has ls 5 [(1, .int 0), (0, .ref oM)] := hl
  refine lv_iload_n hx hb d_Mo_senseAll_63 rfl (lv_at hl 0 rfl) ?_
  refine lv_bipush (v := 16) hx hb d_Mo_senseAll_64 (by decide) ?_
  refine lv_icmp_ge (tgt := 193) hx hb d_Mo_senseAll_66 (by decide) (fun h => absurd h (by decide)) (fun _ => ?_)
  refine lv_aload_n hx hb d_Mo_senseAll_69 rfl (lv_at hl 1 rfl) ?_
  refine va_get (D := (dC, dI)) (ci := 12) (v := .ref am_watchWhat) (C := R_Mo) (T := F_Mo) (N := 87) hx hb hts (fun w h => List.mem_cons_of_mem _ (in_Mo w h)) hown hK.1 hP 0 rfl rfl 55 (by decide) (hts _ (List.mem_cons_of_mem _ mw_1841)) (fun _ h9 => h9) hm_watchWhat d_Mo_senseAll_70 ?_
  refine lv_iload_n hx hb d_Mo_senseAll_73 rfl (lv_at hl 0 rfl) ?_
  refine va_iald hx hb hK.1 hP 2 0 rfl rfl (vp_in_iff.mpr (by decide)) d_Mo_senseAll_74 ?_
  refine lv_iconst (v := (-1)) hx hb d_Mo_senseAll_75 (by decide) ?_
  refine lv_icmp_eq (tgt := 187) hx hb d_Mo_senseAll_76 (by decide) (fun _ => ?_) (fun h => absurd (by decide) h)
  refine lv_iinc (k := 0) (v := 1) hx hb d_Mo_senseAll_187 hl rfl (by first | rfl | decide | exact nI_1 i) (by decide) rfl (fun ls hl => ?_)
  have hl : lv_has ls 5 [(1, .int 1), (0, .ref oM)] := hl
  refine lv_goto (tgt := 63) hx hb d_Mo_senseAll_190 (by decide) ?_
  refine lv_iload_n hx hb d_Mo_senseAll_63 rfl (lv_at hl 0 rfl) ?_
  refine lv_bipush (v := 16) hx hb d_Mo_senseAll_64 (by decide) ?_
  refine lv_icmp_ge (tgt := 193) hx hb d_Mo_senseAll_66 (by decide) (fun h => absurd h (by decide)) (fun _ => ?_)
  refine lv_aload_n hx hb d_Mo_senseAll_69 rfl (lv_at hl 1 rfl) ?_
  refine va_get (D := (dC, dI)) (ci := 12) (v := .ref am_watchWhat) (C := R_Mo) (T := F_Mo) (N := 87) hx hb hts (fun w h => List.mem_cons_of_mem _ (in_Mo w h)) hown hK.1 hP 0 rfl rfl 55 (by decide) (hts _ (List.mem_cons_of_mem _ mw_1841)) (fun _ h9 => h9) hm_watchWhat d_Mo_senseAll_70 ?_
  refine lv_iload_n hx hb d_Mo_senseAll_73 rfl (lv_at hl 0 rfl) ?_
  refine va_iald hx hb hK.1 hP 2 0 rfl rfl (vp_in_iff.mpr (by decide)) d_Mo_senseAll_74 ?_
  refine lv_iconst (v := (-1)) hx hb d_Mo_senseAll_75 (by decide) ?_
  refine lv_icmp_eq (tgt := 187) hx hb d_Mo_senseAll_76 (by decide) (fun _ => ?_) (fun h => absurd (by decide) h)
  refine lv_iinc (k := 0) (v := 2) hx hb d_Mo_senseAll_187 hl rfl (by first | rfl | decide | exact nI_1 i) (by decide) rfl (fun ls hl => ?_)
  have hl : lv_has ls 5 [(1, .int 2), (0, .ref oM)] := hl
  refine lv_goto (tgt := 63) hx hb d_Mo_senseAll_190 (by decide) ?_
  refine lv_iload_n hx hb d_Mo_senseAll_63 rfl (lv_at hl 0 rfl) ?_
  refine lv_bipush (v := 16) hx hb d_Mo_senseAll_64 (by decide) ?_
  refine lv_icmp_ge (tgt := 193) hx hb d_Mo_senseAll_66 (by decide) (fun h => absurd h (by decide)) (fun _ => ?_)
  refine lv_aload_n hx hb d_Mo_senseAll_69 rfl (lv_at hl 1 rfl) ?_
  refine va_get (D := (dC, dI)) (ci := 12) (v := .ref am_watchWhat) (C := R_Mo) (T := F_Mo) (N := 87) hx hb hts (fun w h => List.mem_cons_of_mem _ (in_Mo w h)) hown hK.1 hP 0 rfl rfl 55 (by decide) (hts _ (List.mem_cons_of_mem _ mw_1841)) (fun _ h9 => h9) hm_watchWhat d_Mo_senseAll_70 ?_
  refine lv_iload_n hx hb d_Mo_senseAll_73 rfl (lv_at hl 0 rfl) ?_
  refine va_iald hx hb hK.1 hP 2 0 rfl rfl (vp_in_iff.mpr (by decide)) d_Mo_senseAll_74 ?_
  refine lv_iconst (v := (-1)) hx hb d_Mo_senseAll_75 (by decide) ?_
  refine lv_icmp_eq (tgt := 187) hx hb d_Mo_senseAll_76 (by decide) (fun _ => ?_) (fun h => absurd (by decide) h)
  refine lv_iinc (k := 0) (v := 3) hx hb d_Mo_senseAll_187 hl rfl (by first | rfl | decide | exact nI_1 i) (by decide) rfl (fun ls hl => ?_)
  have hl : lv_has ls 5 [(1, .int 3), (0, .ref oM)] := hl
  refine lv_goto (tgt := 63) hx hb d_Mo_senseAll_190 (by decide) ?_
  refine lv_iload_n hx hb d_Mo_senseAll_63 rfl (lv_at hl 0 rfl) ?_
  refine lv_bipush (v := 16) hx hb d_Mo_senseAll_64 (by decide) ?_
  refine lv_icmp_ge (tgt := 193) hx hb d_Mo_senseAll_66 (by decide) (fun h => absurd h (by decide)) (fun _ => ?_)
  refine lv_aload_n hx hb d_Mo_senseAll_69 rfl (lv_at hl 1 rfl) ?_
  refine va_get (D := (dC, dI)) (ci := 12) (v := .ref am_watchWhat) (C := R_Mo) (T := F_Mo) (N := 87) hx hb hts (fun w h => List.mem_cons_of_mem _ (in_Mo w h)) hown hK.1 hP 0 rfl rfl 55 (by decide) (hts _ (List.mem_cons_of_mem _ mw_1841)) (fun _ h9 => h9) hm_watchWhat d_Mo_senseAll_70 ?_
  refine lv_iload_n hx hb d_Mo_senseAll_73 rfl (lv_at hl 0 rfl) ?_
  refine va_iald hx hb hK.1 hP 2 0 rfl rfl (vp_in_iff.mpr (by decide)) d_Mo_senseAll_74 ?_
  refine lv_iconst (v := (-1)) hx hb d_Mo_senseAll_75 (by decide) ?_
  refine lv_icmp_eq (tgt := 187) hx hb d_Mo_senseAll_76 (by decide) (fun _ => ?_) (fun h => absurd (by decide) h)
  refine lv_iinc (k := 0) (v := 4) hx hb d_Mo_senseAll_187 hl rfl (by first | rfl | decide | exact nI_1 i) (by decide) rfl (fun ls hl => ?_)
  have hl : lv_has ls 5 [(1, .int 4), (0, .ref oM)] := hl
  refine lv_goto (tgt := 63) hx hb d_Mo_senseAll_190 (by decide) ?_
  refine lv_iload_n hx hb d_Mo_senseAll_63 rfl (lv_at hl 0 rfl) ?_
  refine lv_bipush (v := 16) hx hb d_Mo_senseAll_64 (by decide) ?_
  refine lv_icmp_ge (tgt := 193) hx hb d_Mo_senseAll_66 (by decide) (fun h => absurd h (by decide)) (fun _ => ?_)
  refine lv_aload_n hx hb d_Mo_senseAll_69 rfl (lv_at hl 1 rfl) ?_
  refine va_get (D := (dC, dI)) (ci := 12) (v := .ref am_watchWhat) (C := R_Mo) (T := F_Mo) (N := 87) hx hb hts (fun w h => List.mem_cons_of_mem _ (in_Mo w h)) hown hK.1 hP 0 rfl rfl 55 (by decide) (hts _ (List.mem_cons_of_mem _ mw_1841)) (fun _ h9 => h9) hm_watchWhat d_Mo_senseAll_70 ?_
  refine lv_iload_n hx hb d_Mo_senseAll_73 rfl (lv_at hl 0 rfl) ?_
  refine va_iald hx hb hK.1 hP 2 0 rfl rfl (vp_in_iff.mpr (by decide)) d_Mo_senseAll_74 ?_
  refine lv_iconst (v := (-1)) hx hb d_Mo_senseAll_75 (by decide) ?_
  refine lv_icmp_eq (tgt := 187) hx hb d_Mo_senseAll_76 (by decide) (fun _ => ?_) (fun h => absurd (by decide) h)
  refine lv_iinc (k := 0) (v := 5) hx hb d_Mo_senseAll_187 hl rfl (by first | rfl | decide | exact nI_1 i) (by decide) rfl (fun ls hl => ?_)
  have hl : lv_has ls 5 [(1, .int 5), (0, .ref oM)] := hl
  refine lv_goto (tgt := 63) hx hb d_Mo_senseAll_190 (by decide) ?_
  refine lv_iload_n hx hb d_Mo_senseAll_63 rfl (lv_at hl 0 rfl) ?_
  refine lv_bipush (v := 16) hx hb d_Mo_senseAll_64 (by decide) ?_
  refine lv_icmp_ge (tgt := 193) hx hb d_Mo_senseAll_66 (by decide) (fun h => absurd h (by decide)) (fun _ => ?_)
  refine lv_aload_n hx hb d_Mo_senseAll_69 rfl (lv_at hl 1 rfl) ?_
  refine va_get (D := (dC, dI)) (ci := 12) (v := .ref am_watchWhat) (C := R_Mo) (T := F_Mo) (N := 87) hx hb hts (fun w h => List.mem_cons_of_mem _ (in_Mo w h)) hown hK.1 hP 0 rfl rfl 55 (by decide) (hts _ (List.mem_cons_of_mem _ mw_1841)) (fun _ h9 => h9) hm_watchWhat d_Mo_senseAll_70 ?_
  refine lv_iload_n hx hb d_Mo_senseAll_73 rfl (lv_at hl 0 rfl) ?_
  refine va_iald hx hb hK.1 hP 2 0 rfl rfl (vp_in_iff.mpr (by decide)) d_Mo_senseAll_74 ?_
  refine lv_iconst (v := (-1)) hx hb d_Mo_senseAll_75 (by decide) ?_
  refine lv_icmp_eq (tgt := 187) hx hb d_Mo_senseAll_76 (by decide) (fun _ => ?_) (fun h => absurd (by decide) h)
  refine lv_iinc (k := 0) (v := 6) hx hb d_Mo_senseAll_187 hl rfl (by first | rfl | decide | exact nI_1 i) (by decide) rfl (fun ls hl => ?_)
  have hl : lv_has ls 5 [(1, .int 6), (0, .ref oM)] := hl
  refine lv_goto (tgt := 63) hx hb d_Mo_senseAll_190 (by decide) ?_
  refine lv_iload_n hx hb d_Mo_senseAll_63 rfl (lv_at hl 0 rfl) ?_
  refine lv_bipush (v := 16) hx hb d_Mo_senseAll_64 (by decide) ?_
  refine lv_icmp_ge (tgt := 193) hx hb d_Mo_senseAll_66 (by decide) (fun h => absurd h (by decide)) (fun _ => ?_)
  refine lv_aload_n hx hb d_Mo_senseAll_69 rfl (lv_at hl 1 rfl) ?_
  refine va_get (D := (dC, dI)) (ci := 12) (v := .ref am_watchWhat) (C := R_Mo) (T := F_Mo) (N := 87) hx hb hts (fun w h => List.mem_cons_of_mem _ (in_Mo w h)) hown hK.1 hP 0 rfl rfl 55 (by decide) (hts _ (List.mem_cons_of_mem _ mw_1841)) (fun _ h9 => h9) hm_watchWhat d_Mo_senseAll_70 ?_
  refine lv_iload_n hx hb d_Mo_senseAll_73 rfl (lv_at hl 0 rfl) ?_
  refine va_iald hx hb hK.1 hP 2 0 rfl rfl (vp_in_iff.mpr (by decide)) d_Mo_senseAll_74 ?_
  refine lv_iconst (v := (-1)) hx hb d_Mo_senseAll_75 (by decide) ?_
  refine lv_icmp_eq (tgt := 187) hx hb d_Mo_senseAll_76 (by decide) (fun _ => ?_) (fun h => absurd (by decide) h)
  refine lv_iinc (k := 0) (v := 7) hx hb d_Mo_senseAll_187 hl rfl (by first | rfl | decide | exact nI_1 i) (by decide) rfl (fun ls hl => ?_)
  have hl : lv_has ls 5 [(1, .int 7), (0, .ref oM)] := hl
  refine lv_goto (tgt := 63) hx hb d_Mo_senseAll_190 (by decide) ?_
  refine lv_iload_n hx hb d_Mo_senseAll_63 rfl (lv_at hl 0 rfl) ?_
  refine lv_bipush (v := 16) hx hb d_Mo_senseAll_64 (by decide) ?_
  refine lv_icmp_ge (tgt := 193) hx hb d_Mo_senseAll_66 (by decide) (fun h => absurd h (by decide)) (fun _ => ?_)
  refine lv_aload_n hx hb d_Mo_senseAll_69 rfl (lv_at hl 1 rfl) ?_
  refine va_get (D := (dC, dI)) (ci := 12) (v := .ref am_watchWhat) (C := R_Mo) (T := F_Mo) (N := 87) hx hb hts (fun w h => List.mem_cons_of_mem _ (in_Mo w h)) hown hK.1 hP 0 rfl rfl 55 (by decide) (hts _ (List.mem_cons_of_mem _ mw_1841)) (fun _ h9 => h9) hm_watchWhat d_Mo_senseAll_70 ?_
  refine lv_iload_n hx hb d_Mo_senseAll_73 rfl (lv_at hl 0 rfl) ?_
  refine va_iald hx hb hK.1 hP 2 0 rfl rfl (vp_in_iff.mpr (by decide)) d_Mo_senseAll_74 ?_
  refine lv_iconst (v := (-1)) hx hb d_Mo_senseAll_75 (by decide) ?_
  refine lv_icmp_eq (tgt := 187) hx hb d_Mo_senseAll_76 (by decide) (fun _ => ?_) (fun h => absurd (by decide) h)
  refine lv_iinc (k := 0) (v := 8) hx hb d_Mo_senseAll_187 hl rfl (by first | rfl | decide | exact nI_1 i) (by decide) rfl (fun ls hl => ?_)
  have hl : lv_has ls 5 [(1, .int 8), (0, .ref oM)] := hl
  refine lv_goto (tgt := 63) hx hb d_Mo_senseAll_190 (by decide) ?_
  refine lv_iload_n hx hb d_Mo_senseAll_63 rfl (lv_at hl 0 rfl) ?_
  refine lv_bipush (v := 16) hx hb d_Mo_senseAll_64 (by decide) ?_
  refine lv_icmp_ge (tgt := 193) hx hb d_Mo_senseAll_66 (by decide) (fun h => absurd h (by decide)) (fun _ => ?_)
  refine lv_aload_n hx hb d_Mo_senseAll_69 rfl (lv_at hl 1 rfl) ?_
  refine va_get (D := (dC, dI)) (ci := 12) (v := .ref am_watchWhat) (C := R_Mo) (T := F_Mo) (N := 87) hx hb hts (fun w h => List.mem_cons_of_mem _ (in_Mo w h)) hown hK.1 hP 0 rfl rfl 55 (by decide) (hts _ (List.mem_cons_of_mem _ mw_1841)) (fun _ h9 => h9) hm_watchWhat d_Mo_senseAll_70 ?_
  refine lv_iload_n hx hb d_Mo_senseAll_73 rfl (lv_at hl 0 rfl) ?_
  refine va_iald hx hb hK.1 hP 2 0 rfl rfl (vp_in_iff.mpr (by decide)) d_Mo_senseAll_74 ?_
  refine lv_iconst (v := (-1)) hx hb d_Mo_senseAll_75 (by decide) ?_
  refine lv_icmp_eq (tgt := 187) hx hb d_Mo_senseAll_76 (by decide) (fun _ => ?_) (fun h => absurd (by decide) h)
  refine lv_iinc (k := 0) (v := 9) hx hb d_Mo_senseAll_187 hl rfl (by first | rfl | decide | exact nI_1 i) (by decide) rfl (fun ls hl => ?_)
  have hl : lv_has ls 5 [(1, .int 9), (0, .ref oM)] := hl
  refine lv_goto (tgt := 63) hx hb d_Mo_senseAll_190 (by decide) ?_
  refine lv_iload_n hx hb d_Mo_senseAll_63 rfl (lv_at hl 0 rfl) ?_
  refine lv_bipush (v := 16) hx hb d_Mo_senseAll_64 (by decide) ?_
  refine lv_icmp_ge (tgt := 193) hx hb d_Mo_senseAll_66 (by decide) (fun h => absurd h (by decide)) (fun _ => ?_)
  refine lv_aload_n hx hb d_Mo_senseAll_69 rfl (lv_at hl 1 rfl) ?_
  refine va_get (D := (dC, dI)) (ci := 12) (v := .ref am_watchWhat) (C := R_Mo) (T := F_Mo) (N := 87) hx hb hts (fun w h => List.mem_cons_of_mem _ (in_Mo w h)) hown hK.1 hP 0 rfl rfl 55 (by decide) (hts _ (List.mem_cons_of_mem _ mw_1841)) (fun _ h9 => h9) hm_watchWhat d_Mo_senseAll_70 ?_
  refine lv_iload_n hx hb d_Mo_senseAll_73 rfl (lv_at hl 0 rfl) ?_
  refine va_iald hx hb hK.1 hP 2 0 rfl rfl (vp_in_iff.mpr (by decide)) d_Mo_senseAll_74 ?_
  refine lv_iconst (v := (-1)) hx hb d_Mo_senseAll_75 (by decide) ?_
  refine lv_icmp_eq (tgt := 187) hx hb d_Mo_senseAll_76 (by decide) (fun _ => ?_) (fun h => absurd (by decide) h)
  refine lv_iinc (k := 0) (v := 10) hx hb d_Mo_senseAll_187 hl rfl (by first | rfl | decide | exact nI_1 i) (by decide) rfl (fun ls hl => ?_)
  have hl : lv_has ls 5 [(1, .int 10), (0, .ref oM)] := hl
  refine lv_goto (tgt := 63) hx hb d_Mo_senseAll_190 (by decide) ?_
  refine lv_iload_n hx hb d_Mo_senseAll_63 rfl (lv_at hl 0 rfl) ?_
  refine lv_bipush (v := 16) hx hb d_Mo_senseAll_64 (by decide) ?_
  refine lv_icmp_ge (tgt := 193) hx hb d_Mo_senseAll_66 (by decide) (fun h => absurd h (by decide)) (fun _ => ?_)
  refine lv_aload_n hx hb d_Mo_senseAll_69 rfl (lv_at hl 1 rfl) ?_
  refine va_get (D := (dC, dI)) (ci := 12) (v := .ref am_watchWhat) (C := R_Mo) (T := F_Mo) (N := 87) hx hb hts (fun w h => List.mem_cons_of_mem _ (in_Mo w h)) hown hK.1 hP 0 rfl rfl 55 (by decide) (hts _ (List.mem_cons_of_mem _ mw_1841)) (fun _ h9 => h9) hm_watchWhat d_Mo_senseAll_70 ?_
  refine lv_iload_n hx hb d_Mo_senseAll_73 rfl (lv_at hl 0 rfl) ?_
  refine va_iald hx hb hK.1 hP 2 0 rfl rfl (vp_in_iff.mpr (by decide)) d_Mo_senseAll_74 ?_
  refine lv_iconst (v := (-1)) hx hb d_Mo_senseAll_75 (by decide) ?_
  refine lv_icmp_eq (tgt := 187) hx hb d_Mo_senseAll_76 (by decide) (fun _ => ?_) (fun h => absurd (by decide) h)
  refine lv_iinc (k := 0) (v := 11) hx hb d_Mo_senseAll_187 hl rfl (by first | rfl | decide | exact nI_1 i) (by decide) rfl (fun ls hl => ?_)
  have hl : lv_has ls 5 [(1, .int 11), (0, .ref oM)] := hl
  refine lv_goto (tgt := 63) hx hb d_Mo_senseAll_190 (by decide) ?_
  refine lv_iload_n hx hb d_Mo_senseAll_63 rfl (lv_at hl 0 rfl) ?_
  refine lv_bipush (v := 16) hx hb d_Mo_senseAll_64 (by decide) ?_
  refine lv_icmp_ge (tgt := 193) hx hb d_Mo_senseAll_66 (by decide) (fun h => absurd h (by decide)) (fun _ => ?_)
  refine lv_aload_n hx hb d_Mo_senseAll_69 rfl (lv_at hl 1 rfl) ?_
  refine va_get (D := (dC, dI)) (ci := 12) (v := .ref am_watchWhat) (C := R_Mo) (T := F_Mo) (N := 87) hx hb hts (fun w h => List.mem_cons_of_mem _ (in_Mo w h)) hown hK.1 hP 0 rfl rfl 55 (by decide) (hts _ (List.mem_cons_of_mem _ mw_1841)) (fun _ h9 => h9) hm_watchWhat d_Mo_senseAll_70 ?_
  refine lv_iload_n hx hb d_Mo_senseAll_73 rfl (lv_at hl 0 rfl) ?_
  refine va_iald hx hb hK.1 hP 2 0 rfl rfl (vp_in_iff.mpr (by decide)) d_Mo_senseAll_74 ?_
  refine lv_iconst (v := (-1)) hx hb d_Mo_senseAll_75 (by decide) ?_
  refine lv_icmp_eq (tgt := 187) hx hb d_Mo_senseAll_76 (by decide) (fun _ => ?_) (fun h => absurd (by decide) h)
  refine lv_iinc (k := 0) (v := 12) hx hb d_Mo_senseAll_187 hl rfl (by first | rfl | decide | exact nI_1 i) (by decide) rfl (fun ls hl => ?_)
  have hl : lv_has ls 5 [(1, .int 12), (0, .ref oM)] := hl
  refine lv_goto (tgt := 63) hx hb d_Mo_senseAll_190 (by decide) ?_
  refine lv_iload_n hx hb d_Mo_senseAll_63 rfl (lv_at hl 0 rfl) ?_
  refine lv_bipush (v := 16) hx hb d_Mo_senseAll_64 (by decide) ?_
  refine lv_icmp_ge (tgt := 193) hx hb d_Mo_senseAll_66 (by decide) (fun h => absurd h (by decide)) (fun _ => ?_)
  refine lv_aload_n hx hb d_Mo_senseAll_69 rfl (lv_at hl 1 rfl) ?_
  refine va_get (D := (dC, dI)) (ci := 12) (v := .ref am_watchWhat) (C := R_Mo) (T := F_Mo) (N := 87) hx hb hts (fun w h => List.mem_cons_of_mem _ (in_Mo w h)) hown hK.1 hP 0 rfl rfl 55 (by decide) (hts _ (List.mem_cons_of_mem _ mw_1841)) (fun _ h9 => h9) hm_watchWhat d_Mo_senseAll_70 ?_
  refine lv_iload_n hx hb d_Mo_senseAll_73 rfl (lv_at hl 0 rfl) ?_
  refine va_iald hx hb hK.1 hP 2 0 rfl rfl (vp_in_iff.mpr (by decide)) d_Mo_senseAll_74 ?_
  refine lv_iconst (v := (-1)) hx hb d_Mo_senseAll_75 (by decide) ?_
  refine lv_icmp_eq (tgt := 187) hx hb d_Mo_senseAll_76 (by decide) (fun _ => ?_) (fun h => absurd (by decide) h)
  refine lv_iinc (k := 0) (v := 13) hx hb d_Mo_senseAll_187 hl rfl (by first | rfl | decide | exact nI_1 i) (by decide) rfl (fun ls hl => ?_)
  have hl : lv_has ls 5 [(1, .int 13), (0, .ref oM)] := hl
  refine lv_goto (tgt := 63) hx hb d_Mo_senseAll_190 (by decide) ?_
  refine lv_iload_n hx hb d_Mo_senseAll_63 rfl (lv_at hl 0 rfl) ?_
  refine lv_bipush (v := 16) hx hb d_Mo_senseAll_64 (by decide) ?_
  refine lv_icmp_ge (tgt := 193) hx hb d_Mo_senseAll_66 (by decide) (fun h => absurd h (by decide)) (fun _ => ?_)
  refine lv_aload_n hx hb d_Mo_senseAll_69 rfl (lv_at hl 1 rfl) ?_
  refine va_get (D := (dC, dI)) (ci := 12) (v := .ref am_watchWhat) (C := R_Mo) (T := F_Mo) (N := 87) hx hb hts (fun w h => List.mem_cons_of_mem _ (in_Mo w h)) hown hK.1 hP 0 rfl rfl 55 (by decide) (hts _ (List.mem_cons_of_mem _ mw_1841)) (fun _ h9 => h9) hm_watchWhat d_Mo_senseAll_70 ?_
  refine lv_iload_n hx hb d_Mo_senseAll_73 rfl (lv_at hl 0 rfl) ?_
  refine va_iald hx hb hK.1 hP 2 0 rfl rfl (vp_in_iff.mpr (by decide)) d_Mo_senseAll_74 ?_
  refine lv_iconst (v := (-1)) hx hb d_Mo_senseAll_75 (by decide) ?_
  refine lv_icmp_eq (tgt := 187) hx hb d_Mo_senseAll_76 (by decide) (fun _ => ?_) (fun h => absurd (by decide) h)
  refine lv_iinc (k := 0) (v := 14) hx hb d_Mo_senseAll_187 hl rfl (by first | rfl | decide | exact nI_1 i) (by decide) rfl (fun ls hl => ?_)
  have hl : lv_has ls 5 [(1, .int 14), (0, .ref oM)] := hl
  refine lv_goto (tgt := 63) hx hb d_Mo_senseAll_190 (by decide) ?_
  refine lv_iload_n hx hb d_Mo_senseAll_63 rfl (lv_at hl 0 rfl) ?_
  refine lv_bipush (v := 16) hx hb d_Mo_senseAll_64 (by decide) ?_
  refine lv_icmp_ge (tgt := 193) hx hb d_Mo_senseAll_66 (by decide) (fun h => absurd h (by decide)) (fun _ => ?_)
  refine lv_aload_n hx hb d_Mo_senseAll_69 rfl (lv_at hl 1 rfl) ?_
  refine va_get (D := (dC, dI)) (ci := 12) (v := .ref am_watchWhat) (C := R_Mo) (T := F_Mo) (N := 87) hx hb hts (fun w h => List.mem_cons_of_mem _ (in_Mo w h)) hown hK.1 hP 0 rfl rfl 55 (by decide) (hts _ (List.mem_cons_of_mem _ mw_1841)) (fun _ h9 => h9) hm_watchWhat d_Mo_senseAll_70 ?_
  refine lv_iload_n hx hb d_Mo_senseAll_73 rfl (lv_at hl 0 rfl) ?_
  refine va_iald hx hb hK.1 hP 2 0 rfl rfl (vp_in_iff.mpr (by decide)) d_Mo_senseAll_74 ?_
  refine lv_iconst (v := (-1)) hx hb d_Mo_senseAll_75 (by decide) ?_
  refine lv_icmp_eq (tgt := 187) hx hb d_Mo_senseAll_76 (by decide) (fun _ => ?_) (fun h => absurd (by decide) h)
  refine lv_iinc (k := 0) (v := 15) hx hb d_Mo_senseAll_187 hl rfl (by first | rfl | decide | exact nI_1 i) (by decide) rfl (fun ls hl => ?_)
  have hl : lv_has ls 5 [(1, .int 15), (0, .ref oM)] := hl
  refine lv_goto (tgt := 63) hx hb d_Mo_senseAll_190 (by decide) ?_
  refine lv_iload_n hx hb d_Mo_senseAll_63 rfl (lv_at hl 0 rfl) ?_
  refine lv_bipush (v := 16) hx hb d_Mo_senseAll_64 (by decide) ?_
  refine lv_icmp_ge (tgt := 193) hx hb d_Mo_senseAll_66 (by decide) (fun h => absurd h (by decide)) (fun _ => ?_)
  refine lv_aload_n hx hb d_Mo_senseAll_69 rfl (lv_at hl 1 rfl) ?_
  refine va_get (D := (dC, dI)) (ci := 12) (v := .ref am_watchWhat) (C := R_Mo) (T := F_Mo) (N := 87) hx hb hts (fun w h => List.mem_cons_of_mem _ (in_Mo w h)) hown hK.1 hP 0 rfl rfl 55 (by decide) (hts _ (List.mem_cons_of_mem _ mw_1841)) (fun _ h9 => h9) hm_watchWhat d_Mo_senseAll_70 ?_
  refine lv_iload_n hx hb d_Mo_senseAll_73 rfl (lv_at hl 0 rfl) ?_
  refine va_iald hx hb hK.1 hP 2 0 rfl rfl (vp_in_iff.mpr (by decide)) d_Mo_senseAll_74 ?_
  refine lv_iconst (v := (-1)) hx hb d_Mo_senseAll_75 (by decide) ?_
  refine lv_icmp_eq (tgt := 187) hx hb d_Mo_senseAll_76 (by decide) (fun _ => ?_) (fun h => absurd (by decide) h)
  refine lv_iinc (k := 0) (v := 16) hx hb d_Mo_senseAll_187 hl rfl (by first | rfl | decide | exact nI_1 i) (by decide) rfl (fun ls hl => ?_)
  have hl : lv_has ls 5 [(1, .int 16), (0, .ref oM)] := hl
  refine lv_goto (tgt := 63) hx hb d_Mo_senseAll_190 (by decide) ?_
  refine lv_iload_n hx hb d_Mo_senseAll_63 rfl (lv_at hl 0 rfl) ?_
  refine lv_bipush (v := 16) hx hb d_Mo_senseAll_64 (by decide) ?_
  refine lv_icmp_ge (tgt := 193) hx hb d_Mo_senseAll_66 (by decide) (fun _ => ?_) (fun h => absurd (by decide) h)
  exact W.vret hx hb hr (fun t ht hW => ⟨⟨(), rfl, trivial, trivial⟩, hS.F ht⟩) hS.2.2 d_Mo_senseAll_193
theorem d_Mr_tick_0 : decode b_Mr_tick 0 = .ok (.iload_n 1, 1) := by decide +kernel
theorem d_Mr_tick_1 : decode b_Mr_tick 1 = .ok (.ifCond .lt 9, 3) := by decide +kernel
theorem d_Mr_tick_4 : decode b_Mr_tick 4 = .ok (.iload_n 1, 1) := by decide +kernel
theorem d_Mr_tick_5 : decode b_Mr_tick 5 = .ok (.ldc 142, 2) := by decide +kernel
theorem d_Mr_tick_7 : decode b_Mr_tick 7 = .ok (.if_icmp .le 5, 3) := by decide +kernel
theorem d_Mr_tick_12 : decode b_Mr_tick 12 = .ok (.iconst 0, 1) := by decide +kernel
theorem d_Mr_tick_13 : decode b_Mr_tick 13 = .ok (.istore_n 2, 1) := by decide +kernel
theorem d_Mr_tick_14 : decode b_Mr_tick 14 = .ok (.iload_n 2, 1) := by decide +kernel
theorem d_Mr_tick_15 : decode b_Mr_tick 15 = .ok (.aload_n 0, 1) := by decide +kernel
theorem d_Mr_tick_16 : decode b_Mr_tick 16 = .ok (.getfield 133, 3) := by decide +kernel
theorem d_Mr_tick_19 : decode b_Mr_tick 19 = .ok (.if_icmp .ge 145, 3) := by decide +kernel
theorem d_Mr_tick_164 : decode b_Mr_tick 164 = .ok (.iconst 1, 1) := by decide +kernel
theorem d_Mr_tick_165 : decode b_Mr_tick 165 = .ok (.ireturn, 1) := by decide +kernel
set_option maxHeartbeats 4000000 in
set_option maxRecDepth 100000 in
theorem c_Mr_tick (l : Launch) (dC : Nat → ClassId) (dI : Nat → Nat → Nat) (cI cB cZ cJ : ClassId) (oR : Nat) (fr : List Value) (hr_rows : fr[20]? = some (.int 0)) (sz : Nat) : Met l y_Mr_tick w_Mr_tick ({ frames := 0, cells := 0, slots := 0, locals := 0 }) (va_Pc [.ref oR, .int 1] (PW dC dI cI cB cZ cJ [(oR, .inr (14, fr))] sz)) (va_Qi (fun (r : Int32) (_ : Unit) => r = 1) (fun _ _ => True) (va_A [] sz)) 0 0 (va_A [] sz) := by
  refine Met.ofW (cc := b_Mr_tick) (maxL := 4) (ret := (some .boolean)) (by decide) rfl ?_
  intro p e s m args below meth c s₁ B hml hv
  obtain ⟨rfl, hsz, hP, hK, hD⟩ := hv
  have hx := B.exec
  have hb := B.bytes
  have hr := B.returns
  have hts := atoms_spec (ws := w_Mr_tick) B.pre
  have hown : s.vm.findClass R_Mr = some m.cls := findClass_of_methodNamed B.named
  have hlocks := B.notSynchronized
  subst hsz
  generalize hAe : va_A [] s.heap.size = A at ⊢
  have hA : ∀ q : Nat, s.heap.size ≤ q → A q := fun q h => by rw [← hAe]; exact Or.inr h
  have hS : va_S A s.heap s.heap [] := va_S.rf
  have hP : va_P (dC, dI) classes [(oR, .inr (14, fr))] s.heap := hP
  have hl := lv_entry ([.ref oR, .int 1]) (n := 4) (Nat.le_of_ble_eq_true rfl)
  rw [lg_entry_eq]
  generalize (lg_sl ([.ref oR, .int 1]) ++ List.replicate (4 - (lg_sl ([.ref oR, .int 1])).length) Slot.unset).toArray = ls at hl ⊢
  have hl : lv_has ls 4 [(0, .ref oR), (1, .int 1)] := hl
  refine lv_iload_n hx hb d_Mr_tick_0 rfl (lv_at hl 1 rfl) ?_
  refine lv_if_lt (tgt := 10) hx hb d_Mr_tick_1 (by decide) (fun h => absurd h (by decide)) (fun _ => ?_)
  refine lv_iload_n hx hb d_Mr_tick_4 rfl (lv_at hl 1 rfl) ?_
  refine lv_ldc (v := 100000) hx hb hown (hts _ (List.mem_cons_of_mem _ mw_2609)) d_Mr_tick_5 ?_
  refine lv_icmp_le (tgt := 12) hx hb d_Mr_tick_7 (by decide) (fun _ => ?_) (fun h => absurd (by decide) h)
  refine lv_iconst (v := 0) hx hb d_Mr_tick_12 (by decide) ?_
  refine lv_istore_n hx hb d_Mr_tick_13 rfl hl (by decide) rfl (fun ls hl => ?_)
  have hl : lv_has ls 4 [(2, .int 0), (0, .ref oR), (1, .int 1)] := hl
  refine lv_iload_n hx hb d_Mr_tick_14 rfl (lv_at hl 0 rfl) ?_
  refine lv_aload_n hx hb d_Mr_tick_15 rfl (lv_at hl 1 rfl) ?_
  refine va_get (D := (dC, dI)) (ci := 14) (v := .int 0) (C := R_Mr) (T := F_Mr) (N := 25) hx hb hts (fun w h => List.mem_cons_of_mem _ (in_Mr w h)) hown hK.1 hP 0 rfl rfl 20 (by decide) (hts _ (List.mem_cons_of_mem _ mw_1724)) (fun _ h9 => h9) hr_rows d_Mr_tick_16 ?_
  refine lv_icmp_ge (tgt := 164) hx hb d_Mr_tick_19 (by decide) (fun _ => ?_) (fun h => absurd (by decide) h)
  refine lv_iconst (v := 1) hx hb d_Mr_tick_164 (by decide) ?_
  exact W.zret (v := 1) (ty := .boolean) hx hb hr (by decide) (fun t ht hW => ⟨⟨_, (), rfl, (rfl), trivial⟩, hS.F ht⟩) hS.2.2 d_Mr_tick_165
end
section
section LP
variable {p : Program} {l : Launch} {e : Env} {R : Room} {s : State} {m : MethodId} {args : Array Value} {below : List Frame} {meth : Method} {c : Code} {cells slots : Nat} {Q : State → Prop}
/-- a loop: from i up to n, with what is so at its head -/
theorem lp_ind {σ : Type} (I : Nat → σ → Heap → List Loc → Array Slot → Prop) (pc n : Nat)
    (hs : ∀ (i : Nat) (x : σ) (H : Heap) (locs : List Loc) (ls : Array Slot), i < n → I i x H locs ls → (∀ (x' : σ) (H' : Heap) (locs' : List Loc) (ls' : Array Slot), I (i + 1) x' H' locs' ls' → W p l e R s m args below meth c H' locs' cells slots Q (F0 m pc ls' [])) → W p l e R s m args below meth c H locs cells slots Q (F0 m pc ls []))
    (hx : ∀ (x : σ) (H : Heap) (locs : List Loc) (ls : Array Slot), I n x H locs ls → W p l e R s m args below meth c H locs cells slots Q (F0 m pc ls [])) :
    ∀ (i : Nat) (x : σ) (H : Heap) (locs : List Loc) (ls : Array Slot), i ≤ n → I i x H locs ls → W p l e R s m args below meth c H locs cells slots Q (F0 m pc ls []) := by
  have key : ∀ (d i : Nat) (x : σ) (H : Heap) (locs : List Loc) (ls : Array Slot), i + d = n → I i x H locs ls → W p l e R s m args below meth c H locs cells slots Q (F0 m pc ls []) := by
    intro d
    induction d with
    | zero =>
      intro i x H locs ls h hI
      have : i = n := by omega
      subst this
      exact hx x H locs ls hI
    | succ d ih =>
      intro i x H locs ls h hI
      exact hs i x H locs ls (by omega) hI (fun x' H' locs' ls' hI' => ih (i + 1) x' H' locs' ls' (by omega) hI')
  intro i x H locs ls h hI
  exact key (n - i) i x H locs ls (by omega) hI
end LP
theorem ir_6 {x : Int32} (h0 : ¬ x < 0) (h1 : ¬ 43 < x) (k : Nat) (hk : k < 6) : vp_in (6 * x + nI k) 264 := by
  obtain ⟨i, hi, rfl⟩ := nI_of2 (M := 43) (n := 43) (by decide) h0 (Int32.not_lt.mp h1)
  have e : (6 : Int32) * nI i + nI k = nI (6 * i + k) := by
    rw [show (6 : Int32) = nI 6 from rfl, pk_mul, nI_add]
  rw [e]
  exact vp_in_nI (by omega) (by omega)
end
section
abbrev b_Mo_tick : ByteArray := prog_14_method_83_code
def y_Mo_tick : MethodName := ⟨R_Mo, "tick", "(I)I"⟩
abbrev w_Mo_tick : List Cond := .code y_Mo_tick b_Mo_tick 5 (some .int) :: lw_gd
abbrev b_Mo_feed : ByteArray := prog_14_method_2_code
def y_Mo_feed : MethodName := ⟨R_Mo, "feed", "(IIIII)I"⟩
abbrev w_Mo_feed : List Cond := .code y_Mo_feed b_Mo_feed 8 (some .int) :: lw_gd
theorem mw_1786 : (.fieldLink "BreweryHouseModel" 9 "BreweryHouseModel" "tape" "[B" : Cond) ∈ lw_gd := tb_mem (i := 1786) (by decide +kernel) (by decide +kernel)
theorem mw_1787 : (.fieldLink "BreweryHouseModel" 212 "BreweryHouseModel" "taped" "I" : Cond) ∈ lw_gd := tb_mem (i := 1787) (by decide +kernel) (by decide +kernel)
theorem mw_2595 : (.methodLink "BreweryHouseModel" 560 y_Mo_senseAll : Cond) ∈ lw_gd := tb_mem (i := 2595) (by decide +kernel) (by decide +kernel)
theorem mw_2597 : (.instanceMethod y_Mo_senseAll : Cond) ∈ lw_gd := tb_mem (i := 2597) (by decide +kernel) (by decide +kernel)
theorem mw_2598 : (.code y_Mo_senseAll b_Mo_senseAll 5 none : Cond) ∈ lw_gd := tb_mem (i := 2598) (by decide +kernel) (by decide +kernel)
theorem mw_2605 : (.methodLink "BreweryHouseModel" 563 y_Mr_tick : Cond) ∈ lw_gd := tb_mem (i := 2605) (by decide +kernel) (by decide +kernel)
theorem mw_2606 : (.instanceMethod y_Mr_tick : Cond) ∈ lw_gd := tb_mem (i := 2606) (by decide +kernel) (by decide +kernel)
theorem mw_2607 : (.selects "BreweryHouseModel$Rows" y_Mr_tick y_Mr_tick : Cond) ∈ lw_gd := tb_mem (i := 2607) (by decide +kernel) (by decide +kernel)
theorem mw_2608 : (.code y_Mr_tick b_Mr_tick 4 (some .boolean) : Cond) ∈ lw_gd := tb_mem (i := 2608) (by decide +kernel) (by decide +kernel)
theorem sl_178 : (.selects "BreweryHouseModel" y_Mo_senseAll y_Mo_senseAll : Cond) ∈ lw_gd := List.mem_filter.mpr ⟨List.mem_append_left _ (List.mem_of_getElem? (i := 178) (by decide +kernel)), by decide +kernel⟩
theorem d_Mo_tick_0 : decode b_Mo_tick 0 = .ok (.iload_n 1, 1) := by decide +kernel
theorem d_Mo_tick_1 : decode b_Mo_tick 1 = .ok (.ifCond .lt 10, 3) := by decide +kernel
theorem d_Mo_tick_4 : decode b_Mo_tick 4 = .ok (.iload_n 1, 1) := by decide +kernel
theorem d_Mo_tick_5 : decode b_Mo_tick 5 = .ok (.sipush 600, 3) := by decide +kernel
theorem d_Mo_tick_8 : decode b_Mo_tick 8 = .ok (.if_icmp .le 5, 3) := by decide +kernel
theorem d_Mo_tick_11 : decode b_Mo_tick 11 = .ok (.iconst (-1), 1) := by decide +kernel
theorem d_Mo_tick_12 : decode b_Mo_tick 12 = .ok (.ireturn, 1) := by decide +kernel
theorem d_Mo_tick_13 : decode b_Mo_tick 13 = .ok (.iconst 0, 1) := by decide +kernel
theorem d_Mo_tick_14 : decode b_Mo_tick 14 = .ok (.istore_n 2, 1) := by decide +kernel
theorem d_Mo_tick_15 : decode b_Mo_tick 15 = .ok (.iload_n 2, 1) := by decide +kernel
theorem d_Mo_tick_16 : decode b_Mo_tick 16 = .ok (.iload_n 1, 1) := by decide +kernel
theorem d_Mo_tick_17 : decode b_Mo_tick 17 = .ok (.if_icmp .ge 87, 3) := by decide +kernel
theorem d_Mo_tick_20 : decode b_Mo_tick 20 = .ok (.aload_n 0, 1) := by decide +kernel
theorem d_Mo_tick_21 : decode b_Mo_tick 21 = .ok (.invokevirtual 560, 3) := by decide +kernel
theorem d_Mo_tick_24 : decode b_Mo_tick 24 = .ok (.aload_n 0, 1) := by decide +kernel
theorem d_Mo_tick_25 : decode b_Mo_tick 25 = .ok (.getfield 23, 3) := by decide +kernel
theorem d_Mo_tick_28 : decode b_Mo_tick 28 = .ok (.iconst 1, 1) := by decide +kernel
theorem d_Mo_tick_29 : decode b_Mo_tick 29 = .ok (.invokevirtual 563, 3) := by decide +kernel
theorem d_Mo_tick_32 : decode b_Mo_tick 32 = .ok (.istore_n 3, 1) := by decide +kernel
theorem d_Mo_tick_33 : decode b_Mo_tick 33 = .ok (.aload_n 0, 1) := by decide +kernel
theorem d_Mo_tick_34 : decode b_Mo_tick 34 = .ok (.getfield 162, 3) := by decide +kernel
theorem d_Mo_tick_37 : decode b_Mo_tick 37 = .ok (.ifCond .ne 27, 3) := by decide +kernel
theorem d_Mo_tick_64 : decode b_Mo_tick 64 = .ok (.iconst 0, 1) := by decide +kernel
theorem d_Mo_tick_65 : decode b_Mo_tick 65 = .ok (.istore 4, 2) := by decide +kernel
theorem d_Mo_tick_67 : decode b_Mo_tick 67 = .ok (.iload 4, 2) := by decide +kernel
theorem d_Mo_tick_69 : decode b_Mo_tick 69 = .ok (.aload_n 0, 1) := by decide +kernel
theorem d_Mo_tick_70 : decode b_Mo_tick 70 = .ok (.getfield 284, 3) := by decide +kernel
theorem d_Mo_tick_73 : decode b_Mo_tick 73 = .ok (.if_icmp .ge 15, 3) := by decide +kernel
theorem d_Mo_tick_88 : decode b_Mo_tick 88 = .ok (.aload_n 0, 1) := by decide +kernel
theorem d_Mo_tick_89 : decode b_Mo_tick 89 = .ok (.dup, 1) := by decide +kernel
theorem d_Mo_tick_90 : decode b_Mo_tick 90 = .ok (.getfield 326, 3) := by decide +kernel
theorem d_Mo_tick_93 : decode b_Mo_tick 93 = .ok (.iconst 1, 1) := by decide +kernel
theorem d_Mo_tick_94 : decode b_Mo_tick 94 = .ok (.iadd, 1) := by decide +kernel
theorem d_Mo_tick_95 : decode b_Mo_tick 95 = .ok (.putfield 326, 3) := by decide +kernel
theorem d_Mo_tick_98 : decode b_Mo_tick 98 = .ok (.iinc 2 1, 3) := by decide +kernel
theorem d_Mo_tick_101 : decode b_Mo_tick 101 = .ok (.goto (-86), 3) := by decide +kernel
theorem d_Mo_tick_104 : decode b_Mo_tick 104 = .ok (.aload_n 0, 1) := by decide +kernel
theorem d_Mo_tick_105 : decode b_Mo_tick 105 = .ok (.getfield 162, 3) := by decide +kernel
theorem d_Mo_tick_108 : decode b_Mo_tick 108 = .ok (.ireturn, 1) := by decide +kernel
def fn_Mo_tick (se : Int32) : Int32 := (if se < 0 then (-1) else (if se ≤ 600 then 4 else (-1)))
set_option maxHeartbeats 4000000 in
set_option maxRecDepth 100000 in
theorem c_Mo_tick (l : Launch) (dC : Nat → ClassId) (dI : Nat → Nat → Nat) (cI cB cZ cJ : ClassId) (se : Int32) (oM : Nat) (oT : Nat) (am_watchWhat : Nat) (oR : Nat) (fm : List Value) (hm_program : fm[2]? = some (.ref oT)) (hm_interlocks : fm[3]? = some (.ref oR)) (hm_ways : fm[26]? = some (.int 0)) (hm_watchWhat : fm[55]? = some (.ref am_watchWhat)) (hm_state : fm[59]? = some (.int 4)) (hm_now : fm[78]? = some (.int 0)) (ft : List Value) (ht_nameCount : ft[32]? = some (.int 0)) (fr : List Value) (hr_rows : fr[20]? = some (.int 0)) (sz : Nat) : Met l y_Mo_tick w_Mo_tick ({ frames := 1, cells := 0, slots := 0, locals := 24 }) (va_Pc [.ref oM, .int se] (PW dC dI cI cB cZ cJ [(oM, .inr (12, fm)), (oT, .inr (13, ft)), (am_watchWhat, .inl (cI, 16, .inl ((fun _ => (-1))))), (oR, .inr (14, fr))] sz)) (va_Qi (fun (r : Int32) (_ : Unit) => r = fn_Mo_tick se) (fun _ _ => True) (va_A [(oM, .inr (12, fm)), (oT, .inr (13, ft)), (am_watchWhat, .inl (cI, 16, .inl ((fun _ => (-1))))), (oR, .inr (14, fr))] sz)) 0 0 (va_A [(oM, .inr (12, fm)), (oT, .inr (13, ft)), (am_watchWhat, .inl (cI, 16, .inl ((fun _ => (-1))))), (oR, .inr (14, fr))] sz) := by
  refine Met.ofW (cc := b_Mo_tick) (maxL := 5) (ret := (some .int)) (by decide) rfl ?_
  intro p e s m args below meth c s₁ B hml hv
  obtain ⟨rfl, hsz, hP, hK, hD⟩ := hv
  have hx := B.exec
  have hb := B.bytes
  have hr := B.returns
  have hts := atoms_spec (ws := w_Mo_tick) B.pre
  have hown : s.vm.findClass R_Mo = some m.cls := findClass_of_methodNamed B.named
  have hlocks := B.notSynchronized
  subst hsz
  have hD := hD.self (sz := s.heap.size)
  generalize hAe : va_A [(oM, .inr (12, fm)), (oT, .inr (13, ft)), (am_watchWhat, .inl (cI, 16, .inl ((fun _ => (-1))))), (oR, .inr (14, fr))] s.heap.size = A at hD ⊢
  have hA : ∀ q : Nat, s.heap.size ≤ q → A q := fun q h => by rw [← hAe]; exact Or.inr h
  have hS : va_S A s.heap s.heap [] := va_S.rf
  have hP : va_P (dC, dI) classes [(oM, .inr (12, fm)), (oT, .inr (13, ft)), (am_watchWhat, .inl (cI, 16, .inl ((fun _ => (-1))))), (oR, .inr (14, fr))] s.heap := hP
  have hl := lv_entry ([.ref oM, .int se]) (n := 5) (Nat.le_of_ble_eq_true rfl)
  rw [lg_entry_eq]
  generalize (lg_sl ([.ref oM, .int se]) ++ List.replicate (5 - (lg_sl ([.ref oM, .int se])).length) Slot.unset).toArray = ls at hl ⊢
  have hl : lv_has ls 5 [(0, .ref oM), (1, .int se)] := hl
  refine lv_iload_n hx hb d_Mo_tick_0 rfl (lv_at hl 1 rfl) ?_
  refine lv_if_lt (tgt := 11) hx hb d_Mo_tick_1 (by decide) (fun h1 => ?_) (fun h1 => ?_)
  · refine lv_iconst (v := (-1)) hx hb d_Mo_tick_11 (by decide) ?_
    exact W.iret (v := (-1)) hx hb hr (fun t ht hW => ⟨⟨_, (), rfl, (by unfold fn_Mo_tick; rw [if_pos h1]), trivial⟩, hS.F ht⟩) hS.2.2 d_Mo_tick_12
  · refine lv_iload_n hx hb d_Mo_tick_4 rfl (lv_at hl 1 rfl) ?_
    refine lv_sipush (v := 600) hx hb d_Mo_tick_5 (by decide) ?_
    refine lv_icmp_le (tgt := 13) hx hb d_Mo_tick_8 (by decide) (fun h8 => ?_) (fun h8 => ?_)
    · refine lv_iconst (v := 0) hx hb d_Mo_tick_13 (by decide) ?_
      refine lv_istore_n hx hb d_Mo_tick_14 rfl hl (by decide) rfl (fun ls hl => ?_)
      have hl : lv_has ls 5 [(2, .int 0), (0, .ref oM), (1, .int se)] := hl
      obtain ⟨n, hn, hse⟩ := nI_of2 (M := 600) (n := 600) (by decide) h1 (Int32.not_lt.mp (Int32.not_lt.mpr h8))
      have hl : lv_has ls 5 [(2, .int 0), (0, .ref oM), (1, .int (nI n))] := hse ▸ hl
      have hl : lv_has ls 5 [(2, .int (nI 0)), (0, .ref oM), (1, .int (nI n))] := lv_sub hl [0, 1, 2] rfl
      refine lp_ind (σ := List Value) (fun i xs H locs ls => xs[2]? = some (.ref oT) ∧ xs[3]? = some (.ref oR) ∧ xs[26]? = some (.int 0) ∧ xs[55]? = some (.ref am_watchWhat) ∧ xs[59]? = some (.int 4) ∧ (∃ v : Int32, xs[78]? = some (.int v)) ∧ va_P (dC, dI) classes [(oM, .inr (12, xs)), (oT, .inr (13, ft)), (am_watchWhat, .inl (cI, 16, .inl ((fun _ => (-1))))), (oR, .inr (14, fr))] H ∧ va_D A [(oM, .inr (12, xs)), (oT, .inr (13, ft)), (am_watchWhat, .inl (cI, 16, .inl ((fun _ => (-1))))), (oR, .inr (14, fr))] ∧ va_S A s.heap H locs ∧ lv_has ls 5 [(2, .int (nI i)), (0, .ref oM), (1, .int (nI n))]) 15 n ?_ ?_ 0 fm _ _ _ (Nat.zero_le _) ⟨hm_program, hm_interlocks, hm_ways, hm_watchWhat, hm_state, ⟨_, hm_now⟩, hP, hD, hS, hl⟩
      · intro i xs H locs ls hi hI hk
        obtain ⟨y_2, y_3, y_26, y_55, y_59, ⟨v_78, y_78⟩, hP, hD, hS, hl⟩ := hI
        refine lv_iload_n hx hb d_Mo_tick_15 rfl (lv_at hl 0 rfl) ?_
        refine lv_iload_n hx hb d_Mo_tick_16 rfl (lv_at hl 2 rfl) ?_
        refine lv_icmp_ge (tgt := 104) hx hb d_Mo_tick_17 (by decide) (fun h => absurd h (nI_ge hi (by omega))) (fun _ => ?_)
        refine lv_aload_n hx hb d_Mo_tick_20 rfl (lv_at hl 1 rfl) ?_
        have hPc := hP.sub (ws' := [(oM, .inr (12, xs)), (oT, .inr (13, ft)), (am_watchWhat, .inl (cI, 16, .inl ((fun _ => (-1)))))]) [0, 1, 2] rfl
        have hDc := hD.sub (ws' := [(oM, .inr (12, xs)), (oT, .inr (13, ft)), (am_watchWhat, .inl (cI, 16, .inl ((fun _ => (-1)))))]) [0, 1, 2] (by decide) rfl
        have hFc := pu_free hS hA
        refine va_callv (va_runV (C := R_Mo) (As := []) (rest := []) ⟨hx, hb, hml, hown, hts⟩ (c_Mo_senseAll l dC dI cI cB cZ cJ oM oT am_watchWhat xs y_2 y_55 ft ht_nameCount H.size) (cwV 0 hts (tb_V mw_2595 mw_2597 sl_178 mw_18 mw_2598) rfl rfl rfl ⟨rfl, by decide +kernel, by decide +kernel, by decide +kernel⟩ ⟨(Nat.le_of_ble_eq_true rfl), (Nat.le_of_ble_eq_true rfl)⟩) ⟨pw_blind, va_recv (q := (R_Mo, F_Mo, 87)) hK.1 hP (ci := 12) (q0 := 0) rfl rfl, pw_pre hPc hK hDc⟩ rfl rfl hl.1 rfl (lv_room (Nat.le_of_ble_eq_true rfl)) d_Mo_tick_21 ⟨(Nat.le_of_ble_eq_true rfl), (Nat.le_of_ble_eq_true rfl)⟩) hS (fun q _ h => hFc q h) hFc (fun u t H locs ht hvm hw hB hz1 hk1 hS => ?_)
        have hP := pu_kept hP hk1
        refine lv_aload_n hx hb d_Mo_tick_24 rfl (lv_at hl 1 rfl) ?_
        refine va_get (D := (dC, dI)) (ci := 12) (v := .ref oR) (C := R_Mo) (T := F_Mo) (N := 87) hx hb hts (fun w h => List.mem_cons_of_mem _ (in_Mo w h)) hown hK.1 hP 0 rfl rfl 3 (by decide) (hts _ (List.mem_cons_of_mem _ mw_1789)) (fun _ h9 => h9) y_3 d_Mo_tick_25 ?_
        refine lv_iconst (v := 1) hx hb d_Mo_tick_28 (by decide) ?_
        have hPc := hP.sub (ws' := [(oR, .inr (14, fr))]) [3] rfl
        have hDc := hD.sub (ws' := [(oR, .inr (14, fr))]) [3] (by decide) rfl
        have hFc := pu_free hS hA
        refine va_calli (va_runV (C := R_Mr) (As := [.int 1]) (rest := []) ⟨hx, hb, hml, hown, hts⟩ (c_Mr_tick l dC dI cI cB cZ cJ oR fr hr_rows H.size) (cwV 1 hts (tb_V mw_2605 mw_2606 mw_2607 mw_20 mw_2608) rfl rfl rfl ⟨rfl, by decide +kernel, by decide +kernel, by decide +kernel⟩ ⟨(Nat.le_of_ble_eq_true rfl), (Nat.le_of_ble_eq_true rfl)⟩) ⟨pw_blind, va_recv (q := (R_Mr, F_Mr, 25)) hK.1 hP (ci := 14) (q0 := 3) rfl rfl, pw_pre hPc hK hDc⟩ rfl rfl hl.1 rfl (lv_room (Nat.le_of_ble_eq_true rfl)) d_Mo_tick_29 ⟨(Nat.le_of_ble_eq_true rfl), (Nat.le_of_ble_eq_true rfl)⟩) hS (fun q _ h => hFc q h) hFc (fun r u t H locs ht hvm hw hB hz1 hk1 hS => ?_)
        have hP := pu_kept hP hk1
        obtain rfl : r = 1 := hw
        refine lv_istore_n hx hb d_Mo_tick_32 rfl hl (by decide) rfl (fun ls hl => ?_)
        have hl : lv_has ls 5 [(3, .int 1), (2, .int (nI i)), (0, .ref oM), (1, .int (nI n))] := hl
        refine lv_aload_n hx hb d_Mo_tick_33 rfl (lv_at hl 2 rfl) ?_
        refine va_get (D := (dC, dI)) (ci := 12) (v := .int 4) (C := R_Mo) (T := F_Mo) (N := 87) hx hb hts (fun w h => List.mem_cons_of_mem _ (in_Mo w h)) hown hK.1 hP 0 rfl rfl 59 (by decide) (hts _ (List.mem_cons_of_mem _ mw_1845)) (fun _ h9 => h9) y_59 d_Mo_tick_34 ?_
        refine lv_if_ne (tgt := 64) hx hb d_Mo_tick_37 (by decide) (fun _ => ?_) (fun h => absurd h (by decide))
        refine lv_iconst (v := 0) hx hb d_Mo_tick_64 (by decide) ?_
        refine lv_istore hx hb d_Mo_tick_65 hl (by decide) rfl (fun ls hl => ?_)
        have hl : lv_has ls 5 [(4, .int 0), (3, .int 1), (2, .int (nI i)), (0, .ref oM), (1, .int (nI n))] := hl
        refine lv_iload hx hb d_Mo_tick_67 (lv_at hl 0 rfl) ?_
        refine lv_aload_n hx hb d_Mo_tick_69 rfl (lv_at hl 3 rfl) ?_
        refine va_get (D := (dC, dI)) (ci := 12) (v := .int 0) (C := R_Mo) (T := F_Mo) (N := 87) hx hb hts (fun w h => List.mem_cons_of_mem _ (in_Mo w h)) hown hK.1 hP 0 rfl rfl 26 (by decide) (hts _ (List.mem_cons_of_mem _ mw_1812)) (fun _ h9 => h9) y_26 d_Mo_tick_70 ?_
        refine lv_icmp_ge (tgt := 88) hx hb d_Mo_tick_73 (by decide) (fun _ => ?_) (fun h => absurd (by decide) h)
        refine lv_aload_n hx hb d_Mo_tick_88 rfl (lv_at hl 3 rfl) ?_
        refine lv_dup hx hb d_Mo_tick_89 rfl ?_
        refine va_get (D := (dC, dI)) (ci := 12) (v := .int v_78) (C := R_Mo) (T := F_Mo) (N := 87) hx hb hts (fun w h => List.mem_cons_of_mem _ (in_Mo w h)) hown hK.1 hP 0 rfl rfl 78 (by decide) (hts _ (List.mem_cons_of_mem _ mw_1864)) (fun _ h9 => h9) y_78 d_Mo_tick_90 ?_
        refine lv_iconst (v := 1) hx hb d_Mo_tick_93 (by decide) ?_
        refine lv_iadd hx hb d_Mo_tick_94 ?_
        refine va_put (D := (dC, dI)) (ci := 12) (v := .int (v_78 + 1)) (ty := .int) (C := R_Mo) (T := F_Mo) (N := 87) hx hb hts (fun w h => List.mem_cons_of_mem _ (in_Mo w h)) t_Mo t_Mo_ok n_Mo hown hK.1 hP hD hS 0 rfl rfl 78 (by decide) (hts _ (List.mem_cons_of_mem _ mw_1864)) (fun _ h9 => h9) rfl (by decide +kernel) rfl rfl (st_lt y_78) d_Mo_tick_95 (fun H locs hP hD hS => ?_)
        have g95_3 : (xs.set 78 (.int (v_78 + 1)))[3]? = some (.ref oR) := (st_ne y_3 (by decide))
        have g95_78 : (xs.set 78 (.int (v_78 + 1)))[78]? = some (.int (v_78 + 1)) := (st_eq y_78)
        have g95_2 : (xs.set 78 (.int (v_78 + 1)))[2]? = some (.ref oT) := (st_ne y_2 (by decide))
        have g95_59 : (xs.set 78 (.int (v_78 + 1)))[59]? = some (.int 4) := (st_ne y_59 (by decide))
        have g95_55 : (xs.set 78 (.int (v_78 + 1)))[55]? = some (.ref am_watchWhat) := (st_ne y_55 (by decide))
        have g95_26 : (xs.set 78 (.int (v_78 + 1)))[26]? = some (.int 0) := (st_ne y_26 (by decide))
        have hP : va_P (dC, dI) classes [(oM, .inr (12, (xs.set 78 (.int (v_78 + 1))))), (oT, .inr (13, ft)), (am_watchWhat, .inl (cI, 16, .inl ((fun _ => (-1))))), (oR, .inr (14, fr))] H := hP
        have hD : va_D A [(oM, .inr (12, (xs.set 78 (.int (v_78 + 1))))), (oT, .inr (13, ft)), (am_watchWhat, .inl (cI, 16, .inl ((fun _ => (-1))))), (oR, .inr (14, fr))] := hD
        refine lv_iinc (k := 2) (v := (nI (i + 1))) hx hb d_Mo_tick_98 hl rfl (by first | rfl | decide | exact nI_1 i) (by decide) rfl (fun ls hl => ?_)
        have hl : lv_has ls 5 [(2, .int (nI (i + 1))), (4, .int 0), (3, .int 1), (0, .ref oM), (1, .int (nI n))] := hl
        refine lv_goto (tgt := 15) hx hb d_Mo_tick_101 (by decide) ?_
        have hl : lv_has ls 5 [(2, .int (nI (i + 1))), (0, .ref oM), (1, .int (nI n))] := lv_sub hl [0, 3, 4] rfl
        exact hk (xs.set 78 (.int (v_78 + 1))) H locs ls ⟨g95_2, g95_3, g95_26, g95_55, g95_59, ⟨_, g95_78⟩, hP, hD, hS, hl⟩
      · intro xs H locs ls hI
        obtain ⟨y_2, y_3, y_26, y_55, y_59, ⟨v_78, y_78⟩, hP, hD, hS, hl⟩ := hI
        refine lv_iload_n hx hb d_Mo_tick_15 rfl (lv_at hl 0 rfl) ?_
        refine lv_iload_n hx hb d_Mo_tick_16 rfl (lv_at hl 2 rfl) ?_
        refine lv_icmp_ge (tgt := 104) hx hb d_Mo_tick_17 (by decide) (fun _ => ?_) (fun h => absurd (nI_le (Nat.le_refl _) (by omega)) h)
        refine lv_aload_n hx hb d_Mo_tick_104 rfl (lv_at hl 1 rfl) ?_
        refine va_get (D := (dC, dI)) (ci := 12) (v := .int 4) (C := R_Mo) (T := F_Mo) (N := 87) hx hb hts (fun w h => List.mem_cons_of_mem _ (in_Mo w h)) hown hK.1 hP 0 rfl rfl 59 (by decide) (hts _ (List.mem_cons_of_mem _ mw_1845)) (fun _ h9 => h9) y_59 d_Mo_tick_105 ?_
        exact W.iret (v := 4) hx hb hr (fun t ht hW => ⟨⟨_, (), rfl, (by unfold fn_Mo_tick; rw [if_neg h1, if_pos h8]), trivial⟩, hS.F ht⟩) hS.2.2 d_Mo_tick_108
    · refine lv_iconst (v := (-1)) hx hb d_Mo_tick_11 (by decide) ?_
      exact W.iret (v := (-1)) hx hb hr (fun t ht hW => ⟨⟨_, (), rfl, (by unfold fn_Mo_tick; rw [if_neg h1, if_neg h8]), trivial⟩, hS.F ht⟩) hS.2.2 d_Mo_tick_12
theorem d_Mo_feed_0 : decode b_Mo_feed 0 = .ok (.aload_n 0, 1) := by decide +kernel
theorem d_Mo_feed_1 : decode b_Mo_feed 1 = .ok (.getfield 212, 3) := by decide +kernel
theorem d_Mo_feed_4 : decode b_Mo_feed 4 = .ok (.bipush 20, 2) := by decide +kernel
theorem d_Mo_feed_6 : decode b_Mo_feed 6 = .ok (.iadd, 1) := by decide +kernel
theorem d_Mo_feed_7 : decode b_Mo_feed 7 = .ok (.sipush 4020, 3) := by decide +kernel
theorem d_Mo_feed_10 : decode b_Mo_feed 10 = .ok (.if_icmp .le 6, 3) := by decide +kernel
theorem d_Mo_feed_16 : decode b_Mo_feed 16 = .ok (.iconst 0, 1) := by decide +kernel
theorem d_Mo_feed_17 : decode b_Mo_feed 17 = .ok (.istore 6, 2) := by decide +kernel
theorem d_Mo_feed_19 : decode b_Mo_feed 19 = .ok (.iload 6, 2) := by decide +kernel
theorem d_Mo_feed_21 : decode b_Mo_feed 21 = .ok (.bipush 20, 2) := by decide +kernel
theorem d_Mo_feed_23 : decode b_Mo_feed 23 = .ok (.if_icmp .ge 90, 3) := by decide +kernel
theorem d_Mo_feed_26 : decode b_Mo_feed 26 = .ok (.iload 6, 2) := by decide +kernel
theorem d_Mo_feed_28 : decode b_Mo_feed 28 = .ok (.iconst 4, 1) := by decide +kernel
theorem d_Mo_feed_29 : decode b_Mo_feed 29 = .ok (.if_icmp .ge 7, 3) := by decide +kernel
theorem d_Mo_feed_32 : decode b_Mo_feed 32 = .ok (.iload_n 1, 1) := by decide +kernel
theorem d_Mo_feed_33 : decode b_Mo_feed 33 = .ok (.goto 39, 3) := by decide +kernel
theorem d_Mo_feed_36 : decode b_Mo_feed 36 = .ok (.iload 6, 2) := by decide +kernel
theorem d_Mo_feed_38 : decode b_Mo_feed 38 = .ok (.bipush 8, 2) := by decide +kernel
theorem d_Mo_feed_40 : decode b_Mo_feed 40 = .ok (.if_icmp .ge 7, 3) := by decide +kernel
theorem d_Mo_feed_43 : decode b_Mo_feed 43 = .ok (.iload_n 2, 1) := by decide +kernel
theorem d_Mo_feed_44 : decode b_Mo_feed 44 = .ok (.goto 28, 3) := by decide +kernel
theorem d_Mo_feed_47 : decode b_Mo_feed 47 = .ok (.iload 6, 2) := by decide +kernel
theorem d_Mo_feed_49 : decode b_Mo_feed 49 = .ok (.bipush 12, 2) := by decide +kernel
theorem d_Mo_feed_51 : decode b_Mo_feed 51 = .ok (.if_icmp .ge 7, 3) := by decide +kernel
theorem d_Mo_feed_54 : decode b_Mo_feed 54 = .ok (.iload_n 3, 1) := by decide +kernel
theorem d_Mo_feed_55 : decode b_Mo_feed 55 = .ok (.goto 17, 3) := by decide +kernel
theorem d_Mo_feed_58 : decode b_Mo_feed 58 = .ok (.iload 6, 2) := by decide +kernel
theorem d_Mo_feed_60 : decode b_Mo_feed 60 = .ok (.bipush 16, 2) := by decide +kernel
theorem d_Mo_feed_62 : decode b_Mo_feed 62 = .ok (.if_icmp .ge 8, 3) := by decide +kernel
theorem d_Mo_feed_65 : decode b_Mo_feed 65 = .ok (.iload 4, 2) := by decide +kernel
theorem d_Mo_feed_67 : decode b_Mo_feed 67 = .ok (.goto 5, 3) := by decide +kernel
theorem d_Mo_feed_70 : decode b_Mo_feed 70 = .ok (.iload 5, 2) := by decide +kernel
theorem d_Mo_feed_72 : decode b_Mo_feed 72 = .ok (.istore 7, 2) := by decide +kernel
theorem d_Mo_feed_74 : decode b_Mo_feed 74 = .ok (.aload_n 0, 1) := by decide +kernel
theorem d_Mo_feed_75 : decode b_Mo_feed 75 = .ok (.getfield 9, 3) := by decide +kernel
theorem d_Mo_feed_78 : decode b_Mo_feed 78 = .ok (.aload_n 0, 1) := by decide +kernel
theorem d_Mo_feed_79 : decode b_Mo_feed 79 = .ok (.getfield 212, 3) := by decide +kernel
theorem d_Mo_feed_82 : decode b_Mo_feed 82 = .ok (.iload 7, 2) := by decide +kernel
theorem d_Mo_feed_84 : decode b_Mo_feed 84 = .ok (.bipush 24, 2) := by decide +kernel
theorem d_Mo_feed_86 : decode b_Mo_feed 86 = .ok (.bipush 8, 2) := by decide +kernel
theorem d_Mo_feed_88 : decode b_Mo_feed 88 = .ok (.iload 6, 2) := by decide +kernel
theorem d_Mo_feed_90 : decode b_Mo_feed 90 = .ok (.iconst 4, 1) := by decide +kernel
theorem d_Mo_feed_91 : decode b_Mo_feed 91 = .ok (.irem, 1) := by decide +kernel
theorem d_Mo_feed_92 : decode b_Mo_feed 92 = .ok (.imul, 1) := by decide +kernel
theorem d_Mo_feed_93 : decode b_Mo_feed 93 = .ok (.isub, 1) := by decide +kernel
theorem d_Mo_feed_94 : decode b_Mo_feed 94 = .ok (.iushr, 1) := by decide +kernel
theorem d_Mo_feed_95 : decode b_Mo_feed 95 = .ok (.i2b, 1) := by decide +kernel
theorem d_Mo_feed_96 : decode b_Mo_feed 96 = .ok (.bastore, 1) := by decide +kernel
theorem d_Mo_feed_97 : decode b_Mo_feed 97 = .ok (.aload_n 0, 1) := by decide +kernel
theorem d_Mo_feed_98 : decode b_Mo_feed 98 = .ok (.dup, 1) := by decide +kernel
theorem d_Mo_feed_99 : decode b_Mo_feed 99 = .ok (.getfield 212, 3) := by decide +kernel
theorem d_Mo_feed_102 : decode b_Mo_feed 102 = .ok (.iconst 1, 1) := by decide +kernel
theorem d_Mo_feed_103 : decode b_Mo_feed 103 = .ok (.iadd, 1) := by decide +kernel
theorem d_Mo_feed_104 : decode b_Mo_feed 104 = .ok (.putfield 212, 3) := by decide +kernel
theorem d_Mo_feed_107 : decode b_Mo_feed 107 = .ok (.iinc 6 1, 3) := by decide +kernel
theorem d_Mo_feed_110 : decode b_Mo_feed 110 = .ok (.goto (-91), 3) := by decide +kernel
theorem d_Mo_feed_113 : decode b_Mo_feed 113 = .ok (.aload_n 0, 1) := by decide +kernel
theorem d_Mo_feed_114 : decode b_Mo_feed 114 = .ok (.getfield 212, 3) := by decide +kernel
theorem d_Mo_feed_117 : decode b_Mo_feed 117 = .ok (.ireturn, 1) := by decide +kernel
set_option maxHeartbeats 4000000 in
set_option maxRecDepth 100000 in
theorem c_Mo_feed (l : Launch) (dC : Nat → ClassId) (dI : Nat → Nat → Nat) (cI cB cZ cJ : ClassId) (a1 : Int32) (b1 : Int32) (c1 : Int32) (d1 : Int32) (e1 : Int32) (oM : Nat) (am_tape : Nat) (fm : List Value) (hm_tape : fm[0]? = some (.ref am_tape)) (hm_taped : fm[1]? = some (.int 0)) (sz : Nat) : Met l y_Mo_feed w_Mo_feed ({ frames := 0, cells := 0, slots := 0, locals := 0 }) (va_Pc [.ref oM, .int a1, .int b1, .int c1, .int d1, .int e1] (PW dC dI cI cB cZ cJ [(oM, .inr (12, fm)), (am_tape, .inl (cB, 4020, .inl (fun _ => 0)))] sz)) (va_Qi (fun (r : Int32) (_ : Unit) => r = 20) (fun _ _ => True) (va_A [(oM, .inr (12, fm)), (am_tape, .inl (cB, 4020, .inl (fun _ => 0)))] sz)) 0 0 (va_A [(oM, .inr (12, fm)), (am_tape, .inl (cB, 4020, .inl (fun _ => 0)))] sz) := by
  refine Met.ofW (cc := b_Mo_feed) (maxL := 8) (ret := (some .int)) (by decide) rfl ?_
  intro p e s m args below meth c s₁ B hml hv
  obtain ⟨rfl, hsz, hP, hK, hD⟩ := hv
  have hx := B.exec
  have hb := B.bytes
  have hr := B.returns
  have hts := atoms_spec (ws := w_Mo_feed) B.pre
  have hown : s.vm.findClass R_Mo = some m.cls := findClass_of_methodNamed B.named
  have hlocks := B.notSynchronized
  subst hsz
  have hD := hD.self (sz := s.heap.size)
  generalize hAe : va_A [(oM, .inr (12, fm)), (am_tape, .inl (cB, 4020, .inl (fun _ => 0)))] s.heap.size = A at hD ⊢
  have hA : ∀ q : Nat, s.heap.size ≤ q → A q := fun q h => by rw [← hAe]; exact Or.inr h
  have hS : va_S A s.heap s.heap [] := va_S.rf
  have hP : va_P (dC, dI) classes [(oM, .inr (12, fm)), (am_tape, .inl (cB, 4020, .inl (fun _ => 0)))] s.heap := hP
  have hl := lv_entry ([.ref oM, .int a1, .int b1, .int c1, .int d1, .int e1]) (n := 8) (Nat.le_of_ble_eq_true rfl)
  rw [lg_entry_eq]
  generalize (lg_sl ([.ref oM, .int a1, .int b1, .int c1, .int d1, .int e1]) ++ List.replicate (8 - (lg_sl ([.ref oM, .int a1, .int b1, .int c1, .int d1, .int e1])).length) Slot.unset).toArray = ls at hl ⊢
  have hl : lv_has ls 8 [(0, .ref oM), (1, .int a1), (2, .int b1), (3, .int c1), (4, .int d1), (5, .int e1)] := hl
  refine lv_aload_n hx hb d_Mo_feed_0 rfl (lv_at hl 0 rfl) ?_
  refine va_get (D := (dC, dI)) (ci := 12) (v := .int 0) (C := R_Mo) (T := F_Mo) (N := 87) hx hb hts (fun w h => List.mem_cons_of_mem _ (in_Mo w h)) hown hK.1 hP 0 rfl rfl 1 (by decide) (hts _ (List.mem_cons_of_mem _ mw_1787)) (fun _ h9 => h9) hm_taped d_Mo_feed_1 ?_
  refine lv_bipush (v := 20) hx hb d_Mo_feed_4 (by decide) ?_
  refine lv_iadd hx hb d_Mo_feed_6 ?_
  refine lv_topi (fun x0 e0 => ?_)
  obtain rfl : x0 = 20 := e0.trans (by decide)
  refine lv_sipush (v := 4020) hx hb d_Mo_feed_7 (by decide) ?_
  refine lv_icmp_le (tgt := 16) hx hb d_Mo_feed_10 (by decide) (fun _ => ?_) (fun h => absurd (by decide) h)
  refine lv_iconst (v := 0) hx hb d_Mo_feed_16 (by decide) ?_
  refine lv_istore hx hb d_Mo_feed_17 hl (by decide) rfl (fun ls hl => ?_)
  have hl : lv_has ls 8 [(6, .int 0), (0, .ref oM), (1, .int a1), (2, .int b1), (3, .int c1), (4, .int d1), (5, .int e1)] := hl
  refine lv_iload hx hb d_Mo_feed_19 (lv_at hl 0 rfl) ?_
  refine lv_bipush (v := 20) hx hb d_Mo_feed_21 (by decide) ?_
  refine lv_icmp_ge (tgt := 113) hx hb d_Mo_feed_23 (by decide) (fun h => absurd h (by decide)) (fun _ => ?_)
  refine lv_iload hx hb d_Mo_feed_26 (lv_at hl 0 rfl) ?_
  refine lv_iconst (v := 4) hx hb d_Mo_feed_28 (by decide) ?_
  refine lv_icmp_ge (tgt := 36) hx hb d_Mo_feed_29 (by decide) (fun h => absurd h (by decide)) (fun _ => ?_)
  refine lv_iload_n hx hb d_Mo_feed_32 rfl (lv_at hl 2 rfl) ?_
  refine lv_goto (tgt := 72) hx hb d_Mo_feed_33 (by decide) ?_
  refine lv_istore hx hb d_Mo_feed_72 hl (by decide) rfl (fun ls hl => ?_)
  have hl : lv_has ls 8 [(7, .int a1), (6, .int 0), (0, .ref oM), (1, .int a1), (2, .int b1), (3, .int c1), (4, .int d1), (5, .int e1)] := hl
  refine lv_aload_n hx hb d_Mo_feed_74 rfl (lv_at hl 2 rfl) ?_
  refine va_get (D := (dC, dI)) (ci := 12) (v := .ref am_tape) (C := R_Mo) (T := F_Mo) (N := 87) hx hb hts (fun w h => List.mem_cons_of_mem _ (in_Mo w h)) hown hK.1 hP 0 rfl rfl 0 (by decide) (hts _ (List.mem_cons_of_mem _ mw_1786)) (fun _ h9 => h9) hm_tape d_Mo_feed_75 ?_
  refine lv_aload_n hx hb d_Mo_feed_78 rfl (lv_at hl 2 rfl) ?_
  refine va_get (D := (dC, dI)) (ci := 12) (v := .int 0) (C := R_Mo) (T := F_Mo) (N := 87) hx hb hts (fun w h => List.mem_cons_of_mem _ (in_Mo w h)) hown hK.1 hP 0 rfl rfl 1 (by decide) (hts _ (List.mem_cons_of_mem _ mw_1787)) (fun _ h9 => h9) hm_taped d_Mo_feed_79 ?_
  refine lv_iload hx hb d_Mo_feed_82 (lv_at hl 0 rfl) ?_
  refine lv_bipush (v := 24) hx hb d_Mo_feed_84 (by decide) ?_
  refine lv_bipush (v := 8) hx hb d_Mo_feed_86 (by decide) ?_
  refine lv_iload hx hb d_Mo_feed_88 (lv_at hl 1 rfl) ?_
  refine lv_iconst (v := 4) hx hb d_Mo_feed_90 (by decide) ?_
  refine lv_irem hx hb d_Mo_feed_91 (by decide) ?_
  refine lv_topi (fun x0 e0 => ?_)
  obtain rfl : x0 = 0 := e0.trans (by decide)
  refine lv_imul hx hb d_Mo_feed_92 ?_
  refine lv_topi (fun x0 e0 => ?_)
  obtain rfl : x0 = 0 := e0.trans (by decide)
  refine lv_isub hx hb d_Mo_feed_93 ?_
  refine lv_topi (fun x0 e0 => ?_)
  obtain rfl : x0 = 24 := e0.trans (by decide)
  refine lv_iushr hx hb d_Mo_feed_94 rfl ?_
  refine lv_topi (fun z94_1 ez94_1 => ?_)
  refine lv_i2b hx hb d_Mo_feed_95 rfl ?_
  refine lv_topi (fun z95_2 ez95_2 => ?_)
  refine va_bast hx hb hK.1 hP hD hS 1 1 rfl rfl (vp_in_iff.mpr (by decide)) d_Mo_feed_96 (fun H locs hP hD hS => ?_)
  have hP : va_P (dC, dI) classes [(oM, .inr (12, fm)), (am_tape, .inl (cB, 4020, .inl ((upd (fun _ => 0) (0 : Int32).toNatClampNeg (vp_nar .byte z95_2)))))] H := hP
  have hD : va_D A [(oM, .inr (12, fm)), (am_tape, .inl (cB, 4020, .inl ((upd (fun _ => 0) (0 : Int32).toNatClampNeg (vp_nar .byte z95_2)))))] := hD
  generalize (upd (fun _ => 0) (0 : Int32).toNatClampNeg (vp_nar .byte z95_2)) = f96_3 at hP hD
  refine lv_aload_n hx hb d_Mo_feed_97 rfl (lv_at hl 2 rfl) ?_
  refine lv_dup hx hb d_Mo_feed_98 rfl ?_
  refine va_get (D := (dC, dI)) (ci := 12) (v := .int 0) (C := R_Mo) (T := F_Mo) (N := 87) hx hb hts (fun w h => List.mem_cons_of_mem _ (in_Mo w h)) hown hK.1 hP 0 rfl rfl 1 (by decide) (hts _ (List.mem_cons_of_mem _ mw_1787)) (fun _ h9 => h9) hm_taped d_Mo_feed_99 ?_
  refine lv_iconst (v := 1) hx hb d_Mo_feed_102 (by decide) ?_
  refine lv_iadd hx hb d_Mo_feed_103 ?_
  refine lv_topi (fun x0 e0 => ?_)
  obtain rfl : x0 = 1 := e0.trans (by decide)
  refine va_put (D := (dC, dI)) (ci := 12) (v := .int 1) (ty := .int) (C := R_Mo) (T := F_Mo) (N := 87) hx hb hts (fun w h => List.mem_cons_of_mem _ (in_Mo w h)) t_Mo t_Mo_ok n_Mo hown hK.1 hP hD hS 0 rfl rfl 1 (by decide) (hts _ (List.mem_cons_of_mem _ mw_1787)) (fun _ h9 => h9) rfl (by decide +kernel) rfl rfl (st_lt hm_taped) d_Mo_feed_104 (fun H locs hP hD hS => ?_)
  have g104_0 : (fm.set 1 (.int 1))[0]? = some (.ref am_tape) := (st_ne hm_tape (by decide))
  have g104_1 : (fm.set 1 (.int 1))[1]? = some (.int 1) := (st_eq hm_taped)
  have hP : va_P (dC, dI) classes [(oM, .inr (12, (fm.set 1 (.int 1)))), (am_tape, .inl (cB, 4020, .inl f96_3))] H := hP
  have hD : va_D A [(oM, .inr (12, (fm.set 1 (.int 1)))), (am_tape, .inl (cB, 4020, .inl f96_3))] := hD
  refine lv_iinc (k := 1) (v := 1) hx hb d_Mo_feed_107 hl rfl (by first | rfl | decide | exact nI_1 i) (by decide) rfl (fun ls hl => ?_)
  have hl : lv_has ls 8 [(6, .int 1), (7, .int a1), (0, .ref oM), (1, .int a1), (2, .int b1), (3, .int c1), (4, .int d1), (5, .int e1)] := hl
  refine lv_goto (tgt := 19) hx hb d_Mo_feed_110 (by decide) ?_
  refine lv_iload hx hb d_Mo_feed_19 (lv_at hl 0 rfl) ?_
  refine lv_bipush (v := 20) hx hb d_Mo_feed_21 (by decide) ?_
  refine lv_icmp_ge (tgt := 113) hx hb d_Mo_feed_23 (by decide) (fun h => absurd h (by decide)) (fun _ => ?_)
  refine lv_iload hx hb d_Mo_feed_26 (lv_at hl 0 rfl) ?_
  refine lv_iconst (v := 4) hx hb d_Mo_feed_28 (by decide) ?_
  refine lv_icmp_ge (tgt := 36) hx hb d_Mo_feed_29 (by decide) (fun h => absurd h (by decide)) (fun _ => ?_)
  refine lv_iload_n hx hb d_Mo_feed_32 rfl (lv_at hl 3 rfl) ?_
  refine lv_goto (tgt := 72) hx hb d_Mo_feed_33 (by decide) ?_
  refine lv_istore hx hb d_Mo_feed_72 hl (by decide) rfl (fun ls hl => ?_)
  have hl : lv_has ls 8 [(7, .int a1), (6, .int 1), (0, .ref oM), (1, .int a1), (2, .int b1), (3, .int c1), (4, .int d1), (5, .int e1)] := hl
  refine lv_aload_n hx hb d_Mo_feed_74 rfl (lv_at hl 2 rfl) ?_
  refine va_get (D := (dC, dI)) (ci := 12) (v := .ref am_tape) (C := R_Mo) (T := F_Mo) (N := 87) hx hb hts (fun w h => List.mem_cons_of_mem _ (in_Mo w h)) hown hK.1 hP 0 rfl rfl 0 (by decide) (hts _ (List.mem_cons_of_mem _ mw_1786)) (fun _ h9 => h9) g104_0 d_Mo_feed_75 ?_
  refine lv_aload_n hx hb d_Mo_feed_78 rfl (lv_at hl 2 rfl) ?_
  refine va_get (D := (dC, dI)) (ci := 12) (v := .int 1) (C := R_Mo) (T := F_Mo) (N := 87) hx hb hts (fun w h => List.mem_cons_of_mem _ (in_Mo w h)) hown hK.1 hP 0 rfl rfl 1 (by decide) (hts _ (List.mem_cons_of_mem _ mw_1787)) (fun _ h9 => h9) g104_1 d_Mo_feed_79 ?_
  refine lv_iload hx hb d_Mo_feed_82 (lv_at hl 0 rfl) ?_
  refine lv_bipush (v := 24) hx hb d_Mo_feed_84 (by decide) ?_
  refine lv_bipush (v := 8) hx hb d_Mo_feed_86 (by decide) ?_
  refine lv_iload hx hb d_Mo_feed_88 (lv_at hl 1 rfl) ?_
  refine lv_iconst (v := 4) hx hb d_Mo_feed_90 (by decide) ?_
  refine lv_irem hx hb d_Mo_feed_91 (by decide) ?_
  refine lv_topi (fun x0 e0 => ?_)
  obtain rfl : x0 = 1 := e0.trans (by decide)
  refine lv_imul hx hb d_Mo_feed_92 ?_
  refine lv_topi (fun x0 e0 => ?_)
  obtain rfl : x0 = 8 := e0.trans (by decide)
  refine lv_isub hx hb d_Mo_feed_93 ?_
  refine lv_topi (fun x0 e0 => ?_)
  obtain rfl : x0 = 16 := e0.trans (by decide)
  refine lv_iushr hx hb d_Mo_feed_94 rfl ?_
  refine lv_topi (fun z94_5 ez94_5 => ?_)
  refine lv_i2b hx hb d_Mo_feed_95 rfl ?_
  refine lv_topi (fun z95_6 ez95_6 => ?_)
  refine va_bast hx hb hK.1 hP hD hS 1 1 rfl rfl (vp_in_iff.mpr (by decide)) d_Mo_feed_96 (fun H locs hP hD hS => ?_)
  have hP : va_P (dC, dI) classes [(oM, .inr (12, (fm.set 1 (.int 1)))), (am_tape, .inl (cB, 4020, .inl ((upd f96_3 (1 : Int32).toNatClampNeg (vp_nar .byte z95_6)))))] H := hP
  have hD : va_D A [(oM, .inr (12, (fm.set 1 (.int 1)))), (am_tape, .inl (cB, 4020, .inl ((upd f96_3 (1 : Int32).toNatClampNeg (vp_nar .byte z95_6)))))] := hD
  generalize (upd f96_3 (1 : Int32).toNatClampNeg (vp_nar .byte z95_6)) = f96_7 at hP hD
  refine lv_aload_n hx hb d_Mo_feed_97 rfl (lv_at hl 2 rfl) ?_
  refine lv_dup hx hb d_Mo_feed_98 rfl ?_
  refine va_get (D := (dC, dI)) (ci := 12) (v := .int 1) (C := R_Mo) (T := F_Mo) (N := 87) hx hb hts (fun w h => List.mem_cons_of_mem _ (in_Mo w h)) hown hK.1 hP 0 rfl rfl 1 (by decide) (hts _ (List.mem_cons_of_mem _ mw_1787)) (fun _ h9 => h9) g104_1 d_Mo_feed_99 ?_
  refine lv_iconst (v := 1) hx hb d_Mo_feed_102 (by decide) ?_
  refine lv_iadd hx hb d_Mo_feed_103 ?_
  refine lv_topi (fun x0 e0 => ?_)
  obtain rfl : x0 = 2 := e0.trans (by decide)
  refine va_put (D := (dC, dI)) (ci := 12) (v := .int 2) (ty := .int) (C := R_Mo) (T := F_Mo) (N := 87) hx hb hts (fun w h => List.mem_cons_of_mem _ (in_Mo w h)) t_Mo t_Mo_ok n_Mo hown hK.1 hP hD hS 0 rfl rfl 1 (by decide) (hts _ (List.mem_cons_of_mem _ mw_1787)) (fun _ h9 => h9) rfl (by decide +kernel) rfl rfl (st_lt g104_1) d_Mo_feed_104 (fun H locs hP hD hS => ?_)
  have g104_0 : ((fm.set 1 (.int 1)).set 1 (.int 2))[0]? = some (.ref am_tape) := (st_ne g104_0 (by decide))
  have g104_1 : ((fm.set 1 (.int 1)).set 1 (.int 2))[1]? = some (.int 2) := (st_eq g104_1)
  have hP : va_P (dC, dI) classes [(oM, .inr (12, ((fm.set 1 (.int 1)).set 1 (.int 2)))), (am_tape, .inl (cB, 4020, .inl f96_7))] H := hP
  have hD : va_D A [(oM, .inr (12, ((fm.set 1 (.int 1)).set 1 (.int 2)))), (am_tape, .inl (cB, 4020, .inl f96_7))] := hD
  refine lv_iinc (k := 1) (v := 2) hx hb d_Mo_feed_107 hl rfl (by first | rfl | decide | exact nI_1 i) (by decide) rfl (fun ls hl => ?_)
  have hl : lv_has ls 8 [(6, .int 2), (7, .int a1), (0, .ref oM), (1, .int a1), (2, .int b1), (3, .int c1), (4, .int d1), (5, .int e1)] := hl
  refine lv_goto (tgt := 19) hx hb d_Mo_feed_110 (by decide) ?_
  refine lv_iload hx hb d_Mo_feed_19 (lv_at hl 0 rfl) ?_
  refine lv_bipush (v := 20) hx hb d_Mo_feed_21 (by decide) ?_
  refine lv_icmp_ge (tgt := 113) hx hb d_Mo_feed_23 (by decide) (fun h => absurd h (by decide)) (fun _ => ?_)
  refine lv_iload hx hb d_Mo_feed_26 (lv_at hl 0 rfl) ?_
  refine lv_iconst (v := 4) hx hb d_Mo_feed_28 (by decide) ?_
  refine lv_icmp_ge (tgt := 36) hx hb d_Mo_feed_29 (by decide) (fun h => absurd h (by decide)) (fun _ => ?_)
  refine lv_iload_n hx hb d_Mo_feed_32 rfl (lv_at hl 3 rfl) ?_
  refine lv_goto (tgt := 72) hx hb d_Mo_feed_33 (by decide) ?_
  refine lv_istore hx hb d_Mo_feed_72 hl (by decide) rfl (fun ls hl => ?_)
  have hl : lv_has ls 8 [(7, .int a1), (6, .int 2), (0, .ref oM), (1, .int a1), (2, .int b1), (3, .int c1), (4, .int d1), (5, .int e1)] := hl
  refine lv_aload_n hx hb d_Mo_feed_74 rfl (lv_at hl 2 rfl) ?_
  refine va_get (D := (dC, dI)) (ci := 12) (v := .ref am_tape) (C := R_Mo) (T := F_Mo) (N := 87) hx hb hts (fun w h => List.mem_cons_of_mem _ (in_Mo w h)) hown hK.1 hP 0 rfl rfl 0 (by decide) (hts _ (List.mem_cons_of_mem _ mw_1786)) (fun _ h9 => h9) g104_0 d_Mo_feed_75 ?_
  refine lv_aload_n hx hb d_Mo_feed_78 rfl (lv_at hl 2 rfl) ?_
  refine va_get (D := (dC, dI)) (ci := 12) (v := .int 2) (C := R_Mo) (T := F_Mo) (N := 87) hx hb hts (fun w h => List.mem_cons_of_mem _ (in_Mo w h)) hown hK.1 hP 0 rfl rfl 1 (by decide) (hts _ (List.mem_cons_of_mem _ mw_1787)) (fun _ h9 => h9) g104_1 d_Mo_feed_79 ?_
  refine lv_iload hx hb d_Mo_feed_82 (lv_at hl 0 rfl) ?_
  refine lv_bipush (v := 24) hx hb d_Mo_feed_84 (by decide) ?_
  refine lv_bipush (v := 8) hx hb d_Mo_feed_86 (by decide) ?_
  refine lv_iload hx hb d_Mo_feed_88 (lv_at hl 1 rfl) ?_
  refine lv_iconst (v := 4) hx hb d_Mo_feed_90 (by decide) ?_
  refine lv_irem hx hb d_Mo_feed_91 (by decide) ?_
  refine lv_topi (fun x0 e0 => ?_)
  obtain rfl : x0 = 2 := e0.trans (by decide)
  refine lv_imul hx hb d_Mo_feed_92 ?_
  refine lv_topi (fun x0 e0 => ?_)
  obtain rfl : x0 = 16 := e0.trans (by decide)
  refine lv_isub hx hb d_Mo_feed_93 ?_
  refine lv_topi (fun x0 e0 => ?_)
  obtain rfl : x0 = 8 := e0.trans (by decide)
  refine lv_iushr hx hb d_Mo_feed_94 rfl ?_
  refine lv_topi (fun z94_9 ez94_9 => ?_)
  refine lv_i2b hx hb d_Mo_feed_95 rfl ?_
  refine lv_topi (fun z95_10 ez95_10 => ?_)
  refine va_bast hx hb hK.1 hP hD hS 1 1 rfl rfl (vp_in_iff.mpr (by decide)) d_Mo_feed_96 (fun H locs hP hD hS => ?_)
  have hP : va_P (dC, dI) classes [(oM, .inr (12, ((fm.set 1 (.int 1)).set 1 (.int 2)))), (am_tape, .inl (cB, 4020, .inl ((upd f96_7 (2 : Int32).toNatClampNeg (vp_nar .byte z95_10)))))] H := hP
  have hD : va_D A [(oM, .inr (12, ((fm.set 1 (.int 1)).set 1 (.int 2)))), (am_tape, .inl (cB, 4020, .inl ((upd f96_7 (2 : Int32).toNatClampNeg (vp_nar .byte z95_10)))))] := hD
  generalize (upd f96_7 (2 : Int32).toNatClampNeg (vp_nar .byte z95_10)) = f96_11 at hP hD
  refine lv_aload_n hx hb d_Mo_feed_97 rfl (lv_at hl 2 rfl) ?_
  refine lv_dup hx hb d_Mo_feed_98 rfl ?_
  refine va_get (D := (dC, dI)) (ci := 12) (v := .int 2) (C := R_Mo) (T := F_Mo) (N := 87) hx hb hts (fun w h => List.mem_cons_of_mem _ (in_Mo w h)) hown hK.1 hP 0 rfl rfl 1 (by decide) (hts _ (List.mem_cons_of_mem _ mw_1787)) (fun _ h9 => h9) g104_1 d_Mo_feed_99 ?_
  refine lv_iconst (v := 1) hx hb d_Mo_feed_102 (by decide) ?_
  refine lv_iadd hx hb d_Mo_feed_103 ?_
  refine lv_topi (fun x0 e0 => ?_)
  obtain rfl : x0 = 3 := e0.trans (by decide)
  refine va_put (D := (dC, dI)) (ci := 12) (v := .int 3) (ty := .int) (C := R_Mo) (T := F_Mo) (N := 87) hx hb hts (fun w h => List.mem_cons_of_mem _ (in_Mo w h)) t_Mo t_Mo_ok n_Mo hown hK.1 hP hD hS 0 rfl rfl 1 (by decide) (hts _ (List.mem_cons_of_mem _ mw_1787)) (fun _ h9 => h9) rfl (by decide +kernel) rfl rfl (st_lt g104_1) d_Mo_feed_104 (fun H locs hP hD hS => ?_)
  have g104_0 : (((fm.set 1 (.int 1)).set 1 (.int 2)).set 1 (.int 3))[0]? = some (.ref am_tape) := (st_ne g104_0 (by decide))
  have g104_1 : (((fm.set 1 (.int 1)).set 1 (.int 2)).set 1 (.int 3))[1]? = some (.int 3) := (st_eq g104_1)
  have hP : va_P (dC, dI) classes [(oM, .inr (12, (((fm.set 1 (.int 1)).set 1 (.int 2)).set 1 (.int 3)))), (am_tape, .inl (cB, 4020, .inl f96_11))] H := hP
  have hD : va_D A [(oM, .inr (12, (((fm.set 1 (.int 1)).set 1 (.int 2)).set 1 (.int 3)))), (am_tape, .inl (cB, 4020, .inl f96_11))] := hD
  refine lv_iinc (k := 1) (v := 3) hx hb d_Mo_feed_107 hl rfl (by first | rfl | decide | exact nI_1 i) (by decide) rfl (fun ls hl => ?_)
  have hl : lv_has ls 8 [(6, .int 3), (7, .int a1), (0, .ref oM), (1, .int a1), (2, .int b1), (3, .int c1), (4, .int d1), (5, .int e1)] := hl
  refine lv_goto (tgt := 19) hx hb d_Mo_feed_110 (by decide) ?_
  refine lv_iload hx hb d_Mo_feed_19 (lv_at hl 0 rfl) ?_
  refine lv_bipush (v := 20) hx hb d_Mo_feed_21 (by decide) ?_
  refine lv_icmp_ge (tgt := 113) hx hb d_Mo_feed_23 (by decide) (fun h => absurd h (by decide)) (fun _ => ?_)
  refine lv_iload hx hb d_Mo_feed_26 (lv_at hl 0 rfl) ?_
  refine lv_iconst (v := 4) hx hb d_Mo_feed_28 (by decide) ?_
  refine lv_icmp_ge (tgt := 36) hx hb d_Mo_feed_29 (by decide) (fun h => absurd h (by decide)) (fun _ => ?_)
  refine lv_iload_n hx hb d_Mo_feed_32 rfl (lv_at hl 3 rfl) ?_
  refine lv_goto (tgt := 72) hx hb d_Mo_feed_33 (by decide) ?_
  refine lv_istore hx hb d_Mo_feed_72 hl (by decide) rfl (fun ls hl => ?_)
  have hl : lv_has ls 8 [(7, .int a1), (6, .int 3), (0, .ref oM), (1, .int a1), (2, .int b1), (3, .int c1), (4, .int d1), (5, .int e1)] := hl
  refine lv_aload_n hx hb d_Mo_feed_74 rfl (lv_at hl 2 rfl) ?_
  refine va_get (D := (dC, dI)) (ci := 12) (v := .ref am_tape) (C := R_Mo) (T := F_Mo) (N := 87) hx hb hts (fun w h => List.mem_cons_of_mem _ (in_Mo w h)) hown hK.1 hP 0 rfl rfl 0 (by decide) (hts _ (List.mem_cons_of_mem _ mw_1786)) (fun _ h9 => h9) g104_0 d_Mo_feed_75 ?_
  refine lv_aload_n hx hb d_Mo_feed_78 rfl (lv_at hl 2 rfl) ?_
  refine va_get (D := (dC, dI)) (ci := 12) (v := .int 3) (C := R_Mo) (T := F_Mo) (N := 87) hx hb hts (fun w h => List.mem_cons_of_mem _ (in_Mo w h)) hown hK.1 hP 0 rfl rfl 1 (by decide) (hts _ (List.mem_cons_of_mem _ mw_1787)) (fun _ h9 => h9) g104_1 d_Mo_feed_79 ?_
  refine lv_iload hx hb d_Mo_feed_82 (lv_at hl 0 rfl) ?_
  refine lv_bipush (v := 24) hx hb d_Mo_feed_84 (by decide) ?_
  refine lv_bipush (v := 8) hx hb d_Mo_feed_86 (by decide) ?_
  refine lv_iload hx hb d_Mo_feed_88 (lv_at hl 1 rfl) ?_
  refine lv_iconst (v := 4) hx hb d_Mo_feed_90 (by decide) ?_
  refine lv_irem hx hb d_Mo_feed_91 (by decide) ?_
  refine lv_topi (fun x0 e0 => ?_)
  obtain rfl : x0 = 3 := e0.trans (by decide)
  refine lv_imul hx hb d_Mo_feed_92 ?_
  refine lv_topi (fun x0 e0 => ?_)
  obtain rfl : x0 = 24 := e0.trans (by decide)
  refine lv_isub hx hb d_Mo_feed_93 ?_
  refine lv_topi (fun x0 e0 => ?_)
  obtain rfl : x0 = 0 := e0.trans (by decide)
  refine lv_iushr hx hb d_Mo_feed_94 rfl ?_
  refine lv_topi (fun z94_13 ez94_13 => ?_)
  refine lv_i2b hx hb d_Mo_feed_95 rfl ?_
  refine lv_topi (fun z95_14 ez95_14 => ?_)
  refine va_bast hx hb hK.1 hP hD hS 1 1 rfl rfl (vp_in_iff.mpr (by decide)) d_Mo_feed_96 (fun H locs hP hD hS => ?_)
  have hP : va_P (dC, dI) classes [(oM, .inr (12, (((fm.set 1 (.int 1)).set 1 (.int 2)).set 1 (.int 3)))), (am_tape, .inl (cB, 4020, .inl ((upd f96_11 (3 : Int32).toNatClampNeg (vp_nar .byte z95_14)))))] H := hP
  have hD : va_D A [(oM, .inr (12, (((fm.set 1 (.int 1)).set 1 (.int 2)).set 1 (.int 3)))), (am_tape, .inl (cB, 4020, .inl ((upd f96_11 (3 : Int32).toNatClampNeg (vp_nar .byte z95_14)))))] := hD
  generalize (upd f96_11 (3 : Int32).toNatClampNeg (vp_nar .byte z95_14)) = f96_15 at hP hD
  refine lv_aload_n hx hb d_Mo_feed_97 rfl (lv_at hl 2 rfl) ?_
  refine lv_dup hx hb d_Mo_feed_98 rfl ?_
  refine va_get (D := (dC, dI)) (ci := 12) (v := .int 3) (C := R_Mo) (T := F_Mo) (N := 87) hx hb hts (fun w h => List.mem_cons_of_mem _ (in_Mo w h)) hown hK.1 hP 0 rfl rfl 1 (by decide) (hts _ (List.mem_cons_of_mem _ mw_1787)) (fun _ h9 => h9) g104_1 d_Mo_feed_99 ?_
  refine lv_iconst (v := 1) hx hb d_Mo_feed_102 (by decide) ?_
  refine lv_iadd hx hb d_Mo_feed_103 ?_
  refine lv_topi (fun x0 e0 => ?_)
  obtain rfl : x0 = 4 := e0.trans (by decide)
  refine va_put (D := (dC, dI)) (ci := 12) (v := .int 4) (ty := .int) (C := R_Mo) (T := F_Mo) (N := 87) hx hb hts (fun w h => List.mem_cons_of_mem _ (in_Mo w h)) t_Mo t_Mo_ok n_Mo hown hK.1 hP hD hS 0 rfl rfl 1 (by decide) (hts _ (List.mem_cons_of_mem _ mw_1787)) (fun _ h9 => h9) rfl (by decide +kernel) rfl rfl (st_lt g104_1) d_Mo_feed_104 (fun H locs hP hD hS => ?_)
  have g104_0 : ((((fm.set 1 (.int 1)).set 1 (.int 2)).set 1 (.int 3)).set 1 (.int 4))[0]? = some (.ref am_tape) := (st_ne g104_0 (by decide))
  have g104_1 : ((((fm.set 1 (.int 1)).set 1 (.int 2)).set 1 (.int 3)).set 1 (.int 4))[1]? = some (.int 4) := (st_eq g104_1)
  have hP : va_P (dC, dI) classes [(oM, .inr (12, ((((fm.set 1 (.int 1)).set 1 (.int 2)).set 1 (.int 3)).set 1 (.int 4)))), (am_tape, .inl (cB, 4020, .inl f96_15))] H := hP
  have hD : va_D A [(oM, .inr (12, ((((fm.set 1 (.int 1)).set 1 (.int 2)).set 1 (.int 3)).set 1 (.int 4)))), (am_tape, .inl (cB, 4020, .inl f96_15))] := hD
  refine lv_iinc (k := 1) (v := 4) hx hb d_Mo_feed_107 hl rfl (by first | rfl | decide | exact nI_1 i) (by decide) rfl (fun ls hl => ?_)
  have hl : lv_has ls 8 [(6, .int 4), (7, .int a1), (0, .ref oM), (1, .int a1), (2, .int b1), (3, .int c1), (4, .int d1), (5, .int e1)] := hl
  refine lv_goto (tgt := 19) hx hb d_Mo_feed_110 (by decide) ?_
  refine lv_iload hx hb d_Mo_feed_19 (lv_at hl 0 rfl) ?_
  refine lv_bipush (v := 20) hx hb d_Mo_feed_21 (by decide) ?_
  refine lv_icmp_ge (tgt := 113) hx hb d_Mo_feed_23 (by decide) (fun h => absurd h (by decide)) (fun _ => ?_)
  refine lv_iload hx hb d_Mo_feed_26 (lv_at hl 0 rfl) ?_
  refine lv_iconst (v := 4) hx hb d_Mo_feed_28 (by decide) ?_
  refine lv_icmp_ge (tgt := 36) hx hb d_Mo_feed_29 (by decide) (fun _ => ?_) (fun h => absurd (by decide) h)
  refine lv_iload hx hb d_Mo_feed_36 (lv_at hl 0 rfl) ?_
  refine lv_bipush (v := 8) hx hb d_Mo_feed_38 (by decide) ?_
  refine lv_icmp_ge (tgt := 47) hx hb d_Mo_feed_40 (by decide) (fun h => absurd h (by decide)) (fun _ => ?_)
  refine lv_iload_n hx hb d_Mo_feed_43 rfl (lv_at hl 4 rfl) ?_
  refine lv_goto (tgt := 72) hx hb d_Mo_feed_44 (by decide) ?_
  refine lv_istore hx hb d_Mo_feed_72 hl (by decide) rfl (fun ls hl => ?_)
  have hl : lv_has ls 8 [(7, .int b1), (6, .int 4), (0, .ref oM), (1, .int a1), (2, .int b1), (3, .int c1), (4, .int d1), (5, .int e1)] := hl
  refine lv_aload_n hx hb d_Mo_feed_74 rfl (lv_at hl 2 rfl) ?_
  refine va_get (D := (dC, dI)) (ci := 12) (v := .ref am_tape) (C := R_Mo) (T := F_Mo) (N := 87) hx hb hts (fun w h => List.mem_cons_of_mem _ (in_Mo w h)) hown hK.1 hP 0 rfl rfl 0 (by decide) (hts _ (List.mem_cons_of_mem _ mw_1786)) (fun _ h9 => h9) g104_0 d_Mo_feed_75 ?_
  refine lv_aload_n hx hb d_Mo_feed_78 rfl (lv_at hl 2 rfl) ?_
  refine va_get (D := (dC, dI)) (ci := 12) (v := .int 4) (C := R_Mo) (T := F_Mo) (N := 87) hx hb hts (fun w h => List.mem_cons_of_mem _ (in_Mo w h)) hown hK.1 hP 0 rfl rfl 1 (by decide) (hts _ (List.mem_cons_of_mem _ mw_1787)) (fun _ h9 => h9) g104_1 d_Mo_feed_79 ?_
  refine lv_iload hx hb d_Mo_feed_82 (lv_at hl 0 rfl) ?_
  refine lv_bipush (v := 24) hx hb d_Mo_feed_84 (by decide) ?_
  refine lv_bipush (v := 8) hx hb d_Mo_feed_86 (by decide) ?_
  refine lv_iload hx hb d_Mo_feed_88 (lv_at hl 1 rfl) ?_
  refine lv_iconst (v := 4) hx hb d_Mo_feed_90 (by decide) ?_
  refine lv_irem hx hb d_Mo_feed_91 (by decide) ?_
  refine lv_topi (fun x0 e0 => ?_)
  obtain rfl : x0 = 0 := e0.trans (by decide)
  refine lv_imul hx hb d_Mo_feed_92 ?_
  refine lv_topi (fun x0 e0 => ?_)
  obtain rfl : x0 = 0 := e0.trans (by decide)
  refine lv_isub hx hb d_Mo_feed_93 ?_
  refine lv_topi (fun x0 e0 => ?_)
  obtain rfl : x0 = 24 := e0.trans (by decide)
  refine lv_iushr hx hb d_Mo_feed_94 rfl ?_
  refine lv_topi (fun z94_17 ez94_17 => ?_)
  refine lv_i2b hx hb d_Mo_feed_95 rfl ?_
  refine lv_topi (fun z95_18 ez95_18 => ?_)
  refine va_bast hx hb hK.1 hP hD hS 1 1 rfl rfl (vp_in_iff.mpr (by decide)) d_Mo_feed_96 (fun H locs hP hD hS => ?_)
  have hP : va_P (dC, dI) classes [(oM, .inr (12, ((((fm.set 1 (.int 1)).set 1 (.int 2)).set 1 (.int 3)).set 1 (.int 4)))), (am_tape, .inl (cB, 4020, .inl ((upd f96_15 (4 : Int32).toNatClampNeg (vp_nar .byte z95_18)))))] H := hP
  have hD : va_D A [(oM, .inr (12, ((((fm.set 1 (.int 1)).set 1 (.int 2)).set 1 (.int 3)).set 1 (.int 4)))), (am_tape, .inl (cB, 4020, .inl ((upd f96_15 (4 : Int32).toNatClampNeg (vp_nar .byte z95_18)))))] := hD
  generalize (upd f96_15 (4 : Int32).toNatClampNeg (vp_nar .byte z95_18)) = f96_19 at hP hD
  refine lv_aload_n hx hb d_Mo_feed_97 rfl (lv_at hl 2 rfl) ?_
  refine lv_dup hx hb d_Mo_feed_98 rfl ?_
  refine va_get (D := (dC, dI)) (ci := 12) (v := .int 4) (C := R_Mo) (T := F_Mo) (N := 87) hx hb hts (fun w h => List.mem_cons_of_mem _ (in_Mo w h)) hown hK.1 hP 0 rfl rfl 1 (by decide) (hts _ (List.mem_cons_of_mem _ mw_1787)) (fun _ h9 => h9) g104_1 d_Mo_feed_99 ?_
  refine lv_iconst (v := 1) hx hb d_Mo_feed_102 (by decide) ?_
  refine lv_iadd hx hb d_Mo_feed_103 ?_
  refine lv_topi (fun x0 e0 => ?_)
  obtain rfl : x0 = 5 := e0.trans (by decide)
  refine va_put (D := (dC, dI)) (ci := 12) (v := .int 5) (ty := .int) (C := R_Mo) (T := F_Mo) (N := 87) hx hb hts (fun w h => List.mem_cons_of_mem _ (in_Mo w h)) t_Mo t_Mo_ok n_Mo hown hK.1 hP hD hS 0 rfl rfl 1 (by decide) (hts _ (List.mem_cons_of_mem _ mw_1787)) (fun _ h9 => h9) rfl (by decide +kernel) rfl rfl (st_lt g104_1) d_Mo_feed_104 (fun H locs hP hD hS => ?_)
  have g104_0 : (((((fm.set 1 (.int 1)).set 1 (.int 2)).set 1 (.int 3)).set 1 (.int 4)).set 1 (.int 5))[0]? = some (.ref am_tape) := (st_ne g104_0 (by decide))
  have g104_1 : (((((fm.set 1 (.int 1)).set 1 (.int 2)).set 1 (.int 3)).set 1 (.int 4)).set 1 (.int 5))[1]? = some (.int 5) := (st_eq g104_1)
  have hP : va_P (dC, dI) classes [(oM, .inr (12, (((((fm.set 1 (.int 1)).set 1 (.int 2)).set 1 (.int 3)).set 1 (.int 4)).set 1 (.int 5)))), (am_tape, .inl (cB, 4020, .inl f96_19))] H := hP
  have hD : va_D A [(oM, .inr (12, (((((fm.set 1 (.int 1)).set 1 (.int 2)).set 1 (.int 3)).set 1 (.int 4)).set 1 (.int 5)))), (am_tape, .inl (cB, 4020, .inl f96_19))] := hD
  refine lv_iinc (k := 1) (v := 5) hx hb d_Mo_feed_107 hl rfl (by first | rfl | decide | exact nI_1 i) (by decide) rfl (fun ls hl => ?_)
  have hl : lv_has ls 8 [(6, .int 5), (7, .int b1), (0, .ref oM), (1, .int a1), (2, .int b1), (3, .int c1), (4, .int d1), (5, .int e1)] := hl
  refine lv_goto (tgt := 19) hx hb d_Mo_feed_110 (by decide) ?_
  refine lv_iload hx hb d_Mo_feed_19 (lv_at hl 0 rfl) ?_
  refine lv_bipush (v := 20) hx hb d_Mo_feed_21 (by decide) ?_
  refine lv_icmp_ge (tgt := 113) hx hb d_Mo_feed_23 (by decide) (fun h => absurd h (by decide)) (fun _ => ?_)
  refine lv_iload hx hb d_Mo_feed_26 (lv_at hl 0 rfl) ?_
  refine lv_iconst (v := 4) hx hb d_Mo_feed_28 (by decide) ?_
  refine lv_icmp_ge (tgt := 36) hx hb d_Mo_feed_29 (by decide) (fun _ => ?_) (fun h => absurd (by decide) h)
  refine lv_iload hx hb d_Mo_feed_36 (lv_at hl 0 rfl) ?_
  refine lv_bipush (v := 8) hx hb d_Mo_feed_38 (by decide) ?_
  refine lv_icmp_ge (tgt := 47) hx hb d_Mo_feed_40 (by decide) (fun h => absurd h (by decide)) (fun _ => ?_)
  refine lv_iload_n hx hb d_Mo_feed_43 rfl (lv_at hl 4 rfl) ?_
  refine lv_goto (tgt := 72) hx hb d_Mo_feed_44 (by decide) ?_
  refine lv_istore hx hb d_Mo_feed_72 hl (by decide) rfl (fun ls hl => ?_)
  have hl : lv_has ls 8 [(7, .int b1), (6, .int 5), (0, .ref oM), (1, .int a1), (2, .int b1), (3, .int c1), (4, .int d1), (5, .int e1)] := hl
  refine lv_aload_n hx hb d_Mo_feed_74 rfl (lv_at hl 2 rfl) ?_
  refine va_get (D := (dC, dI)) (ci := 12) (v := .ref am_tape) (C := R_Mo) (T := F_Mo) (N := 87) hx hb hts (fun w h => List.mem_cons_of_mem _ (in_Mo w h)) hown hK.1 hP 0 rfl rfl 0 (by decide) (hts _ (List.mem_cons_of_mem _ mw_1786)) (fun _ h9 => h9) g104_0 d_Mo_feed_75 ?_
  refine lv_aload_n hx hb d_Mo_feed_78 rfl (lv_at hl 2 rfl) ?_
  refine va_get (D := (dC, dI)) (ci := 12) (v := .int 5) (C := R_Mo) (T := F_Mo) (N := 87) hx hb hts (fun w h => List.mem_cons_of_mem _ (in_Mo w h)) hown hK.1 hP 0 rfl rfl 1 (by decide) (hts _ (List.mem_cons_of_mem _ mw_1787)) (fun _ h9 => h9) g104_1 d_Mo_feed_79 ?_
  refine lv_iload hx hb d_Mo_feed_82 (lv_at hl 0 rfl) ?_
  refine lv_bipush (v := 24) hx hb d_Mo_feed_84 (by decide) ?_
  refine lv_bipush (v := 8) hx hb d_Mo_feed_86 (by decide) ?_
  refine lv_iload hx hb d_Mo_feed_88 (lv_at hl 1 rfl) ?_
  refine lv_iconst (v := 4) hx hb d_Mo_feed_90 (by decide) ?_
  refine lv_irem hx hb d_Mo_feed_91 (by decide) ?_
  refine lv_topi (fun x0 e0 => ?_)
  obtain rfl : x0 = 1 := e0.trans (by decide)
  refine lv_imul hx hb d_Mo_feed_92 ?_
  refine lv_topi (fun x0 e0 => ?_)
  obtain rfl : x0 = 8 := e0.trans (by decide)
  refine lv_isub hx hb d_Mo_feed_93 ?_
  refine lv_topi (fun x0 e0 => ?_)
  obtain rfl : x0 = 16 := e0.trans (by decide)
  refine lv_iushr hx hb d_Mo_feed_94 rfl ?_
  refine lv_topi (fun z94_21 ez94_21 => ?_)
  refine lv_i2b hx hb d_Mo_feed_95 rfl ?_
  refine lv_topi (fun z95_22 ez95_22 => ?_)
  refine va_bast hx hb hK.1 hP hD hS 1 1 rfl rfl (vp_in_iff.mpr (by decide)) d_Mo_feed_96 (fun H locs hP hD hS => ?_)
  have hP : va_P (dC, dI) classes [(oM, .inr (12, (((((fm.set 1 (.int 1)).set 1 (.int 2)).set 1 (.int 3)).set 1 (.int 4)).set 1 (.int 5)))), (am_tape, .inl (cB, 4020, .inl ((upd f96_19 (5 : Int32).toNatClampNeg (vp_nar .byte z95_22)))))] H := hP
  have hD : va_D A [(oM, .inr (12, (((((fm.set 1 (.int 1)).set 1 (.int 2)).set 1 (.int 3)).set 1 (.int 4)).set 1 (.int 5)))), (am_tape, .inl (cB, 4020, .inl ((upd f96_19 (5 : Int32).toNatClampNeg (vp_nar .byte z95_22)))))] := hD
  generalize (upd f96_19 (5 : Int32).toNatClampNeg (vp_nar .byte z95_22)) = f96_23 at hP hD
  refine lv_aload_n hx hb d_Mo_feed_97 rfl (lv_at hl 2 rfl) ?_
  refine lv_dup hx hb d_Mo_feed_98 rfl ?_
  refine va_get (D := (dC, dI)) (ci := 12) (v := .int 5) (C := R_Mo) (T := F_Mo) (N := 87) hx hb hts (fun w h => List.mem_cons_of_mem _ (in_Mo w h)) hown hK.1 hP 0 rfl rfl 1 (by decide) (hts _ (List.mem_cons_of_mem _ mw_1787)) (fun _ h9 => h9) g104_1 d_Mo_feed_99 ?_
  refine lv_iconst (v := 1) hx hb d_Mo_feed_102 (by decide) ?_
  refine lv_iadd hx hb d_Mo_feed_103 ?_
  refine lv_topi (fun x0 e0 => ?_)
  obtain rfl : x0 = 6 := e0.trans (by decide)
  refine va_put (D := (dC, dI)) (ci := 12) (v := .int 6) (ty := .int) (C := R_Mo) (T := F_Mo) (N := 87) hx hb hts (fun w h => List.mem_cons_of_mem _ (in_Mo w h)) t_Mo t_Mo_ok n_Mo hown hK.1 hP hD hS 0 rfl rfl 1 (by decide) (hts _ (List.mem_cons_of_mem _ mw_1787)) (fun _ h9 => h9) rfl (by decide +kernel) rfl rfl (st_lt g104_1) d_Mo_feed_104 (fun H locs hP hD hS => ?_)
  have g104_0 : ((((((fm.set 1 (.int 1)).set 1 (.int 2)).set 1 (.int 3)).set 1 (.int 4)).set 1 (.int 5)).set 1 (.int 6))[0]? = some (.ref am_tape) := (st_ne g104_0 (by decide))
  have g104_1 : ((((((fm.set 1 (.int 1)).set 1 (.int 2)).set 1 (.int 3)).set 1 (.int 4)).set 1 (.int 5)).set 1 (.int 6))[1]? = some (.int 6) := (st_eq g104_1)
  have hP : va_P (dC, dI) classes [(oM, .inr (12, ((((((fm.set 1 (.int 1)).set 1 (.int 2)).set 1 (.int 3)).set 1 (.int 4)).set 1 (.int 5)).set 1 (.int 6)))), (am_tape, .inl (cB, 4020, .inl f96_23))] H := hP
  have hD : va_D A [(oM, .inr (12, ((((((fm.set 1 (.int 1)).set 1 (.int 2)).set 1 (.int 3)).set 1 (.int 4)).set 1 (.int 5)).set 1 (.int 6)))), (am_tape, .inl (cB, 4020, .inl f96_23))] := hD
  refine lv_iinc (k := 1) (v := 6) hx hb d_Mo_feed_107 hl rfl (by first | rfl | decide | exact nI_1 i) (by decide) rfl (fun ls hl => ?_)
  have hl : lv_has ls 8 [(6, .int 6), (7, .int b1), (0, .ref oM), (1, .int a1), (2, .int b1), (3, .int c1), (4, .int d1), (5, .int e1)] := hl
  refine lv_goto (tgt := 19) hx hb d_Mo_feed_110 (by decide) ?_
  refine lv_iload hx hb d_Mo_feed_19 (lv_at hl 0 rfl) ?_
  refine lv_bipush (v := 20) hx hb d_Mo_feed_21 (by decide) ?_
  refine lv_icmp_ge (tgt := 113) hx hb d_Mo_feed_23 (by decide) (fun h => absurd h (by decide)) (fun _ => ?_)
  refine lv_iload hx hb d_Mo_feed_26 (lv_at hl 0 rfl) ?_
  refine lv_iconst (v := 4) hx hb d_Mo_feed_28 (by decide) ?_
  refine lv_icmp_ge (tgt := 36) hx hb d_Mo_feed_29 (by decide) (fun _ => ?_) (fun h => absurd (by decide) h)
  refine lv_iload hx hb d_Mo_feed_36 (lv_at hl 0 rfl) ?_
  refine lv_bipush (v := 8) hx hb d_Mo_feed_38 (by decide) ?_
  refine lv_icmp_ge (tgt := 47) hx hb d_Mo_feed_40 (by decide) (fun h => absurd h (by decide)) (fun _ => ?_)
  refine lv_iload_n hx hb d_Mo_feed_43 rfl (lv_at hl 4 rfl) ?_
  refine lv_goto (tgt := 72) hx hb d_Mo_feed_44 (by decide) ?_
  refine lv_istore hx hb d_Mo_feed_72 hl (by decide) rfl (fun ls hl => ?_)
  have hl : lv_has ls 8 [(7, .int b1), (6, .int 6), (0, .ref oM), (1, .int a1), (2, .int b1), (3, .int c1), (4, .int d1), (5, .int e1)] := hl
  refine lv_aload_n hx hb d_Mo_feed_74 rfl (lv_at hl 2 rfl) ?_
  refine va_get (D := (dC, dI)) (ci := 12) (v := .ref am_tape) (C := R_Mo) (T := F_Mo) (N := 87) hx hb hts (fun w h => List.mem_cons_of_mem _ (in_Mo w h)) hown hK.1 hP 0 rfl rfl 0 (by decide) (hts _ (List.mem_cons_of_mem _ mw_1786)) (fun _ h9 => h9) g104_0 d_Mo_feed_75 ?_
  refine lv_aload_n hx hb d_Mo_feed_78 rfl (lv_at hl 2 rfl) ?_
  refine va_get (D := (dC, dI)) (ci := 12) (v := .int 6) (C := R_Mo) (T := F_Mo) (N := 87) hx hb hts (fun w h => List.mem_cons_of_mem _ (in_Mo w h)) hown hK.1 hP 0 rfl rfl 1 (by decide) (hts _ (List.mem_cons_of_mem _ mw_1787)) (fun _ h9 => h9) g104_1 d_Mo_feed_79 ?_
  refine lv_iload hx hb d_Mo_feed_82 (lv_at hl 0 rfl) ?_
  refine lv_bipush (v := 24) hx hb d_Mo_feed_84 (by decide) ?_
  refine lv_bipush (v := 8) hx hb d_Mo_feed_86 (by decide) ?_
  refine lv_iload hx hb d_Mo_feed_88 (lv_at hl 1 rfl) ?_
  refine lv_iconst (v := 4) hx hb d_Mo_feed_90 (by decide) ?_
  refine lv_irem hx hb d_Mo_feed_91 (by decide) ?_
  refine lv_topi (fun x0 e0 => ?_)
  obtain rfl : x0 = 2 := e0.trans (by decide)
  refine lv_imul hx hb d_Mo_feed_92 ?_
  refine lv_topi (fun x0 e0 => ?_)
  obtain rfl : x0 = 16 := e0.trans (by decide)
  refine lv_isub hx hb d_Mo_feed_93 ?_
  refine lv_topi (fun x0 e0 => ?_)
  obtain rfl : x0 = 8 := e0.trans (by decide)
  refine lv_iushr hx hb d_Mo_feed_94 rfl ?_
  refine lv_topi (fun z94_25 ez94_25 => ?_)
  refine lv_i2b hx hb d_Mo_feed_95 rfl ?_
  refine lv_topi (fun z95_26 ez95_26 => ?_)
  refine va_bast hx hb hK.1 hP hD hS 1 1 rfl rfl (vp_in_iff.mpr (by decide)) d_Mo_feed_96 (fun H locs hP hD hS => ?_)
  have hP : va_P (dC, dI) classes [(oM, .inr (12, ((((((fm.set 1 (.int 1)).set 1 (.int 2)).set 1 (.int 3)).set 1 (.int 4)).set 1 (.int 5)).set 1 (.int 6)))), (am_tape, .inl (cB, 4020, .inl ((upd f96_23 (6 : Int32).toNatClampNeg (vp_nar .byte z95_26)))))] H := hP
  have hD : va_D A [(oM, .inr (12, ((((((fm.set 1 (.int 1)).set 1 (.int 2)).set 1 (.int 3)).set 1 (.int 4)).set 1 (.int 5)).set 1 (.int 6)))), (am_tape, .inl (cB, 4020, .inl ((upd f96_23 (6 : Int32).toNatClampNeg (vp_nar .byte z95_26)))))] := hD
  generalize (upd f96_23 (6 : Int32).toNatClampNeg (vp_nar .byte z95_26)) = f96_27 at hP hD
  refine lv_aload_n hx hb d_Mo_feed_97 rfl (lv_at hl 2 rfl) ?_
  refine lv_dup hx hb d_Mo_feed_98 rfl ?_
  refine va_get (D := (dC, dI)) (ci := 12) (v := .int 6) (C := R_Mo) (T := F_Mo) (N := 87) hx hb hts (fun w h => List.mem_cons_of_mem _ (in_Mo w h)) hown hK.1 hP 0 rfl rfl 1 (by decide) (hts _ (List.mem_cons_of_mem _ mw_1787)) (fun _ h9 => h9) g104_1 d_Mo_feed_99 ?_
  refine lv_iconst (v := 1) hx hb d_Mo_feed_102 (by decide) ?_
  refine lv_iadd hx hb d_Mo_feed_103 ?_
  refine lv_topi (fun x0 e0 => ?_)
  obtain rfl : x0 = 7 := e0.trans (by decide)
  refine va_put (D := (dC, dI)) (ci := 12) (v := .int 7) (ty := .int) (C := R_Mo) (T := F_Mo) (N := 87) hx hb hts (fun w h => List.mem_cons_of_mem _ (in_Mo w h)) t_Mo t_Mo_ok n_Mo hown hK.1 hP hD hS 0 rfl rfl 1 (by decide) (hts _ (List.mem_cons_of_mem _ mw_1787)) (fun _ h9 => h9) rfl (by decide +kernel) rfl rfl (st_lt g104_1) d_Mo_feed_104 (fun H locs hP hD hS => ?_)
  have g104_0 : (((((((fm.set 1 (.int 1)).set 1 (.int 2)).set 1 (.int 3)).set 1 (.int 4)).set 1 (.int 5)).set 1 (.int 6)).set 1 (.int 7))[0]? = some (.ref am_tape) := (st_ne g104_0 (by decide))
  have g104_1 : (((((((fm.set 1 (.int 1)).set 1 (.int 2)).set 1 (.int 3)).set 1 (.int 4)).set 1 (.int 5)).set 1 (.int 6)).set 1 (.int 7))[1]? = some (.int 7) := (st_eq g104_1)
  have hP : va_P (dC, dI) classes [(oM, .inr (12, (((((((fm.set 1 (.int 1)).set 1 (.int 2)).set 1 (.int 3)).set 1 (.int 4)).set 1 (.int 5)).set 1 (.int 6)).set 1 (.int 7)))), (am_tape, .inl (cB, 4020, .inl f96_27))] H := hP
  have hD : va_D A [(oM, .inr (12, (((((((fm.set 1 (.int 1)).set 1 (.int 2)).set 1 (.int 3)).set 1 (.int 4)).set 1 (.int 5)).set 1 (.int 6)).set 1 (.int 7)))), (am_tape, .inl (cB, 4020, .inl f96_27))] := hD
  refine lv_iinc (k := 1) (v := 7) hx hb d_Mo_feed_107 hl rfl (by first | rfl | decide | exact nI_1 i) (by decide) rfl (fun ls hl => ?_)
  have hl : lv_has ls 8 [(6, .int 7), (7, .int b1), (0, .ref oM), (1, .int a1), (2, .int b1), (3, .int c1), (4, .int d1), (5, .int e1)] := hl
  refine lv_goto (tgt := 19) hx hb d_Mo_feed_110 (by decide) ?_
  refine lv_iload hx hb d_Mo_feed_19 (lv_at hl 0 rfl) ?_
  refine lv_bipush (v := 20) hx hb d_Mo_feed_21 (by decide) ?_
  refine lv_icmp_ge (tgt := 113) hx hb d_Mo_feed_23 (by decide) (fun h => absurd h (by decide)) (fun _ => ?_)
  refine lv_iload hx hb d_Mo_feed_26 (lv_at hl 0 rfl) ?_
  refine lv_iconst (v := 4) hx hb d_Mo_feed_28 (by decide) ?_
  refine lv_icmp_ge (tgt := 36) hx hb d_Mo_feed_29 (by decide) (fun _ => ?_) (fun h => absurd (by decide) h)
  refine lv_iload hx hb d_Mo_feed_36 (lv_at hl 0 rfl) ?_
  refine lv_bipush (v := 8) hx hb d_Mo_feed_38 (by decide) ?_
  refine lv_icmp_ge (tgt := 47) hx hb d_Mo_feed_40 (by decide) (fun h => absurd h (by decide)) (fun _ => ?_)
  refine lv_iload_n hx hb d_Mo_feed_43 rfl (lv_at hl 4 rfl) ?_
  refine lv_goto (tgt := 72) hx hb d_Mo_feed_44 (by decide) ?_
  refine lv_istore hx hb d_Mo_feed_72 hl (by decide) rfl (fun ls hl => ?_)
  have hl : lv_has ls 8 [(7, .int b1), (6, .int 7), (0, .ref oM), (1, .int a1), (2, .int b1), (3, .int c1), (4, .int d1), (5, .int e1)] := hl
  refine lv_aload_n hx hb d_Mo_feed_74 rfl (lv_at hl 2 rfl) ?_
  refine va_get (D := (dC, dI)) (ci := 12) (v := .ref am_tape) (C := R_Mo) (T := F_Mo) (N := 87) hx hb hts (fun w h => List.mem_cons_of_mem _ (in_Mo w h)) hown hK.1 hP 0 rfl rfl 0 (by decide) (hts _ (List.mem_cons_of_mem _ mw_1786)) (fun _ h9 => h9) g104_0 d_Mo_feed_75 ?_
  refine lv_aload_n hx hb d_Mo_feed_78 rfl (lv_at hl 2 rfl) ?_
  refine va_get (D := (dC, dI)) (ci := 12) (v := .int 7) (C := R_Mo) (T := F_Mo) (N := 87) hx hb hts (fun w h => List.mem_cons_of_mem _ (in_Mo w h)) hown hK.1 hP 0 rfl rfl 1 (by decide) (hts _ (List.mem_cons_of_mem _ mw_1787)) (fun _ h9 => h9) g104_1 d_Mo_feed_79 ?_
  refine lv_iload hx hb d_Mo_feed_82 (lv_at hl 0 rfl) ?_
  refine lv_bipush (v := 24) hx hb d_Mo_feed_84 (by decide) ?_
  refine lv_bipush (v := 8) hx hb d_Mo_feed_86 (by decide) ?_
  refine lv_iload hx hb d_Mo_feed_88 (lv_at hl 1 rfl) ?_
  refine lv_iconst (v := 4) hx hb d_Mo_feed_90 (by decide) ?_
  refine lv_irem hx hb d_Mo_feed_91 (by decide) ?_
  refine lv_topi (fun x0 e0 => ?_)
  obtain rfl : x0 = 3 := e0.trans (by decide)
  refine lv_imul hx hb d_Mo_feed_92 ?_
  refine lv_topi (fun x0 e0 => ?_)
  obtain rfl : x0 = 24 := e0.trans (by decide)
  refine lv_isub hx hb d_Mo_feed_93 ?_
  refine lv_topi (fun x0 e0 => ?_)
  obtain rfl : x0 = 0 := e0.trans (by decide)
  refine lv_iushr hx hb d_Mo_feed_94 rfl ?_
  refine lv_topi (fun z94_29 ez94_29 => ?_)
  refine lv_i2b hx hb d_Mo_feed_95 rfl ?_
  refine lv_topi (fun z95_30 ez95_30 => ?_)
  refine va_bast hx hb hK.1 hP hD hS 1 1 rfl rfl (vp_in_iff.mpr (by decide)) d_Mo_feed_96 (fun H locs hP hD hS => ?_)
  have hP : va_P (dC, dI) classes [(oM, .inr (12, (((((((fm.set 1 (.int 1)).set 1 (.int 2)).set 1 (.int 3)).set 1 (.int 4)).set 1 (.int 5)).set 1 (.int 6)).set 1 (.int 7)))), (am_tape, .inl (cB, 4020, .inl ((upd f96_27 (7 : Int32).toNatClampNeg (vp_nar .byte z95_30)))))] H := hP
  have hD : va_D A [(oM, .inr (12, (((((((fm.set 1 (.int 1)).set 1 (.int 2)).set 1 (.int 3)).set 1 (.int 4)).set 1 (.int 5)).set 1 (.int 6)).set 1 (.int 7)))), (am_tape, .inl (cB, 4020, .inl ((upd f96_27 (7 : Int32).toNatClampNeg (vp_nar .byte z95_30)))))] := hD
  generalize (upd f96_27 (7 : Int32).toNatClampNeg (vp_nar .byte z95_30)) = f96_31 at hP hD
  refine lv_aload_n hx hb d_Mo_feed_97 rfl (lv_at hl 2 rfl) ?_
  refine lv_dup hx hb d_Mo_feed_98 rfl ?_
  refine va_get (D := (dC, dI)) (ci := 12) (v := .int 7) (C := R_Mo) (T := F_Mo) (N := 87) hx hb hts (fun w h => List.mem_cons_of_mem _ (in_Mo w h)) hown hK.1 hP 0 rfl rfl 1 (by decide) (hts _ (List.mem_cons_of_mem _ mw_1787)) (fun _ h9 => h9) g104_1 d_Mo_feed_99 ?_
  refine lv_iconst (v := 1) hx hb d_Mo_feed_102 (by decide) ?_
  refine lv_iadd hx hb d_Mo_feed_103 ?_
  refine lv_topi (fun x0 e0 => ?_)
  obtain rfl : x0 = 8 := e0.trans (by decide)
  refine va_put (D := (dC, dI)) (ci := 12) (v := .int 8) (ty := .int) (C := R_Mo) (T := F_Mo) (N := 87) hx hb hts (fun w h => List.mem_cons_of_mem _ (in_Mo w h)) t_Mo t_Mo_ok n_Mo hown hK.1 hP hD hS 0 rfl rfl 1 (by decide) (hts _ (List.mem_cons_of_mem _ mw_1787)) (fun _ h9 => h9) rfl (by decide +kernel) rfl rfl (st_lt g104_1) d_Mo_feed_104 (fun H locs hP hD hS => ?_)
  have g104_0 : ((((((((fm.set 1 (.int 1)).set 1 (.int 2)).set 1 (.int 3)).set 1 (.int 4)).set 1 (.int 5)).set 1 (.int 6)).set 1 (.int 7)).set 1 (.int 8))[0]? = some (.ref am_tape) := (st_ne g104_0 (by decide))
  have g104_1 : ((((((((fm.set 1 (.int 1)).set 1 (.int 2)).set 1 (.int 3)).set 1 (.int 4)).set 1 (.int 5)).set 1 (.int 6)).set 1 (.int 7)).set 1 (.int 8))[1]? = some (.int 8) := (st_eq g104_1)
  have hP : va_P (dC, dI) classes [(oM, .inr (12, ((((((((fm.set 1 (.int 1)).set 1 (.int 2)).set 1 (.int 3)).set 1 (.int 4)).set 1 (.int 5)).set 1 (.int 6)).set 1 (.int 7)).set 1 (.int 8)))), (am_tape, .inl (cB, 4020, .inl f96_31))] H := hP
  have hD : va_D A [(oM, .inr (12, ((((((((fm.set 1 (.int 1)).set 1 (.int 2)).set 1 (.int 3)).set 1 (.int 4)).set 1 (.int 5)).set 1 (.int 6)).set 1 (.int 7)).set 1 (.int 8)))), (am_tape, .inl (cB, 4020, .inl f96_31))] := hD
  refine lv_iinc (k := 1) (v := 8) hx hb d_Mo_feed_107 hl rfl (by first | rfl | decide | exact nI_1 i) (by decide) rfl (fun ls hl => ?_)
  have hl : lv_has ls 8 [(6, .int 8), (7, .int b1), (0, .ref oM), (1, .int a1), (2, .int b1), (3, .int c1), (4, .int d1), (5, .int e1)] := hl
  refine lv_goto (tgt := 19) hx hb d_Mo_feed_110 (by decide) ?_
  refine lv_iload hx hb d_Mo_feed_19 (lv_at hl 0 rfl) ?_
  refine lv_bipush (v := 20) hx hb d_Mo_feed_21 (by decide) ?_
  refine lv_icmp_ge (tgt := 113) hx hb d_Mo_feed_23 (by decide) (fun h => absurd h (by decide)) (fun _ => ?_)
  refine lv_iload hx hb d_Mo_feed_26 (lv_at hl 0 rfl) ?_
  refine lv_iconst (v := 4) hx hb d_Mo_feed_28 (by decide) ?_
  refine lv_icmp_ge (tgt := 36) hx hb d_Mo_feed_29 (by decide) (fun _ => ?_) (fun h => absurd (by decide) h)
  refine lv_iload hx hb d_Mo_feed_36 (lv_at hl 0 rfl) ?_
  refine lv_bipush (v := 8) hx hb d_Mo_feed_38 (by decide) ?_
  refine lv_icmp_ge (tgt := 47) hx hb d_Mo_feed_40 (by decide) (fun _ => ?_) (fun h => absurd (by decide) h)
  refine lv_iload hx hb d_Mo_feed_47 (lv_at hl 0 rfl) ?_
  refine lv_bipush (v := 12) hx hb d_Mo_feed_49 (by decide) ?_
  refine lv_icmp_ge (tgt := 58) hx hb d_Mo_feed_51 (by decide) (fun h => absurd h (by decide)) (fun _ => ?_)
  refine lv_iload_n hx hb d_Mo_feed_54 rfl (lv_at hl 5 rfl) ?_
  refine lv_goto (tgt := 72) hx hb d_Mo_feed_55 (by decide) ?_
  refine lv_istore hx hb d_Mo_feed_72 hl (by decide) rfl (fun ls hl => ?_)
  have hl : lv_has ls 8 [(7, .int c1), (6, .int 8), (0, .ref oM), (1, .int a1), (2, .int b1), (3, .int c1), (4, .int d1), (5, .int e1)] := hl
  refine lv_aload_n hx hb d_Mo_feed_74 rfl (lv_at hl 2 rfl) ?_
  refine va_get (D := (dC, dI)) (ci := 12) (v := .ref am_tape) (C := R_Mo) (T := F_Mo) (N := 87) hx hb hts (fun w h => List.mem_cons_of_mem _ (in_Mo w h)) hown hK.1 hP 0 rfl rfl 0 (by decide) (hts _ (List.mem_cons_of_mem _ mw_1786)) (fun _ h9 => h9) g104_0 d_Mo_feed_75 ?_
  refine lv_aload_n hx hb d_Mo_feed_78 rfl (lv_at hl 2 rfl) ?_
  refine va_get (D := (dC, dI)) (ci := 12) (v := .int 8) (C := R_Mo) (T := F_Mo) (N := 87) hx hb hts (fun w h => List.mem_cons_of_mem _ (in_Mo w h)) hown hK.1 hP 0 rfl rfl 1 (by decide) (hts _ (List.mem_cons_of_mem _ mw_1787)) (fun _ h9 => h9) g104_1 d_Mo_feed_79 ?_
  refine lv_iload hx hb d_Mo_feed_82 (lv_at hl 0 rfl) ?_
  refine lv_bipush (v := 24) hx hb d_Mo_feed_84 (by decide) ?_
  refine lv_bipush (v := 8) hx hb d_Mo_feed_86 (by decide) ?_
  refine lv_iload hx hb d_Mo_feed_88 (lv_at hl 1 rfl) ?_
  refine lv_iconst (v := 4) hx hb d_Mo_feed_90 (by decide) ?_
  refine lv_irem hx hb d_Mo_feed_91 (by decide) ?_
  refine lv_topi (fun x0 e0 => ?_)
  obtain rfl : x0 = 0 := e0.trans (by decide)
  refine lv_imul hx hb d_Mo_feed_92 ?_
  refine lv_topi (fun x0 e0 => ?_)
  obtain rfl : x0 = 0 := e0.trans (by decide)
  refine lv_isub hx hb d_Mo_feed_93 ?_
  refine lv_topi (fun x0 e0 => ?_)
  obtain rfl : x0 = 24 := e0.trans (by decide)
  refine lv_iushr hx hb d_Mo_feed_94 rfl ?_
  refine lv_topi (fun z94_33 ez94_33 => ?_)
  refine lv_i2b hx hb d_Mo_feed_95 rfl ?_
  refine lv_topi (fun z95_34 ez95_34 => ?_)
  refine va_bast hx hb hK.1 hP hD hS 1 1 rfl rfl (vp_in_iff.mpr (by decide)) d_Mo_feed_96 (fun H locs hP hD hS => ?_)
  have hP : va_P (dC, dI) classes [(oM, .inr (12, ((((((((fm.set 1 (.int 1)).set 1 (.int 2)).set 1 (.int 3)).set 1 (.int 4)).set 1 (.int 5)).set 1 (.int 6)).set 1 (.int 7)).set 1 (.int 8)))), (am_tape, .inl (cB, 4020, .inl ((upd f96_31 (8 : Int32).toNatClampNeg (vp_nar .byte z95_34)))))] H := hP
  have hD : va_D A [(oM, .inr (12, ((((((((fm.set 1 (.int 1)).set 1 (.int 2)).set 1 (.int 3)).set 1 (.int 4)).set 1 (.int 5)).set 1 (.int 6)).set 1 (.int 7)).set 1 (.int 8)))), (am_tape, .inl (cB, 4020, .inl ((upd f96_31 (8 : Int32).toNatClampNeg (vp_nar .byte z95_34)))))] := hD
  generalize (upd f96_31 (8 : Int32).toNatClampNeg (vp_nar .byte z95_34)) = f96_35 at hP hD
  refine lv_aload_n hx hb d_Mo_feed_97 rfl (lv_at hl 2 rfl) ?_
  refine lv_dup hx hb d_Mo_feed_98 rfl ?_
  refine va_get (D := (dC, dI)) (ci := 12) (v := .int 8) (C := R_Mo) (T := F_Mo) (N := 87) hx hb hts (fun w h => List.mem_cons_of_mem _ (in_Mo w h)) hown hK.1 hP 0 rfl rfl 1 (by decide) (hts _ (List.mem_cons_of_mem _ mw_1787)) (fun _ h9 => h9) g104_1 d_Mo_feed_99 ?_
  refine lv_iconst (v := 1) hx hb d_Mo_feed_102 (by decide) ?_
  refine lv_iadd hx hb d_Mo_feed_103 ?_
  refine lv_topi (fun x0 e0 => ?_)
  obtain rfl : x0 = 9 := e0.trans (by decide)
  refine va_put (D := (dC, dI)) (ci := 12) (v := .int 9) (ty := .int) (C := R_Mo) (T := F_Mo) (N := 87) hx hb hts (fun w h => List.mem_cons_of_mem _ (in_Mo w h)) t_Mo t_Mo_ok n_Mo hown hK.1 hP hD hS 0 rfl rfl 1 (by decide) (hts _ (List.mem_cons_of_mem _ mw_1787)) (fun _ h9 => h9) rfl (by decide +kernel) rfl rfl (st_lt g104_1) d_Mo_feed_104 (fun H locs hP hD hS => ?_)
  have g104_0 : (((((((((fm.set 1 (.int 1)).set 1 (.int 2)).set 1 (.int 3)).set 1 (.int 4)).set 1 (.int 5)).set 1 (.int 6)).set 1 (.int 7)).set 1 (.int 8)).set 1 (.int 9))[0]? = some (.ref am_tape) := (st_ne g104_0 (by decide))
  have g104_1 : (((((((((fm.set 1 (.int 1)).set 1 (.int 2)).set 1 (.int 3)).set 1 (.int 4)).set 1 (.int 5)).set 1 (.int 6)).set 1 (.int 7)).set 1 (.int 8)).set 1 (.int 9))[1]? = some (.int 9) := (st_eq g104_1)
  have hP : va_P (dC, dI) classes [(oM, .inr (12, (((((((((fm.set 1 (.int 1)).set 1 (.int 2)).set 1 (.int 3)).set 1 (.int 4)).set 1 (.int 5)).set 1 (.int 6)).set 1 (.int 7)).set 1 (.int 8)).set 1 (.int 9)))), (am_tape, .inl (cB, 4020, .inl f96_35))] H := hP
  have hD : va_D A [(oM, .inr (12, (((((((((fm.set 1 (.int 1)).set 1 (.int 2)).set 1 (.int 3)).set 1 (.int 4)).set 1 (.int 5)).set 1 (.int 6)).set 1 (.int 7)).set 1 (.int 8)).set 1 (.int 9)))), (am_tape, .inl (cB, 4020, .inl f96_35))] := hD
  refine lv_iinc (k := 1) (v := 9) hx hb d_Mo_feed_107 hl rfl (by first | rfl | decide | exact nI_1 i) (by decide) rfl (fun ls hl => ?_)
  have hl : lv_has ls 8 [(6, .int 9), (7, .int c1), (0, .ref oM), (1, .int a1), (2, .int b1), (3, .int c1), (4, .int d1), (5, .int e1)] := hl
  refine lv_goto (tgt := 19) hx hb d_Mo_feed_110 (by decide) ?_
  refine lv_iload hx hb d_Mo_feed_19 (lv_at hl 0 rfl) ?_
  refine lv_bipush (v := 20) hx hb d_Mo_feed_21 (by decide) ?_
  refine lv_icmp_ge (tgt := 113) hx hb d_Mo_feed_23 (by decide) (fun h => absurd h (by decide)) (fun _ => ?_)
  refine lv_iload hx hb d_Mo_feed_26 (lv_at hl 0 rfl) ?_
  refine lv_iconst (v := 4) hx hb d_Mo_feed_28 (by decide) ?_
  refine lv_icmp_ge (tgt := 36) hx hb d_Mo_feed_29 (by decide) (fun _ => ?_) (fun h => absurd (by decide) h)
  refine lv_iload hx hb d_Mo_feed_36 (lv_at hl 0 rfl) ?_
  refine lv_bipush (v := 8) hx hb d_Mo_feed_38 (by decide) ?_
  refine lv_icmp_ge (tgt := 47) hx hb d_Mo_feed_40 (by decide) (fun _ => ?_) (fun h => absurd (by decide) h)
  refine lv_iload hx hb d_Mo_feed_47 (lv_at hl 0 rfl) ?_
  refine lv_bipush (v := 12) hx hb d_Mo_feed_49 (by decide) ?_
  refine lv_icmp_ge (tgt := 58) hx hb d_Mo_feed_51 (by decide) (fun h => absurd h (by decide)) (fun _ => ?_)
  refine lv_iload_n hx hb d_Mo_feed_54 rfl (lv_at hl 5 rfl) ?_
  refine lv_goto (tgt := 72) hx hb d_Mo_feed_55 (by decide) ?_
  refine lv_istore hx hb d_Mo_feed_72 hl (by decide) rfl (fun ls hl => ?_)
  have hl : lv_has ls 8 [(7, .int c1), (6, .int 9), (0, .ref oM), (1, .int a1), (2, .int b1), (3, .int c1), (4, .int d1), (5, .int e1)] := hl
  refine lv_aload_n hx hb d_Mo_feed_74 rfl (lv_at hl 2 rfl) ?_
  refine va_get (D := (dC, dI)) (ci := 12) (v := .ref am_tape) (C := R_Mo) (T := F_Mo) (N := 87) hx hb hts (fun w h => List.mem_cons_of_mem _ (in_Mo w h)) hown hK.1 hP 0 rfl rfl 0 (by decide) (hts _ (List.mem_cons_of_mem _ mw_1786)) (fun _ h9 => h9) g104_0 d_Mo_feed_75 ?_
  refine lv_aload_n hx hb d_Mo_feed_78 rfl (lv_at hl 2 rfl) ?_
  refine va_get (D := (dC, dI)) (ci := 12) (v := .int 9) (C := R_Mo) (T := F_Mo) (N := 87) hx hb hts (fun w h => List.mem_cons_of_mem _ (in_Mo w h)) hown hK.1 hP 0 rfl rfl 1 (by decide) (hts _ (List.mem_cons_of_mem _ mw_1787)) (fun _ h9 => h9) g104_1 d_Mo_feed_79 ?_
  refine lv_iload hx hb d_Mo_feed_82 (lv_at hl 0 rfl) ?_
  refine lv_bipush (v := 24) hx hb d_Mo_feed_84 (by decide) ?_
  refine lv_bipush (v := 8) hx hb d_Mo_feed_86 (by decide) ?_
  refine lv_iload hx hb d_Mo_feed_88 (lv_at hl 1 rfl) ?_
  refine lv_iconst (v := 4) hx hb d_Mo_feed_90 (by decide) ?_
  refine lv_irem hx hb d_Mo_feed_91 (by decide) ?_
  refine lv_topi (fun x0 e0 => ?_)
  obtain rfl : x0 = 1 := e0.trans (by decide)
  refine lv_imul hx hb d_Mo_feed_92 ?_
  refine lv_topi (fun x0 e0 => ?_)
  obtain rfl : x0 = 8 := e0.trans (by decide)
  refine lv_isub hx hb d_Mo_feed_93 ?_
  refine lv_topi (fun x0 e0 => ?_)
  obtain rfl : x0 = 16 := e0.trans (by decide)
  refine lv_iushr hx hb d_Mo_feed_94 rfl ?_
  refine lv_topi (fun z94_37 ez94_37 => ?_)
  refine lv_i2b hx hb d_Mo_feed_95 rfl ?_
  refine lv_topi (fun z95_38 ez95_38 => ?_)
  refine va_bast hx hb hK.1 hP hD hS 1 1 rfl rfl (vp_in_iff.mpr (by decide)) d_Mo_feed_96 (fun H locs hP hD hS => ?_)
  have hP : va_P (dC, dI) classes [(oM, .inr (12, (((((((((fm.set 1 (.int 1)).set 1 (.int 2)).set 1 (.int 3)).set 1 (.int 4)).set 1 (.int 5)).set 1 (.int 6)).set 1 (.int 7)).set 1 (.int 8)).set 1 (.int 9)))), (am_tape, .inl (cB, 4020, .inl ((upd f96_35 (9 : Int32).toNatClampNeg (vp_nar .byte z95_38)))))] H := hP
  have hD : va_D A [(oM, .inr (12, (((((((((fm.set 1 (.int 1)).set 1 (.int 2)).set 1 (.int 3)).set 1 (.int 4)).set 1 (.int 5)).set 1 (.int 6)).set 1 (.int 7)).set 1 (.int 8)).set 1 (.int 9)))), (am_tape, .inl (cB, 4020, .inl ((upd f96_35 (9 : Int32).toNatClampNeg (vp_nar .byte z95_38)))))] := hD
  generalize (upd f96_35 (9 : Int32).toNatClampNeg (vp_nar .byte z95_38)) = f96_39 at hP hD
  refine lv_aload_n hx hb d_Mo_feed_97 rfl (lv_at hl 2 rfl) ?_
  refine lv_dup hx hb d_Mo_feed_98 rfl ?_
  refine va_get (D := (dC, dI)) (ci := 12) (v := .int 9) (C := R_Mo) (T := F_Mo) (N := 87) hx hb hts (fun w h => List.mem_cons_of_mem _ (in_Mo w h)) hown hK.1 hP 0 rfl rfl 1 (by decide) (hts _ (List.mem_cons_of_mem _ mw_1787)) (fun _ h9 => h9) g104_1 d_Mo_feed_99 ?_
  refine lv_iconst (v := 1) hx hb d_Mo_feed_102 (by decide) ?_
  refine lv_iadd hx hb d_Mo_feed_103 ?_
  refine lv_topi (fun x0 e0 => ?_)
  obtain rfl : x0 = 10 := e0.trans (by decide)
  refine va_put (D := (dC, dI)) (ci := 12) (v := .int 10) (ty := .int) (C := R_Mo) (T := F_Mo) (N := 87) hx hb hts (fun w h => List.mem_cons_of_mem _ (in_Mo w h)) t_Mo t_Mo_ok n_Mo hown hK.1 hP hD hS 0 rfl rfl 1 (by decide) (hts _ (List.mem_cons_of_mem _ mw_1787)) (fun _ h9 => h9) rfl (by decide +kernel) rfl rfl (st_lt g104_1) d_Mo_feed_104 (fun H locs hP hD hS => ?_)
  have g104_0 : ((((((((((fm.set 1 (.int 1)).set 1 (.int 2)).set 1 (.int 3)).set 1 (.int 4)).set 1 (.int 5)).set 1 (.int 6)).set 1 (.int 7)).set 1 (.int 8)).set 1 (.int 9)).set 1 (.int 10))[0]? = some (.ref am_tape) := (st_ne g104_0 (by decide))
  have g104_1 : ((((((((((fm.set 1 (.int 1)).set 1 (.int 2)).set 1 (.int 3)).set 1 (.int 4)).set 1 (.int 5)).set 1 (.int 6)).set 1 (.int 7)).set 1 (.int 8)).set 1 (.int 9)).set 1 (.int 10))[1]? = some (.int 10) := (st_eq g104_1)
  have hP : va_P (dC, dI) classes [(oM, .inr (12, ((((((((((fm.set 1 (.int 1)).set 1 (.int 2)).set 1 (.int 3)).set 1 (.int 4)).set 1 (.int 5)).set 1 (.int 6)).set 1 (.int 7)).set 1 (.int 8)).set 1 (.int 9)).set 1 (.int 10)))), (am_tape, .inl (cB, 4020, .inl f96_39))] H := hP
  have hD : va_D A [(oM, .inr (12, ((((((((((fm.set 1 (.int 1)).set 1 (.int 2)).set 1 (.int 3)).set 1 (.int 4)).set 1 (.int 5)).set 1 (.int 6)).set 1 (.int 7)).set 1 (.int 8)).set 1 (.int 9)).set 1 (.int 10)))), (am_tape, .inl (cB, 4020, .inl f96_39))] := hD
  refine lv_iinc (k := 1) (v := 10) hx hb d_Mo_feed_107 hl rfl (by first | rfl | decide | exact nI_1 i) (by decide) rfl (fun ls hl => ?_)
  have hl : lv_has ls 8 [(6, .int 10), (7, .int c1), (0, .ref oM), (1, .int a1), (2, .int b1), (3, .int c1), (4, .int d1), (5, .int e1)] := hl
  refine lv_goto (tgt := 19) hx hb d_Mo_feed_110 (by decide) ?_
  refine lv_iload hx hb d_Mo_feed_19 (lv_at hl 0 rfl) ?_
  refine lv_bipush (v := 20) hx hb d_Mo_feed_21 (by decide) ?_
  refine lv_icmp_ge (tgt := 113) hx hb d_Mo_feed_23 (by decide) (fun h => absurd h (by decide)) (fun _ => ?_)
  refine lv_iload hx hb d_Mo_feed_26 (lv_at hl 0 rfl) ?_
  refine lv_iconst (v := 4) hx hb d_Mo_feed_28 (by decide) ?_
  refine lv_icmp_ge (tgt := 36) hx hb d_Mo_feed_29 (by decide) (fun _ => ?_) (fun h => absurd (by decide) h)
  refine lv_iload hx hb d_Mo_feed_36 (lv_at hl 0 rfl) ?_
  refine lv_bipush (v := 8) hx hb d_Mo_feed_38 (by decide) ?_
  refine lv_icmp_ge (tgt := 47) hx hb d_Mo_feed_40 (by decide) (fun _ => ?_) (fun h => absurd (by decide) h)
  refine lv_iload hx hb d_Mo_feed_47 (lv_at hl 0 rfl) ?_
  refine lv_bipush (v := 12) hx hb d_Mo_feed_49 (by decide) ?_
  refine lv_icmp_ge (tgt := 58) hx hb d_Mo_feed_51 (by decide) (fun h => absurd h (by decide)) (fun _ => ?_)
  refine lv_iload_n hx hb d_Mo_feed_54 rfl (lv_at hl 5 rfl) ?_
  refine lv_goto (tgt := 72) hx hb d_Mo_feed_55 (by decide) ?_
  refine lv_istore hx hb d_Mo_feed_72 hl (by decide) rfl (fun ls hl => ?_)
  have hl : lv_has ls 8 [(7, .int c1), (6, .int 10), (0, .ref oM), (1, .int a1), (2, .int b1), (3, .int c1), (4, .int d1), (5, .int e1)] := hl
  refine lv_aload_n hx hb d_Mo_feed_74 rfl (lv_at hl 2 rfl) ?_
  refine va_get (D := (dC, dI)) (ci := 12) (v := .ref am_tape) (C := R_Mo) (T := F_Mo) (N := 87) hx hb hts (fun w h => List.mem_cons_of_mem _ (in_Mo w h)) hown hK.1 hP 0 rfl rfl 0 (by decide) (hts _ (List.mem_cons_of_mem _ mw_1786)) (fun _ h9 => h9) g104_0 d_Mo_feed_75 ?_
  refine lv_aload_n hx hb d_Mo_feed_78 rfl (lv_at hl 2 rfl) ?_
  refine va_get (D := (dC, dI)) (ci := 12) (v := .int 10) (C := R_Mo) (T := F_Mo) (N := 87) hx hb hts (fun w h => List.mem_cons_of_mem _ (in_Mo w h)) hown hK.1 hP 0 rfl rfl 1 (by decide) (hts _ (List.mem_cons_of_mem _ mw_1787)) (fun _ h9 => h9) g104_1 d_Mo_feed_79 ?_
  refine lv_iload hx hb d_Mo_feed_82 (lv_at hl 0 rfl) ?_
  refine lv_bipush (v := 24) hx hb d_Mo_feed_84 (by decide) ?_
  refine lv_bipush (v := 8) hx hb d_Mo_feed_86 (by decide) ?_
  refine lv_iload hx hb d_Mo_feed_88 (lv_at hl 1 rfl) ?_
  refine lv_iconst (v := 4) hx hb d_Mo_feed_90 (by decide) ?_
  refine lv_irem hx hb d_Mo_feed_91 (by decide) ?_
  refine lv_topi (fun x0 e0 => ?_)
  obtain rfl : x0 = 2 := e0.trans (by decide)
  refine lv_imul hx hb d_Mo_feed_92 ?_
  refine lv_topi (fun x0 e0 => ?_)
  obtain rfl : x0 = 16 := e0.trans (by decide)
  refine lv_isub hx hb d_Mo_feed_93 ?_
  refine lv_topi (fun x0 e0 => ?_)
  obtain rfl : x0 = 8 := e0.trans (by decide)
  refine lv_iushr hx hb d_Mo_feed_94 rfl ?_
  refine lv_topi (fun z94_41 ez94_41 => ?_)
  refine lv_i2b hx hb d_Mo_feed_95 rfl ?_
  refine lv_topi (fun z95_42 ez95_42 => ?_)
  refine va_bast hx hb hK.1 hP hD hS 1 1 rfl rfl (vp_in_iff.mpr (by decide)) d_Mo_feed_96 (fun H locs hP hD hS => ?_)
  have hP : va_P (dC, dI) classes [(oM, .inr (12, ((((((((((fm.set 1 (.int 1)).set 1 (.int 2)).set 1 (.int 3)).set 1 (.int 4)).set 1 (.int 5)).set 1 (.int 6)).set 1 (.int 7)).set 1 (.int 8)).set 1 (.int 9)).set 1 (.int 10)))), (am_tape, .inl (cB, 4020, .inl ((upd f96_39 (10 : Int32).toNatClampNeg (vp_nar .byte z95_42)))))] H := hP
  have hD : va_D A [(oM, .inr (12, ((((((((((fm.set 1 (.int 1)).set 1 (.int 2)).set 1 (.int 3)).set 1 (.int 4)).set 1 (.int 5)).set 1 (.int 6)).set 1 (.int 7)).set 1 (.int 8)).set 1 (.int 9)).set 1 (.int 10)))), (am_tape, .inl (cB, 4020, .inl ((upd f96_39 (10 : Int32).toNatClampNeg (vp_nar .byte z95_42)))))] := hD
  generalize (upd f96_39 (10 : Int32).toNatClampNeg (vp_nar .byte z95_42)) = f96_43 at hP hD
  refine lv_aload_n hx hb d_Mo_feed_97 rfl (lv_at hl 2 rfl) ?_
  refine lv_dup hx hb d_Mo_feed_98 rfl ?_
  refine va_get (D := (dC, dI)) (ci := 12) (v := .int 10) (C := R_Mo) (T := F_Mo) (N := 87) hx hb hts (fun w h => List.mem_cons_of_mem _ (in_Mo w h)) hown hK.1 hP 0 rfl rfl 1 (by decide) (hts _ (List.mem_cons_of_mem _ mw_1787)) (fun _ h9 => h9) g104_1 d_Mo_feed_99 ?_
  refine lv_iconst (v := 1) hx hb d_Mo_feed_102 (by decide) ?_
  refine lv_iadd hx hb d_Mo_feed_103 ?_
  refine lv_topi (fun x0 e0 => ?_)
  obtain rfl : x0 = 11 := e0.trans (by decide)
  refine va_put (D := (dC, dI)) (ci := 12) (v := .int 11) (ty := .int) (C := R_Mo) (T := F_Mo) (N := 87) hx hb hts (fun w h => List.mem_cons_of_mem _ (in_Mo w h)) t_Mo t_Mo_ok n_Mo hown hK.1 hP hD hS 0 rfl rfl 1 (by decide) (hts _ (List.mem_cons_of_mem _ mw_1787)) (fun _ h9 => h9) rfl (by decide +kernel) rfl rfl (st_lt g104_1) d_Mo_feed_104 (fun H locs hP hD hS => ?_)
  have g104_0 : (((((((((((fm.set 1 (.int 1)).set 1 (.int 2)).set 1 (.int 3)).set 1 (.int 4)).set 1 (.int 5)).set 1 (.int 6)).set 1 (.int 7)).set 1 (.int 8)).set 1 (.int 9)).set 1 (.int 10)).set 1 (.int 11))[0]? = some (.ref am_tape) := (st_ne g104_0 (by decide))
  have g104_1 : (((((((((((fm.set 1 (.int 1)).set 1 (.int 2)).set 1 (.int 3)).set 1 (.int 4)).set 1 (.int 5)).set 1 (.int 6)).set 1 (.int 7)).set 1 (.int 8)).set 1 (.int 9)).set 1 (.int 10)).set 1 (.int 11))[1]? = some (.int 11) := (st_eq g104_1)
  have hP : va_P (dC, dI) classes [(oM, .inr (12, (((((((((((fm.set 1 (.int 1)).set 1 (.int 2)).set 1 (.int 3)).set 1 (.int 4)).set 1 (.int 5)).set 1 (.int 6)).set 1 (.int 7)).set 1 (.int 8)).set 1 (.int 9)).set 1 (.int 10)).set 1 (.int 11)))), (am_tape, .inl (cB, 4020, .inl f96_43))] H := hP
  have hD : va_D A [(oM, .inr (12, (((((((((((fm.set 1 (.int 1)).set 1 (.int 2)).set 1 (.int 3)).set 1 (.int 4)).set 1 (.int 5)).set 1 (.int 6)).set 1 (.int 7)).set 1 (.int 8)).set 1 (.int 9)).set 1 (.int 10)).set 1 (.int 11)))), (am_tape, .inl (cB, 4020, .inl f96_43))] := hD
  refine lv_iinc (k := 1) (v := 11) hx hb d_Mo_feed_107 hl rfl (by first | rfl | decide | exact nI_1 i) (by decide) rfl (fun ls hl => ?_)
  have hl : lv_has ls 8 [(6, .int 11), (7, .int c1), (0, .ref oM), (1, .int a1), (2, .int b1), (3, .int c1), (4, .int d1), (5, .int e1)] := hl
  refine lv_goto (tgt := 19) hx hb d_Mo_feed_110 (by decide) ?_
  refine lv_iload hx hb d_Mo_feed_19 (lv_at hl 0 rfl) ?_
  refine lv_bipush (v := 20) hx hb d_Mo_feed_21 (by decide) ?_
  refine lv_icmp_ge (tgt := 113) hx hb d_Mo_feed_23 (by decide) (fun h => absurd h (by decide)) (fun _ => ?_)
  refine lv_iload hx hb d_Mo_feed_26 (lv_at hl 0 rfl) ?_
  refine lv_iconst (v := 4) hx hb d_Mo_feed_28 (by decide) ?_
  refine lv_icmp_ge (tgt := 36) hx hb d_Mo_feed_29 (by decide) (fun _ => ?_) (fun h => absurd (by decide) h)
  refine lv_iload hx hb d_Mo_feed_36 (lv_at hl 0 rfl) ?_
  refine lv_bipush (v := 8) hx hb d_Mo_feed_38 (by decide) ?_
  refine lv_icmp_ge (tgt := 47) hx hb d_Mo_feed_40 (by decide) (fun _ => ?_) (fun h => absurd (by decide) h)
  refine lv_iload hx hb d_Mo_feed_47 (lv_at hl 0 rfl) ?_
  refine lv_bipush (v := 12) hx hb d_Mo_feed_49 (by decide) ?_
  refine lv_icmp_ge (tgt := 58) hx hb d_Mo_feed_51 (by decide) (fun h => absurd h (by decide)) (fun _ => ?_)
  refine lv_iload_n hx hb d_Mo_feed_54 rfl (lv_at hl 5 rfl) ?_
  refine lv_goto (tgt := 72) hx hb d_Mo_feed_55 (by decide) ?_
  refine lv_istore hx hb d_Mo_feed_72 hl (by decide) rfl (fun ls hl => ?_)
  have hl : lv_has ls 8 [(7, .int c1), (6, .int 11), (0, .ref oM), (1, .int a1), (2, .int b1), (3, .int c1), (4, .int d1), (5, .int e1)] := hl
  refine lv_aload_n hx hb d_Mo_feed_74 rfl (lv_at hl 2 rfl) ?_
  refine va_get (D := (dC, dI)) (ci := 12) (v := .ref am_tape) (C := R_Mo) (T := F_Mo) (N := 87) hx hb hts (fun w h => List.mem_cons_of_mem _ (in_Mo w h)) hown hK.1 hP 0 rfl rfl 0 (by decide) (hts _ (List.mem_cons_of_mem _ mw_1786)) (fun _ h9 => h9) g104_0 d_Mo_feed_75 ?_
  refine lv_aload_n hx hb d_Mo_feed_78 rfl (lv_at hl 2 rfl) ?_
  refine va_get (D := (dC, dI)) (ci := 12) (v := .int 11) (C := R_Mo) (T := F_Mo) (N := 87) hx hb hts (fun w h => List.mem_cons_of_mem _ (in_Mo w h)) hown hK.1 hP 0 rfl rfl 1 (by decide) (hts _ (List.mem_cons_of_mem _ mw_1787)) (fun _ h9 => h9) g104_1 d_Mo_feed_79 ?_
  refine lv_iload hx hb d_Mo_feed_82 (lv_at hl 0 rfl) ?_
  refine lv_bipush (v := 24) hx hb d_Mo_feed_84 (by decide) ?_
  refine lv_bipush (v := 8) hx hb d_Mo_feed_86 (by decide) ?_
  refine lv_iload hx hb d_Mo_feed_88 (lv_at hl 1 rfl) ?_
  refine lv_iconst (v := 4) hx hb d_Mo_feed_90 (by decide) ?_
  refine lv_irem hx hb d_Mo_feed_91 (by decide) ?_
  refine lv_topi (fun x0 e0 => ?_)
  obtain rfl : x0 = 3 := e0.trans (by decide)
  refine lv_imul hx hb d_Mo_feed_92 ?_
  refine lv_topi (fun x0 e0 => ?_)
  obtain rfl : x0 = 24 := e0.trans (by decide)
  refine lv_isub hx hb d_Mo_feed_93 ?_
  refine lv_topi (fun x0 e0 => ?_)
  obtain rfl : x0 = 0 := e0.trans (by decide)
  refine lv_iushr hx hb d_Mo_feed_94 rfl ?_
  refine lv_topi (fun z94_45 ez94_45 => ?_)
  refine lv_i2b hx hb d_Mo_feed_95 rfl ?_
  refine lv_topi (fun z95_46 ez95_46 => ?_)
  refine va_bast hx hb hK.1 hP hD hS 1 1 rfl rfl (vp_in_iff.mpr (by decide)) d_Mo_feed_96 (fun H locs hP hD hS => ?_)
  have hP : va_P (dC, dI) classes [(oM, .inr (12, (((((((((((fm.set 1 (.int 1)).set 1 (.int 2)).set 1 (.int 3)).set 1 (.int 4)).set 1 (.int 5)).set 1 (.int 6)).set 1 (.int 7)).set 1 (.int 8)).set 1 (.int 9)).set 1 (.int 10)).set 1 (.int 11)))), (am_tape, .inl (cB, 4020, .inl ((upd f96_43 (11 : Int32).toNatClampNeg (vp_nar .byte z95_46)))))] H := hP
  have hD : va_D A [(oM, .inr (12, (((((((((((fm.set 1 (.int 1)).set 1 (.int 2)).set 1 (.int 3)).set 1 (.int 4)).set 1 (.int 5)).set 1 (.int 6)).set 1 (.int 7)).set 1 (.int 8)).set 1 (.int 9)).set 1 (.int 10)).set 1 (.int 11)))), (am_tape, .inl (cB, 4020, .inl ((upd f96_43 (11 : Int32).toNatClampNeg (vp_nar .byte z95_46)))))] := hD
  generalize (upd f96_43 (11 : Int32).toNatClampNeg (vp_nar .byte z95_46)) = f96_47 at hP hD
  refine lv_aload_n hx hb d_Mo_feed_97 rfl (lv_at hl 2 rfl) ?_
  refine lv_dup hx hb d_Mo_feed_98 rfl ?_
  refine va_get (D := (dC, dI)) (ci := 12) (v := .int 11) (C := R_Mo) (T := F_Mo) (N := 87) hx hb hts (fun w h => List.mem_cons_of_mem _ (in_Mo w h)) hown hK.1 hP 0 rfl rfl 1 (by decide) (hts _ (List.mem_cons_of_mem _ mw_1787)) (fun _ h9 => h9) g104_1 d_Mo_feed_99 ?_
  refine lv_iconst (v := 1) hx hb d_Mo_feed_102 (by decide) ?_
  refine lv_iadd hx hb d_Mo_feed_103 ?_
  refine lv_topi (fun x0 e0 => ?_)
  obtain rfl : x0 = 12 := e0.trans (by decide)
  refine va_put (D := (dC, dI)) (ci := 12) (v := .int 12) (ty := .int) (C := R_Mo) (T := F_Mo) (N := 87) hx hb hts (fun w h => List.mem_cons_of_mem _ (in_Mo w h)) t_Mo t_Mo_ok n_Mo hown hK.1 hP hD hS 0 rfl rfl 1 (by decide) (hts _ (List.mem_cons_of_mem _ mw_1787)) (fun _ h9 => h9) rfl (by decide +kernel) rfl rfl (st_lt g104_1) d_Mo_feed_104 (fun H locs hP hD hS => ?_)
  have g104_0 : ((((((((((((fm.set 1 (.int 1)).set 1 (.int 2)).set 1 (.int 3)).set 1 (.int 4)).set 1 (.int 5)).set 1 (.int 6)).set 1 (.int 7)).set 1 (.int 8)).set 1 (.int 9)).set 1 (.int 10)).set 1 (.int 11)).set 1 (.int 12))[0]? = some (.ref am_tape) := (st_ne g104_0 (by decide))
  have g104_1 : ((((((((((((fm.set 1 (.int 1)).set 1 (.int 2)).set 1 (.int 3)).set 1 (.int 4)).set 1 (.int 5)).set 1 (.int 6)).set 1 (.int 7)).set 1 (.int 8)).set 1 (.int 9)).set 1 (.int 10)).set 1 (.int 11)).set 1 (.int 12))[1]? = some (.int 12) := (st_eq g104_1)
  have hP : va_P (dC, dI) classes [(oM, .inr (12, ((((((((((((fm.set 1 (.int 1)).set 1 (.int 2)).set 1 (.int 3)).set 1 (.int 4)).set 1 (.int 5)).set 1 (.int 6)).set 1 (.int 7)).set 1 (.int 8)).set 1 (.int 9)).set 1 (.int 10)).set 1 (.int 11)).set 1 (.int 12)))), (am_tape, .inl (cB, 4020, .inl f96_47))] H := hP
  have hD : va_D A [(oM, .inr (12, ((((((((((((fm.set 1 (.int 1)).set 1 (.int 2)).set 1 (.int 3)).set 1 (.int 4)).set 1 (.int 5)).set 1 (.int 6)).set 1 (.int 7)).set 1 (.int 8)).set 1 (.int 9)).set 1 (.int 10)).set 1 (.int 11)).set 1 (.int 12)))), (am_tape, .inl (cB, 4020, .inl f96_47))] := hD
  refine lv_iinc (k := 1) (v := 12) hx hb d_Mo_feed_107 hl rfl (by first | rfl | decide | exact nI_1 i) (by decide) rfl (fun ls hl => ?_)
  have hl : lv_has ls 8 [(6, .int 12), (7, .int c1), (0, .ref oM), (1, .int a1), (2, .int b1), (3, .int c1), (4, .int d1), (5, .int e1)] := hl
  refine lv_goto (tgt := 19) hx hb d_Mo_feed_110 (by decide) ?_
  refine lv_iload hx hb d_Mo_feed_19 (lv_at hl 0 rfl) ?_
  refine lv_bipush (v := 20) hx hb d_Mo_feed_21 (by decide) ?_
  refine lv_icmp_ge (tgt := 113) hx hb d_Mo_feed_23 (by decide) (fun h => absurd h (by decide)) (fun _ => ?_)
  refine lv_iload hx hb d_Mo_feed_26 (lv_at hl 0 rfl) ?_
  refine lv_iconst (v := 4) hx hb d_Mo_feed_28 (by decide) ?_
  refine lv_icmp_ge (tgt := 36) hx hb d_Mo_feed_29 (by decide) (fun _ => ?_) (fun h => absurd (by decide) h)
  refine lv_iload hx hb d_Mo_feed_36 (lv_at hl 0 rfl) ?_
  refine lv_bipush (v := 8) hx hb d_Mo_feed_38 (by decide) ?_
  refine lv_icmp_ge (tgt := 47) hx hb d_Mo_feed_40 (by decide) (fun _ => ?_) (fun h => absurd (by decide) h)
  refine lv_iload hx hb d_Mo_feed_47 (lv_at hl 0 rfl) ?_
  refine lv_bipush (v := 12) hx hb d_Mo_feed_49 (by decide) ?_
  refine lv_icmp_ge (tgt := 58) hx hb d_Mo_feed_51 (by decide) (fun _ => ?_) (fun h => absurd (by decide) h)
  refine lv_iload hx hb d_Mo_feed_58 (lv_at hl 0 rfl) ?_
  refine lv_bipush (v := 16) hx hb d_Mo_feed_60 (by decide) ?_
  refine lv_icmp_ge (tgt := 70) hx hb d_Mo_feed_62 (by decide) (fun h => absurd h (by decide)) (fun _ => ?_)
  refine lv_iload hx hb d_Mo_feed_65 (lv_at hl 6 rfl) ?_
  refine lv_goto (tgt := 72) hx hb d_Mo_feed_67 (by decide) ?_
  refine lv_istore hx hb d_Mo_feed_72 hl (by decide) rfl (fun ls hl => ?_)
  have hl : lv_has ls 8 [(7, .int d1), (6, .int 12), (0, .ref oM), (1, .int a1), (2, .int b1), (3, .int c1), (4, .int d1), (5, .int e1)] := hl
  refine lv_aload_n hx hb d_Mo_feed_74 rfl (lv_at hl 2 rfl) ?_
  refine va_get (D := (dC, dI)) (ci := 12) (v := .ref am_tape) (C := R_Mo) (T := F_Mo) (N := 87) hx hb hts (fun w h => List.mem_cons_of_mem _ (in_Mo w h)) hown hK.1 hP 0 rfl rfl 0 (by decide) (hts _ (List.mem_cons_of_mem _ mw_1786)) (fun _ h9 => h9) g104_0 d_Mo_feed_75 ?_
  refine lv_aload_n hx hb d_Mo_feed_78 rfl (lv_at hl 2 rfl) ?_
  refine va_get (D := (dC, dI)) (ci := 12) (v := .int 12) (C := R_Mo) (T := F_Mo) (N := 87) hx hb hts (fun w h => List.mem_cons_of_mem _ (in_Mo w h)) hown hK.1 hP 0 rfl rfl 1 (by decide) (hts _ (List.mem_cons_of_mem _ mw_1787)) (fun _ h9 => h9) g104_1 d_Mo_feed_79 ?_
  refine lv_iload hx hb d_Mo_feed_82 (lv_at hl 0 rfl) ?_
  refine lv_bipush (v := 24) hx hb d_Mo_feed_84 (by decide) ?_
  refine lv_bipush (v := 8) hx hb d_Mo_feed_86 (by decide) ?_
  refine lv_iload hx hb d_Mo_feed_88 (lv_at hl 1 rfl) ?_
  refine lv_iconst (v := 4) hx hb d_Mo_feed_90 (by decide) ?_
  refine lv_irem hx hb d_Mo_feed_91 (by decide) ?_
  refine lv_topi (fun x0 e0 => ?_)
  obtain rfl : x0 = 0 := e0.trans (by decide)
  refine lv_imul hx hb d_Mo_feed_92 ?_
  refine lv_topi (fun x0 e0 => ?_)
  obtain rfl : x0 = 0 := e0.trans (by decide)
  refine lv_isub hx hb d_Mo_feed_93 ?_
  refine lv_topi (fun x0 e0 => ?_)
  obtain rfl : x0 = 24 := e0.trans (by decide)
  refine lv_iushr hx hb d_Mo_feed_94 rfl ?_
  refine lv_topi (fun z94_49 ez94_49 => ?_)
  refine lv_i2b hx hb d_Mo_feed_95 rfl ?_
  refine lv_topi (fun z95_50 ez95_50 => ?_)
  refine va_bast hx hb hK.1 hP hD hS 1 1 rfl rfl (vp_in_iff.mpr (by decide)) d_Mo_feed_96 (fun H locs hP hD hS => ?_)
  have hP : va_P (dC, dI) classes [(oM, .inr (12, ((((((((((((fm.set 1 (.int 1)).set 1 (.int 2)).set 1 (.int 3)).set 1 (.int 4)).set 1 (.int 5)).set 1 (.int 6)).set 1 (.int 7)).set 1 (.int 8)).set 1 (.int 9)).set 1 (.int 10)).set 1 (.int 11)).set 1 (.int 12)))), (am_tape, .inl (cB, 4020, .inl ((upd f96_47 (12 : Int32).toNatClampNeg (vp_nar .byte z95_50)))))] H := hP
  have hD : va_D A [(oM, .inr (12, ((((((((((((fm.set 1 (.int 1)).set 1 (.int 2)).set 1 (.int 3)).set 1 (.int 4)).set 1 (.int 5)).set 1 (.int 6)).set 1 (.int 7)).set 1 (.int 8)).set 1 (.int 9)).set 1 (.int 10)).set 1 (.int 11)).set 1 (.int 12)))), (am_tape, .inl (cB, 4020, .inl ((upd f96_47 (12 : Int32).toNatClampNeg (vp_nar .byte z95_50)))))] := hD
  generalize (upd f96_47 (12 : Int32).toNatClampNeg (vp_nar .byte z95_50)) = f96_51 at hP hD
  refine lv_aload_n hx hb d_Mo_feed_97 rfl (lv_at hl 2 rfl) ?_
  refine lv_dup hx hb d_Mo_feed_98 rfl ?_
  refine va_get (D := (dC, dI)) (ci := 12) (v := .int 12) (C := R_Mo) (T := F_Mo) (N := 87) hx hb hts (fun w h => List.mem_cons_of_mem _ (in_Mo w h)) hown hK.1 hP 0 rfl rfl 1 (by decide) (hts _ (List.mem_cons_of_mem _ mw_1787)) (fun _ h9 => h9) g104_1 d_Mo_feed_99 ?_
  refine lv_iconst (v := 1) hx hb d_Mo_feed_102 (by decide) ?_
  refine lv_iadd hx hb d_Mo_feed_103 ?_
  refine lv_topi (fun x0 e0 => ?_)
  obtain rfl : x0 = 13 := e0.trans (by decide)
  refine va_put (D := (dC, dI)) (ci := 12) (v := .int 13) (ty := .int) (C := R_Mo) (T := F_Mo) (N := 87) hx hb hts (fun w h => List.mem_cons_of_mem _ (in_Mo w h)) t_Mo t_Mo_ok n_Mo hown hK.1 hP hD hS 0 rfl rfl 1 (by decide) (hts _ (List.mem_cons_of_mem _ mw_1787)) (fun _ h9 => h9) rfl (by decide +kernel) rfl rfl (st_lt g104_1) d_Mo_feed_104 (fun H locs hP hD hS => ?_)
  have g104_0 : (((((((((((((fm.set 1 (.int 1)).set 1 (.int 2)).set 1 (.int 3)).set 1 (.int 4)).set 1 (.int 5)).set 1 (.int 6)).set 1 (.int 7)).set 1 (.int 8)).set 1 (.int 9)).set 1 (.int 10)).set 1 (.int 11)).set 1 (.int 12)).set 1 (.int 13))[0]? = some (.ref am_tape) := (st_ne g104_0 (by decide))
  have g104_1 : (((((((((((((fm.set 1 (.int 1)).set 1 (.int 2)).set 1 (.int 3)).set 1 (.int 4)).set 1 (.int 5)).set 1 (.int 6)).set 1 (.int 7)).set 1 (.int 8)).set 1 (.int 9)).set 1 (.int 10)).set 1 (.int 11)).set 1 (.int 12)).set 1 (.int 13))[1]? = some (.int 13) := (st_eq g104_1)
  have hP : va_P (dC, dI) classes [(oM, .inr (12, (((((((((((((fm.set 1 (.int 1)).set 1 (.int 2)).set 1 (.int 3)).set 1 (.int 4)).set 1 (.int 5)).set 1 (.int 6)).set 1 (.int 7)).set 1 (.int 8)).set 1 (.int 9)).set 1 (.int 10)).set 1 (.int 11)).set 1 (.int 12)).set 1 (.int 13)))), (am_tape, .inl (cB, 4020, .inl f96_51))] H := hP
  have hD : va_D A [(oM, .inr (12, (((((((((((((fm.set 1 (.int 1)).set 1 (.int 2)).set 1 (.int 3)).set 1 (.int 4)).set 1 (.int 5)).set 1 (.int 6)).set 1 (.int 7)).set 1 (.int 8)).set 1 (.int 9)).set 1 (.int 10)).set 1 (.int 11)).set 1 (.int 12)).set 1 (.int 13)))), (am_tape, .inl (cB, 4020, .inl f96_51))] := hD
  refine lv_iinc (k := 1) (v := 13) hx hb d_Mo_feed_107 hl rfl (by first | rfl | decide | exact nI_1 i) (by decide) rfl (fun ls hl => ?_)
  have hl : lv_has ls 8 [(6, .int 13), (7, .int d1), (0, .ref oM), (1, .int a1), (2, .int b1), (3, .int c1), (4, .int d1), (5, .int e1)] := hl
  refine lv_goto (tgt := 19) hx hb d_Mo_feed_110 (by decide) ?_
  refine lv_iload hx hb d_Mo_feed_19 (lv_at hl 0 rfl) ?_
  refine lv_bipush (v := 20) hx hb d_Mo_feed_21 (by decide) ?_
  refine lv_icmp_ge (tgt := 113) hx hb d_Mo_feed_23 (by decide) (fun h => absurd h (by decide)) (fun _ => ?_)
  refine lv_iload hx hb d_Mo_feed_26 (lv_at hl 0 rfl) ?_
  refine lv_iconst (v := 4) hx hb d_Mo_feed_28 (by decide) ?_
  refine lv_icmp_ge (tgt := 36) hx hb d_Mo_feed_29 (by decide) (fun _ => ?_) (fun h => absurd (by decide) h)
  refine lv_iload hx hb d_Mo_feed_36 (lv_at hl 0 rfl) ?_
  refine lv_bipush (v := 8) hx hb d_Mo_feed_38 (by decide) ?_
  refine lv_icmp_ge (tgt := 47) hx hb d_Mo_feed_40 (by decide) (fun _ => ?_) (fun h => absurd (by decide) h)
  refine lv_iload hx hb d_Mo_feed_47 (lv_at hl 0 rfl) ?_
  refine lv_bipush (v := 12) hx hb d_Mo_feed_49 (by decide) ?_
  refine lv_icmp_ge (tgt := 58) hx hb d_Mo_feed_51 (by decide) (fun _ => ?_) (fun h => absurd (by decide) h)
  refine lv_iload hx hb d_Mo_feed_58 (lv_at hl 0 rfl) ?_
  refine lv_bipush (v := 16) hx hb d_Mo_feed_60 (by decide) ?_
  refine lv_icmp_ge (tgt := 70) hx hb d_Mo_feed_62 (by decide) (fun h => absurd h (by decide)) (fun _ => ?_)
  refine lv_iload hx hb d_Mo_feed_65 (lv_at hl 6 rfl) ?_
  refine lv_goto (tgt := 72) hx hb d_Mo_feed_67 (by decide) ?_
  refine lv_istore hx hb d_Mo_feed_72 hl (by decide) rfl (fun ls hl => ?_)
  have hl : lv_has ls 8 [(7, .int d1), (6, .int 13), (0, .ref oM), (1, .int a1), (2, .int b1), (3, .int c1), (4, .int d1), (5, .int e1)] := hl
  refine lv_aload_n hx hb d_Mo_feed_74 rfl (lv_at hl 2 rfl) ?_
  refine va_get (D := (dC, dI)) (ci := 12) (v := .ref am_tape) (C := R_Mo) (T := F_Mo) (N := 87) hx hb hts (fun w h => List.mem_cons_of_mem _ (in_Mo w h)) hown hK.1 hP 0 rfl rfl 0 (by decide) (hts _ (List.mem_cons_of_mem _ mw_1786)) (fun _ h9 => h9) g104_0 d_Mo_feed_75 ?_
  refine lv_aload_n hx hb d_Mo_feed_78 rfl (lv_at hl 2 rfl) ?_
  refine va_get (D := (dC, dI)) (ci := 12) (v := .int 13) (C := R_Mo) (T := F_Mo) (N := 87) hx hb hts (fun w h => List.mem_cons_of_mem _ (in_Mo w h)) hown hK.1 hP 0 rfl rfl 1 (by decide) (hts _ (List.mem_cons_of_mem _ mw_1787)) (fun _ h9 => h9) g104_1 d_Mo_feed_79 ?_
  refine lv_iload hx hb d_Mo_feed_82 (lv_at hl 0 rfl) ?_
  refine lv_bipush (v := 24) hx hb d_Mo_feed_84 (by decide) ?_
  refine lv_bipush (v := 8) hx hb d_Mo_feed_86 (by decide) ?_
  refine lv_iload hx hb d_Mo_feed_88 (lv_at hl 1 rfl) ?_
  refine lv_iconst (v := 4) hx hb d_Mo_feed_90 (by decide) ?_
  refine lv_irem hx hb d_Mo_feed_91 (by decide) ?_
  refine lv_topi (fun x0 e0 => ?_)
  obtain rfl : x0 = 1 := e0.trans (by decide)
  refine lv_imul hx hb d_Mo_feed_92 ?_
  refine lv_topi (fun x0 e0 => ?_)
  obtain rfl : x0 = 8 := e0.trans (by decide)
  refine lv_isub hx hb d_Mo_feed_93 ?_
  refine lv_topi (fun x0 e0 => ?_)
  obtain rfl : x0 = 16 := e0.trans (by decide)
  refine lv_iushr hx hb d_Mo_feed_94 rfl ?_
  refine lv_topi (fun z94_53 ez94_53 => ?_)
  refine lv_i2b hx hb d_Mo_feed_95 rfl ?_
  refine lv_topi (fun z95_54 ez95_54 => ?_)
  refine va_bast hx hb hK.1 hP hD hS 1 1 rfl rfl (vp_in_iff.mpr (by decide)) d_Mo_feed_96 (fun H locs hP hD hS => ?_)
  have hP : va_P (dC, dI) classes [(oM, .inr (12, (((((((((((((fm.set 1 (.int 1)).set 1 (.int 2)).set 1 (.int 3)).set 1 (.int 4)).set 1 (.int 5)).set 1 (.int 6)).set 1 (.int 7)).set 1 (.int 8)).set 1 (.int 9)).set 1 (.int 10)).set 1 (.int 11)).set 1 (.int 12)).set 1 (.int 13)))), (am_tape, .inl (cB, 4020, .inl ((upd f96_51 (13 : Int32).toNatClampNeg (vp_nar .byte z95_54)))))] H := hP
  have hD : va_D A [(oM, .inr (12, (((((((((((((fm.set 1 (.int 1)).set 1 (.int 2)).set 1 (.int 3)).set 1 (.int 4)).set 1 (.int 5)).set 1 (.int 6)).set 1 (.int 7)).set 1 (.int 8)).set 1 (.int 9)).set 1 (.int 10)).set 1 (.int 11)).set 1 (.int 12)).set 1 (.int 13)))), (am_tape, .inl (cB, 4020, .inl ((upd f96_51 (13 : Int32).toNatClampNeg (vp_nar .byte z95_54)))))] := hD
  generalize (upd f96_51 (13 : Int32).toNatClampNeg (vp_nar .byte z95_54)) = f96_55 at hP hD
  refine lv_aload_n hx hb d_Mo_feed_97 rfl (lv_at hl 2 rfl) ?_
  refine lv_dup hx hb d_Mo_feed_98 rfl ?_
  refine va_get (D := (dC, dI)) (ci := 12) (v := .int 13) (C := R_Mo) (T := F_Mo) (N := 87) hx hb hts (fun w h => List.mem_cons_of_mem _ (in_Mo w h)) hown hK.1 hP 0 rfl rfl 1 (by decide) (hts _ (List.mem_cons_of_mem _ mw_1787)) (fun _ h9 => h9) g104_1 d_Mo_feed_99 ?_
  refine lv_iconst (v := 1) hx hb d_Mo_feed_102 (by decide) ?_
  refine lv_iadd hx hb d_Mo_feed_103 ?_
  refine lv_topi (fun x0 e0 => ?_)
  obtain rfl : x0 = 14 := e0.trans (by decide)
  refine va_put (D := (dC, dI)) (ci := 12) (v := .int 14) (ty := .int) (C := R_Mo) (T := F_Mo) (N := 87) hx hb hts (fun w h => List.mem_cons_of_mem _ (in_Mo w h)) t_Mo t_Mo_ok n_Mo hown hK.1 hP hD hS 0 rfl rfl 1 (by decide) (hts _ (List.mem_cons_of_mem _ mw_1787)) (fun _ h9 => h9) rfl (by decide +kernel) rfl rfl (st_lt g104_1) d_Mo_feed_104 (fun H locs hP hD hS => ?_)
  have g104_0 : ((((((((((((((fm.set 1 (.int 1)).set 1 (.int 2)).set 1 (.int 3)).set 1 (.int 4)).set 1 (.int 5)).set 1 (.int 6)).set 1 (.int 7)).set 1 (.int 8)).set 1 (.int 9)).set 1 (.int 10)).set 1 (.int 11)).set 1 (.int 12)).set 1 (.int 13)).set 1 (.int 14))[0]? = some (.ref am_tape) := (st_ne g104_0 (by decide))
  have g104_1 : ((((((((((((((fm.set 1 (.int 1)).set 1 (.int 2)).set 1 (.int 3)).set 1 (.int 4)).set 1 (.int 5)).set 1 (.int 6)).set 1 (.int 7)).set 1 (.int 8)).set 1 (.int 9)).set 1 (.int 10)).set 1 (.int 11)).set 1 (.int 12)).set 1 (.int 13)).set 1 (.int 14))[1]? = some (.int 14) := (st_eq g104_1)
  have hP : va_P (dC, dI) classes [(oM, .inr (12, ((((((((((((((fm.set 1 (.int 1)).set 1 (.int 2)).set 1 (.int 3)).set 1 (.int 4)).set 1 (.int 5)).set 1 (.int 6)).set 1 (.int 7)).set 1 (.int 8)).set 1 (.int 9)).set 1 (.int 10)).set 1 (.int 11)).set 1 (.int 12)).set 1 (.int 13)).set 1 (.int 14)))), (am_tape, .inl (cB, 4020, .inl f96_55))] H := hP
  have hD : va_D A [(oM, .inr (12, ((((((((((((((fm.set 1 (.int 1)).set 1 (.int 2)).set 1 (.int 3)).set 1 (.int 4)).set 1 (.int 5)).set 1 (.int 6)).set 1 (.int 7)).set 1 (.int 8)).set 1 (.int 9)).set 1 (.int 10)).set 1 (.int 11)).set 1 (.int 12)).set 1 (.int 13)).set 1 (.int 14)))), (am_tape, .inl (cB, 4020, .inl f96_55))] := hD
  refine lv_iinc (k := 1) (v := 14) hx hb d_Mo_feed_107 hl rfl (by first | rfl | decide | exact nI_1 i) (by decide) rfl (fun ls hl => ?_)
  have hl : lv_has ls 8 [(6, .int 14), (7, .int d1), (0, .ref oM), (1, .int a1), (2, .int b1), (3, .int c1), (4, .int d1), (5, .int e1)] := hl
  refine lv_goto (tgt := 19) hx hb d_Mo_feed_110 (by decide) ?_
  refine lv_iload hx hb d_Mo_feed_19 (lv_at hl 0 rfl) ?_
  refine lv_bipush (v := 20) hx hb d_Mo_feed_21 (by decide) ?_
  refine lv_icmp_ge (tgt := 113) hx hb d_Mo_feed_23 (by decide) (fun h => absurd h (by decide)) (fun _ => ?_)
  refine lv_iload hx hb d_Mo_feed_26 (lv_at hl 0 rfl) ?_
  refine lv_iconst (v := 4) hx hb d_Mo_feed_28 (by decide) ?_
  refine lv_icmp_ge (tgt := 36) hx hb d_Mo_feed_29 (by decide) (fun _ => ?_) (fun h => absurd (by decide) h)
  refine lv_iload hx hb d_Mo_feed_36 (lv_at hl 0 rfl) ?_
  refine lv_bipush (v := 8) hx hb d_Mo_feed_38 (by decide) ?_
  refine lv_icmp_ge (tgt := 47) hx hb d_Mo_feed_40 (by decide) (fun _ => ?_) (fun h => absurd (by decide) h)
  refine lv_iload hx hb d_Mo_feed_47 (lv_at hl 0 rfl) ?_
  refine lv_bipush (v := 12) hx hb d_Mo_feed_49 (by decide) ?_
  refine lv_icmp_ge (tgt := 58) hx hb d_Mo_feed_51 (by decide) (fun _ => ?_) (fun h => absurd (by decide) h)
  refine lv_iload hx hb d_Mo_feed_58 (lv_at hl 0 rfl) ?_
  refine lv_bipush (v := 16) hx hb d_Mo_feed_60 (by decide) ?_
  refine lv_icmp_ge (tgt := 70) hx hb d_Mo_feed_62 (by decide) (fun h => absurd h (by decide)) (fun _ => ?_)
  refine lv_iload hx hb d_Mo_feed_65 (lv_at hl 6 rfl) ?_
  refine lv_goto (tgt := 72) hx hb d_Mo_feed_67 (by decide) ?_
  refine lv_istore hx hb d_Mo_feed_72 hl (by decide) rfl (fun ls hl => ?_)
  have hl : lv_has ls 8 [(7, .int d1), (6, .int 14), (0, .ref oM), (1, .int a1), (2, .int b1), (3, .int c1), (4, .int d1), (5, .int e1)] := hl
  refine lv_aload_n hx hb d_Mo_feed_74 rfl (lv_at hl 2 rfl) ?_
  refine va_get (D := (dC, dI)) (ci := 12) (v := .ref am_tape) (C := R_Mo) (T := F_Mo) (N := 87) hx hb hts (fun w h => List.mem_cons_of_mem _ (in_Mo w h)) hown hK.1 hP 0 rfl rfl 0 (by decide) (hts _ (List.mem_cons_of_mem _ mw_1786)) (fun _ h9 => h9) g104_0 d_Mo_feed_75 ?_
  refine lv_aload_n hx hb d_Mo_feed_78 rfl (lv_at hl 2 rfl) ?_
  refine va_get (D := (dC, dI)) (ci := 12) (v := .int 14) (C := R_Mo) (T := F_Mo) (N := 87) hx hb hts (fun w h => List.mem_cons_of_mem _ (in_Mo w h)) hown hK.1 hP 0 rfl rfl 1 (by decide) (hts _ (List.mem_cons_of_mem _ mw_1787)) (fun _ h9 => h9) g104_1 d_Mo_feed_79 ?_
  refine lv_iload hx hb d_Mo_feed_82 (lv_at hl 0 rfl) ?_
  refine lv_bipush (v := 24) hx hb d_Mo_feed_84 (by decide) ?_
  refine lv_bipush (v := 8) hx hb d_Mo_feed_86 (by decide) ?_
  refine lv_iload hx hb d_Mo_feed_88 (lv_at hl 1 rfl) ?_
  refine lv_iconst (v := 4) hx hb d_Mo_feed_90 (by decide) ?_
  refine lv_irem hx hb d_Mo_feed_91 (by decide) ?_
  refine lv_topi (fun x0 e0 => ?_)
  obtain rfl : x0 = 2 := e0.trans (by decide)
  refine lv_imul hx hb d_Mo_feed_92 ?_
  refine lv_topi (fun x0 e0 => ?_)
  obtain rfl : x0 = 16 := e0.trans (by decide)
  refine lv_isub hx hb d_Mo_feed_93 ?_
  refine lv_topi (fun x0 e0 => ?_)
  obtain rfl : x0 = 8 := e0.trans (by decide)
  refine lv_iushr hx hb d_Mo_feed_94 rfl ?_
  refine lv_topi (fun z94_57 ez94_57 => ?_)
  refine lv_i2b hx hb d_Mo_feed_95 rfl ?_
  refine lv_topi (fun z95_58 ez95_58 => ?_)
  refine va_bast hx hb hK.1 hP hD hS 1 1 rfl rfl (vp_in_iff.mpr (by decide)) d_Mo_feed_96 (fun H locs hP hD hS => ?_)
  have hP : va_P (dC, dI) classes [(oM, .inr (12, ((((((((((((((fm.set 1 (.int 1)).set 1 (.int 2)).set 1 (.int 3)).set 1 (.int 4)).set 1 (.int 5)).set 1 (.int 6)).set 1 (.int 7)).set 1 (.int 8)).set 1 (.int 9)).set 1 (.int 10)).set 1 (.int 11)).set 1 (.int 12)).set 1 (.int 13)).set 1 (.int 14)))), (am_tape, .inl (cB, 4020, .inl ((upd f96_55 (14 : Int32).toNatClampNeg (vp_nar .byte z95_58)))))] H := hP
  have hD : va_D A [(oM, .inr (12, ((((((((((((((fm.set 1 (.int 1)).set 1 (.int 2)).set 1 (.int 3)).set 1 (.int 4)).set 1 (.int 5)).set 1 (.int 6)).set 1 (.int 7)).set 1 (.int 8)).set 1 (.int 9)).set 1 (.int 10)).set 1 (.int 11)).set 1 (.int 12)).set 1 (.int 13)).set 1 (.int 14)))), (am_tape, .inl (cB, 4020, .inl ((upd f96_55 (14 : Int32).toNatClampNeg (vp_nar .byte z95_58)))))] := hD
  generalize (upd f96_55 (14 : Int32).toNatClampNeg (vp_nar .byte z95_58)) = f96_59 at hP hD
  refine lv_aload_n hx hb d_Mo_feed_97 rfl (lv_at hl 2 rfl) ?_
  refine lv_dup hx hb d_Mo_feed_98 rfl ?_
  refine va_get (D := (dC, dI)) (ci := 12) (v := .int 14) (C := R_Mo) (T := F_Mo) (N := 87) hx hb hts (fun w h => List.mem_cons_of_mem _ (in_Mo w h)) hown hK.1 hP 0 rfl rfl 1 (by decide) (hts _ (List.mem_cons_of_mem _ mw_1787)) (fun _ h9 => h9) g104_1 d_Mo_feed_99 ?_
  refine lv_iconst (v := 1) hx hb d_Mo_feed_102 (by decide) ?_
  refine lv_iadd hx hb d_Mo_feed_103 ?_
  refine lv_topi (fun x0 e0 => ?_)
  obtain rfl : x0 = 15 := e0.trans (by decide)
  refine va_put (D := (dC, dI)) (ci := 12) (v := .int 15) (ty := .int) (C := R_Mo) (T := F_Mo) (N := 87) hx hb hts (fun w h => List.mem_cons_of_mem _ (in_Mo w h)) t_Mo t_Mo_ok n_Mo hown hK.1 hP hD hS 0 rfl rfl 1 (by decide) (hts _ (List.mem_cons_of_mem _ mw_1787)) (fun _ h9 => h9) rfl (by decide +kernel) rfl rfl (st_lt g104_1) d_Mo_feed_104 (fun H locs hP hD hS => ?_)
  have g104_0 : (((((((((((((((fm.set 1 (.int 1)).set 1 (.int 2)).set 1 (.int 3)).set 1 (.int 4)).set 1 (.int 5)).set 1 (.int 6)).set 1 (.int 7)).set 1 (.int 8)).set 1 (.int 9)).set 1 (.int 10)).set 1 (.int 11)).set 1 (.int 12)).set 1 (.int 13)).set 1 (.int 14)).set 1 (.int 15))[0]? = some (.ref am_tape) := (st_ne g104_0 (by decide))
  have g104_1 : (((((((((((((((fm.set 1 (.int 1)).set 1 (.int 2)).set 1 (.int 3)).set 1 (.int 4)).set 1 (.int 5)).set 1 (.int 6)).set 1 (.int 7)).set 1 (.int 8)).set 1 (.int 9)).set 1 (.int 10)).set 1 (.int 11)).set 1 (.int 12)).set 1 (.int 13)).set 1 (.int 14)).set 1 (.int 15))[1]? = some (.int 15) := (st_eq g104_1)
  have hP : va_P (dC, dI) classes [(oM, .inr (12, (((((((((((((((fm.set 1 (.int 1)).set 1 (.int 2)).set 1 (.int 3)).set 1 (.int 4)).set 1 (.int 5)).set 1 (.int 6)).set 1 (.int 7)).set 1 (.int 8)).set 1 (.int 9)).set 1 (.int 10)).set 1 (.int 11)).set 1 (.int 12)).set 1 (.int 13)).set 1 (.int 14)).set 1 (.int 15)))), (am_tape, .inl (cB, 4020, .inl f96_59))] H := hP
  have hD : va_D A [(oM, .inr (12, (((((((((((((((fm.set 1 (.int 1)).set 1 (.int 2)).set 1 (.int 3)).set 1 (.int 4)).set 1 (.int 5)).set 1 (.int 6)).set 1 (.int 7)).set 1 (.int 8)).set 1 (.int 9)).set 1 (.int 10)).set 1 (.int 11)).set 1 (.int 12)).set 1 (.int 13)).set 1 (.int 14)).set 1 (.int 15)))), (am_tape, .inl (cB, 4020, .inl f96_59))] := hD
  refine lv_iinc (k := 1) (v := 15) hx hb d_Mo_feed_107 hl rfl (by first | rfl | decide | exact nI_1 i) (by decide) rfl (fun ls hl => ?_)
  have hl : lv_has ls 8 [(6, .int 15), (7, .int d1), (0, .ref oM), (1, .int a1), (2, .int b1), (3, .int c1), (4, .int d1), (5, .int e1)] := hl
  refine lv_goto (tgt := 19) hx hb d_Mo_feed_110 (by decide) ?_
  refine lv_iload hx hb d_Mo_feed_19 (lv_at hl 0 rfl) ?_
  refine lv_bipush (v := 20) hx hb d_Mo_feed_21 (by decide) ?_
  refine lv_icmp_ge (tgt := 113) hx hb d_Mo_feed_23 (by decide) (fun h => absurd h (by decide)) (fun _ => ?_)
  refine lv_iload hx hb d_Mo_feed_26 (lv_at hl 0 rfl) ?_
  refine lv_iconst (v := 4) hx hb d_Mo_feed_28 (by decide) ?_
  refine lv_icmp_ge (tgt := 36) hx hb d_Mo_feed_29 (by decide) (fun _ => ?_) (fun h => absurd (by decide) h)
  refine lv_iload hx hb d_Mo_feed_36 (lv_at hl 0 rfl) ?_
  refine lv_bipush (v := 8) hx hb d_Mo_feed_38 (by decide) ?_
  refine lv_icmp_ge (tgt := 47) hx hb d_Mo_feed_40 (by decide) (fun _ => ?_) (fun h => absurd (by decide) h)
  refine lv_iload hx hb d_Mo_feed_47 (lv_at hl 0 rfl) ?_
  refine lv_bipush (v := 12) hx hb d_Mo_feed_49 (by decide) ?_
  refine lv_icmp_ge (tgt := 58) hx hb d_Mo_feed_51 (by decide) (fun _ => ?_) (fun h => absurd (by decide) h)
  refine lv_iload hx hb d_Mo_feed_58 (lv_at hl 0 rfl) ?_
  refine lv_bipush (v := 16) hx hb d_Mo_feed_60 (by decide) ?_
  refine lv_icmp_ge (tgt := 70) hx hb d_Mo_feed_62 (by decide) (fun h => absurd h (by decide)) (fun _ => ?_)
  refine lv_iload hx hb d_Mo_feed_65 (lv_at hl 6 rfl) ?_
  refine lv_goto (tgt := 72) hx hb d_Mo_feed_67 (by decide) ?_
  refine lv_istore hx hb d_Mo_feed_72 hl (by decide) rfl (fun ls hl => ?_)
  have hl : lv_has ls 8 [(7, .int d1), (6, .int 15), (0, .ref oM), (1, .int a1), (2, .int b1), (3, .int c1), (4, .int d1), (5, .int e1)] := hl
  refine lv_aload_n hx hb d_Mo_feed_74 rfl (lv_at hl 2 rfl) ?_
  refine va_get (D := (dC, dI)) (ci := 12) (v := .ref am_tape) (C := R_Mo) (T := F_Mo) (N := 87) hx hb hts (fun w h => List.mem_cons_of_mem _ (in_Mo w h)) hown hK.1 hP 0 rfl rfl 0 (by decide) (hts _ (List.mem_cons_of_mem _ mw_1786)) (fun _ h9 => h9) g104_0 d_Mo_feed_75 ?_
  refine lv_aload_n hx hb d_Mo_feed_78 rfl (lv_at hl 2 rfl) ?_
  refine va_get (D := (dC, dI)) (ci := 12) (v := .int 15) (C := R_Mo) (T := F_Mo) (N := 87) hx hb hts (fun w h => List.mem_cons_of_mem _ (in_Mo w h)) hown hK.1 hP 0 rfl rfl 1 (by decide) (hts _ (List.mem_cons_of_mem _ mw_1787)) (fun _ h9 => h9) g104_1 d_Mo_feed_79 ?_
  refine lv_iload hx hb d_Mo_feed_82 (lv_at hl 0 rfl) ?_
  refine lv_bipush (v := 24) hx hb d_Mo_feed_84 (by decide) ?_
  refine lv_bipush (v := 8) hx hb d_Mo_feed_86 (by decide) ?_
  refine lv_iload hx hb d_Mo_feed_88 (lv_at hl 1 rfl) ?_
  refine lv_iconst (v := 4) hx hb d_Mo_feed_90 (by decide) ?_
  refine lv_irem hx hb d_Mo_feed_91 (by decide) ?_
  refine lv_topi (fun x0 e0 => ?_)
  obtain rfl : x0 = 3 := e0.trans (by decide)
  refine lv_imul hx hb d_Mo_feed_92 ?_
  refine lv_topi (fun x0 e0 => ?_)
  obtain rfl : x0 = 24 := e0.trans (by decide)
  refine lv_isub hx hb d_Mo_feed_93 ?_
  refine lv_topi (fun x0 e0 => ?_)
  obtain rfl : x0 = 0 := e0.trans (by decide)
  refine lv_iushr hx hb d_Mo_feed_94 rfl ?_
  refine lv_topi (fun z94_61 ez94_61 => ?_)
  refine lv_i2b hx hb d_Mo_feed_95 rfl ?_
  refine lv_topi (fun z95_62 ez95_62 => ?_)
  refine va_bast hx hb hK.1 hP hD hS 1 1 rfl rfl (vp_in_iff.mpr (by decide)) d_Mo_feed_96 (fun H locs hP hD hS => ?_)
  have hP : va_P (dC, dI) classes [(oM, .inr (12, (((((((((((((((fm.set 1 (.int 1)).set 1 (.int 2)).set 1 (.int 3)).set 1 (.int 4)).set 1 (.int 5)).set 1 (.int 6)).set 1 (.int 7)).set 1 (.int 8)).set 1 (.int 9)).set 1 (.int 10)).set 1 (.int 11)).set 1 (.int 12)).set 1 (.int 13)).set 1 (.int 14)).set 1 (.int 15)))), (am_tape, .inl (cB, 4020, .inl ((upd f96_59 (15 : Int32).toNatClampNeg (vp_nar .byte z95_62)))))] H := hP
  have hD : va_D A [(oM, .inr (12, (((((((((((((((fm.set 1 (.int 1)).set 1 (.int 2)).set 1 (.int 3)).set 1 (.int 4)).set 1 (.int 5)).set 1 (.int 6)).set 1 (.int 7)).set 1 (.int 8)).set 1 (.int 9)).set 1 (.int 10)).set 1 (.int 11)).set 1 (.int 12)).set 1 (.int 13)).set 1 (.int 14)).set 1 (.int 15)))), (am_tape, .inl (cB, 4020, .inl ((upd f96_59 (15 : Int32).toNatClampNeg (vp_nar .byte z95_62)))))] := hD
  generalize (upd f96_59 (15 : Int32).toNatClampNeg (vp_nar .byte z95_62)) = f96_63 at hP hD
  refine lv_aload_n hx hb d_Mo_feed_97 rfl (lv_at hl 2 rfl) ?_
  refine lv_dup hx hb d_Mo_feed_98 rfl ?_
  refine va_get (D := (dC, dI)) (ci := 12) (v := .int 15) (C := R_Mo) (T := F_Mo) (N := 87) hx hb hts (fun w h => List.mem_cons_of_mem _ (in_Mo w h)) hown hK.1 hP 0 rfl rfl 1 (by decide) (hts _ (List.mem_cons_of_mem _ mw_1787)) (fun _ h9 => h9) g104_1 d_Mo_feed_99 ?_
  refine lv_iconst (v := 1) hx hb d_Mo_feed_102 (by decide) ?_
  refine lv_iadd hx hb d_Mo_feed_103 ?_
  refine lv_topi (fun x0 e0 => ?_)
  obtain rfl : x0 = 16 := e0.trans (by decide)
  refine va_put (D := (dC, dI)) (ci := 12) (v := .int 16) (ty := .int) (C := R_Mo) (T := F_Mo) (N := 87) hx hb hts (fun w h => List.mem_cons_of_mem _ (in_Mo w h)) t_Mo t_Mo_ok n_Mo hown hK.1 hP hD hS 0 rfl rfl 1 (by decide) (hts _ (List.mem_cons_of_mem _ mw_1787)) (fun _ h9 => h9) rfl (by decide +kernel) rfl rfl (st_lt g104_1) d_Mo_feed_104 (fun H locs hP hD hS => ?_)
  have g104_0 : ((((((((((((((((fm.set 1 (.int 1)).set 1 (.int 2)).set 1 (.int 3)).set 1 (.int 4)).set 1 (.int 5)).set 1 (.int 6)).set 1 (.int 7)).set 1 (.int 8)).set 1 (.int 9)).set 1 (.int 10)).set 1 (.int 11)).set 1 (.int 12)).set 1 (.int 13)).set 1 (.int 14)).set 1 (.int 15)).set 1 (.int 16))[0]? = some (.ref am_tape) := (st_ne g104_0 (by decide))
  have g104_1 : ((((((((((((((((fm.set 1 (.int 1)).set 1 (.int 2)).set 1 (.int 3)).set 1 (.int 4)).set 1 (.int 5)).set 1 (.int 6)).set 1 (.int 7)).set 1 (.int 8)).set 1 (.int 9)).set 1 (.int 10)).set 1 (.int 11)).set 1 (.int 12)).set 1 (.int 13)).set 1 (.int 14)).set 1 (.int 15)).set 1 (.int 16))[1]? = some (.int 16) := (st_eq g104_1)
  have hP : va_P (dC, dI) classes [(oM, .inr (12, ((((((((((((((((fm.set 1 (.int 1)).set 1 (.int 2)).set 1 (.int 3)).set 1 (.int 4)).set 1 (.int 5)).set 1 (.int 6)).set 1 (.int 7)).set 1 (.int 8)).set 1 (.int 9)).set 1 (.int 10)).set 1 (.int 11)).set 1 (.int 12)).set 1 (.int 13)).set 1 (.int 14)).set 1 (.int 15)).set 1 (.int 16)))), (am_tape, .inl (cB, 4020, .inl f96_63))] H := hP
  have hD : va_D A [(oM, .inr (12, ((((((((((((((((fm.set 1 (.int 1)).set 1 (.int 2)).set 1 (.int 3)).set 1 (.int 4)).set 1 (.int 5)).set 1 (.int 6)).set 1 (.int 7)).set 1 (.int 8)).set 1 (.int 9)).set 1 (.int 10)).set 1 (.int 11)).set 1 (.int 12)).set 1 (.int 13)).set 1 (.int 14)).set 1 (.int 15)).set 1 (.int 16)))), (am_tape, .inl (cB, 4020, .inl f96_63))] := hD
  refine lv_iinc (k := 1) (v := 16) hx hb d_Mo_feed_107 hl rfl (by first | rfl | decide | exact nI_1 i) (by decide) rfl (fun ls hl => ?_)
  have hl : lv_has ls 8 [(6, .int 16), (7, .int d1), (0, .ref oM), (1, .int a1), (2, .int b1), (3, .int c1), (4, .int d1), (5, .int e1)] := hl
  refine lv_goto (tgt := 19) hx hb d_Mo_feed_110 (by decide) ?_
  refine lv_iload hx hb d_Mo_feed_19 (lv_at hl 0 rfl) ?_
  refine lv_bipush (v := 20) hx hb d_Mo_feed_21 (by decide) ?_
  refine lv_icmp_ge (tgt := 113) hx hb d_Mo_feed_23 (by decide) (fun h => absurd h (by decide)) (fun _ => ?_)
  refine lv_iload hx hb d_Mo_feed_26 (lv_at hl 0 rfl) ?_
  refine lv_iconst (v := 4) hx hb d_Mo_feed_28 (by decide) ?_
  refine lv_icmp_ge (tgt := 36) hx hb d_Mo_feed_29 (by decide) (fun _ => ?_) (fun h => absurd (by decide) h)
  refine lv_iload hx hb d_Mo_feed_36 (lv_at hl 0 rfl) ?_
  refine lv_bipush (v := 8) hx hb d_Mo_feed_38 (by decide) ?_
  refine lv_icmp_ge (tgt := 47) hx hb d_Mo_feed_40 (by decide) (fun _ => ?_) (fun h => absurd (by decide) h)
  refine lv_iload hx hb d_Mo_feed_47 (lv_at hl 0 rfl) ?_
  refine lv_bipush (v := 12) hx hb d_Mo_feed_49 (by decide) ?_
  refine lv_icmp_ge (tgt := 58) hx hb d_Mo_feed_51 (by decide) (fun _ => ?_) (fun h => absurd (by decide) h)
  refine lv_iload hx hb d_Mo_feed_58 (lv_at hl 0 rfl) ?_
  refine lv_bipush (v := 16) hx hb d_Mo_feed_60 (by decide) ?_
  refine lv_icmp_ge (tgt := 70) hx hb d_Mo_feed_62 (by decide) (fun _ => ?_) (fun h => absurd (by decide) h)
  refine lv_iload hx hb d_Mo_feed_70 (lv_at hl 7 rfl) ?_
  refine lv_istore hx hb d_Mo_feed_72 hl (by decide) rfl (fun ls hl => ?_)
  have hl : lv_has ls 8 [(7, .int e1), (6, .int 16), (0, .ref oM), (1, .int a1), (2, .int b1), (3, .int c1), (4, .int d1), (5, .int e1)] := hl
  refine lv_aload_n hx hb d_Mo_feed_74 rfl (lv_at hl 2 rfl) ?_
  refine va_get (D := (dC, dI)) (ci := 12) (v := .ref am_tape) (C := R_Mo) (T := F_Mo) (N := 87) hx hb hts (fun w h => List.mem_cons_of_mem _ (in_Mo w h)) hown hK.1 hP 0 rfl rfl 0 (by decide) (hts _ (List.mem_cons_of_mem _ mw_1786)) (fun _ h9 => h9) g104_0 d_Mo_feed_75 ?_
  refine lv_aload_n hx hb d_Mo_feed_78 rfl (lv_at hl 2 rfl) ?_
  refine va_get (D := (dC, dI)) (ci := 12) (v := .int 16) (C := R_Mo) (T := F_Mo) (N := 87) hx hb hts (fun w h => List.mem_cons_of_mem _ (in_Mo w h)) hown hK.1 hP 0 rfl rfl 1 (by decide) (hts _ (List.mem_cons_of_mem _ mw_1787)) (fun _ h9 => h9) g104_1 d_Mo_feed_79 ?_
  refine lv_iload hx hb d_Mo_feed_82 (lv_at hl 0 rfl) ?_
  refine lv_bipush (v := 24) hx hb d_Mo_feed_84 (by decide) ?_
  refine lv_bipush (v := 8) hx hb d_Mo_feed_86 (by decide) ?_
  refine lv_iload hx hb d_Mo_feed_88 (lv_at hl 1 rfl) ?_
  refine lv_iconst (v := 4) hx hb d_Mo_feed_90 (by decide) ?_
  refine lv_irem hx hb d_Mo_feed_91 (by decide) ?_
  refine lv_topi (fun x0 e0 => ?_)
  obtain rfl : x0 = 0 := e0.trans (by decide)
  refine lv_imul hx hb d_Mo_feed_92 ?_
  refine lv_topi (fun x0 e0 => ?_)
  obtain rfl : x0 = 0 := e0.trans (by decide)
  refine lv_isub hx hb d_Mo_feed_93 ?_
  refine lv_topi (fun x0 e0 => ?_)
  obtain rfl : x0 = 24 := e0.trans (by decide)
  refine lv_iushr hx hb d_Mo_feed_94 rfl ?_
  refine lv_topi (fun z94_65 ez94_65 => ?_)
  refine lv_i2b hx hb d_Mo_feed_95 rfl ?_
  refine lv_topi (fun z95_66 ez95_66 => ?_)
  refine va_bast hx hb hK.1 hP hD hS 1 1 rfl rfl (vp_in_iff.mpr (by decide)) d_Mo_feed_96 (fun H locs hP hD hS => ?_)
  have hP : va_P (dC, dI) classes [(oM, .inr (12, ((((((((((((((((fm.set 1 (.int 1)).set 1 (.int 2)).set 1 (.int 3)).set 1 (.int 4)).set 1 (.int 5)).set 1 (.int 6)).set 1 (.int 7)).set 1 (.int 8)).set 1 (.int 9)).set 1 (.int 10)).set 1 (.int 11)).set 1 (.int 12)).set 1 (.int 13)).set 1 (.int 14)).set 1 (.int 15)).set 1 (.int 16)))), (am_tape, .inl (cB, 4020, .inl ((upd f96_63 (16 : Int32).toNatClampNeg (vp_nar .byte z95_66)))))] H := hP
  have hD : va_D A [(oM, .inr (12, ((((((((((((((((fm.set 1 (.int 1)).set 1 (.int 2)).set 1 (.int 3)).set 1 (.int 4)).set 1 (.int 5)).set 1 (.int 6)).set 1 (.int 7)).set 1 (.int 8)).set 1 (.int 9)).set 1 (.int 10)).set 1 (.int 11)).set 1 (.int 12)).set 1 (.int 13)).set 1 (.int 14)).set 1 (.int 15)).set 1 (.int 16)))), (am_tape, .inl (cB, 4020, .inl ((upd f96_63 (16 : Int32).toNatClampNeg (vp_nar .byte z95_66)))))] := hD
  generalize (upd f96_63 (16 : Int32).toNatClampNeg (vp_nar .byte z95_66)) = f96_67 at hP hD
  refine lv_aload_n hx hb d_Mo_feed_97 rfl (lv_at hl 2 rfl) ?_
  refine lv_dup hx hb d_Mo_feed_98 rfl ?_
  refine va_get (D := (dC, dI)) (ci := 12) (v := .int 16) (C := R_Mo) (T := F_Mo) (N := 87) hx hb hts (fun w h => List.mem_cons_of_mem _ (in_Mo w h)) hown hK.1 hP 0 rfl rfl 1 (by decide) (hts _ (List.mem_cons_of_mem _ mw_1787)) (fun _ h9 => h9) g104_1 d_Mo_feed_99 ?_
  refine lv_iconst (v := 1) hx hb d_Mo_feed_102 (by decide) ?_
  refine lv_iadd hx hb d_Mo_feed_103 ?_
  refine lv_topi (fun x0 e0 => ?_)
  obtain rfl : x0 = 17 := e0.trans (by decide)
  refine va_put (D := (dC, dI)) (ci := 12) (v := .int 17) (ty := .int) (C := R_Mo) (T := F_Mo) (N := 87) hx hb hts (fun w h => List.mem_cons_of_mem _ (in_Mo w h)) t_Mo t_Mo_ok n_Mo hown hK.1 hP hD hS 0 rfl rfl 1 (by decide) (hts _ (List.mem_cons_of_mem _ mw_1787)) (fun _ h9 => h9) rfl (by decide +kernel) rfl rfl (st_lt g104_1) d_Mo_feed_104 (fun H locs hP hD hS => ?_)
  have g104_0 : (((((((((((((((((fm.set 1 (.int 1)).set 1 (.int 2)).set 1 (.int 3)).set 1 (.int 4)).set 1 (.int 5)).set 1 (.int 6)).set 1 (.int 7)).set 1 (.int 8)).set 1 (.int 9)).set 1 (.int 10)).set 1 (.int 11)).set 1 (.int 12)).set 1 (.int 13)).set 1 (.int 14)).set 1 (.int 15)).set 1 (.int 16)).set 1 (.int 17))[0]? = some (.ref am_tape) := (st_ne g104_0 (by decide))
  have g104_1 : (((((((((((((((((fm.set 1 (.int 1)).set 1 (.int 2)).set 1 (.int 3)).set 1 (.int 4)).set 1 (.int 5)).set 1 (.int 6)).set 1 (.int 7)).set 1 (.int 8)).set 1 (.int 9)).set 1 (.int 10)).set 1 (.int 11)).set 1 (.int 12)).set 1 (.int 13)).set 1 (.int 14)).set 1 (.int 15)).set 1 (.int 16)).set 1 (.int 17))[1]? = some (.int 17) := (st_eq g104_1)
  have hP : va_P (dC, dI) classes [(oM, .inr (12, (((((((((((((((((fm.set 1 (.int 1)).set 1 (.int 2)).set 1 (.int 3)).set 1 (.int 4)).set 1 (.int 5)).set 1 (.int 6)).set 1 (.int 7)).set 1 (.int 8)).set 1 (.int 9)).set 1 (.int 10)).set 1 (.int 11)).set 1 (.int 12)).set 1 (.int 13)).set 1 (.int 14)).set 1 (.int 15)).set 1 (.int 16)).set 1 (.int 17)))), (am_tape, .inl (cB, 4020, .inl f96_67))] H := hP
  have hD : va_D A [(oM, .inr (12, (((((((((((((((((fm.set 1 (.int 1)).set 1 (.int 2)).set 1 (.int 3)).set 1 (.int 4)).set 1 (.int 5)).set 1 (.int 6)).set 1 (.int 7)).set 1 (.int 8)).set 1 (.int 9)).set 1 (.int 10)).set 1 (.int 11)).set 1 (.int 12)).set 1 (.int 13)).set 1 (.int 14)).set 1 (.int 15)).set 1 (.int 16)).set 1 (.int 17)))), (am_tape, .inl (cB, 4020, .inl f96_67))] := hD
  refine lv_iinc (k := 1) (v := 17) hx hb d_Mo_feed_107 hl rfl (by first | rfl | decide | exact nI_1 i) (by decide) rfl (fun ls hl => ?_)
  have hl : lv_has ls 8 [(6, .int 17), (7, .int e1), (0, .ref oM), (1, .int a1), (2, .int b1), (3, .int c1), (4, .int d1), (5, .int e1)] := hl
  refine lv_goto (tgt := 19) hx hb d_Mo_feed_110 (by decide) ?_
  refine lv_iload hx hb d_Mo_feed_19 (lv_at hl 0 rfl) ?_
  refine lv_bipush (v := 20) hx hb d_Mo_feed_21 (by decide) ?_
  refine lv_icmp_ge (tgt := 113) hx hb d_Mo_feed_23 (by decide) (fun h => absurd h (by decide)) (fun _ => ?_)
  refine lv_iload hx hb d_Mo_feed_26 (lv_at hl 0 rfl) ?_
  refine lv_iconst (v := 4) hx hb d_Mo_feed_28 (by decide) ?_
  refine lv_icmp_ge (tgt := 36) hx hb d_Mo_feed_29 (by decide) (fun _ => ?_) (fun h => absurd (by decide) h)
  refine lv_iload hx hb d_Mo_feed_36 (lv_at hl 0 rfl) ?_
  refine lv_bipush (v := 8) hx hb d_Mo_feed_38 (by decide) ?_
  refine lv_icmp_ge (tgt := 47) hx hb d_Mo_feed_40 (by decide) (fun _ => ?_) (fun h => absurd (by decide) h)
  refine lv_iload hx hb d_Mo_feed_47 (lv_at hl 0 rfl) ?_
  refine lv_bipush (v := 12) hx hb d_Mo_feed_49 (by decide) ?_
  refine lv_icmp_ge (tgt := 58) hx hb d_Mo_feed_51 (by decide) (fun _ => ?_) (fun h => absurd (by decide) h)
  refine lv_iload hx hb d_Mo_feed_58 (lv_at hl 0 rfl) ?_
  refine lv_bipush (v := 16) hx hb d_Mo_feed_60 (by decide) ?_
  refine lv_icmp_ge (tgt := 70) hx hb d_Mo_feed_62 (by decide) (fun _ => ?_) (fun h => absurd (by decide) h)
  refine lv_iload hx hb d_Mo_feed_70 (lv_at hl 7 rfl) ?_
  refine lv_istore hx hb d_Mo_feed_72 hl (by decide) rfl (fun ls hl => ?_)
  have hl : lv_has ls 8 [(7, .int e1), (6, .int 17), (0, .ref oM), (1, .int a1), (2, .int b1), (3, .int c1), (4, .int d1), (5, .int e1)] := hl
  refine lv_aload_n hx hb d_Mo_feed_74 rfl (lv_at hl 2 rfl) ?_
  refine va_get (D := (dC, dI)) (ci := 12) (v := .ref am_tape) (C := R_Mo) (T := F_Mo) (N := 87) hx hb hts (fun w h => List.mem_cons_of_mem _ (in_Mo w h)) hown hK.1 hP 0 rfl rfl 0 (by decide) (hts _ (List.mem_cons_of_mem _ mw_1786)) (fun _ h9 => h9) g104_0 d_Mo_feed_75 ?_
  refine lv_aload_n hx hb d_Mo_feed_78 rfl (lv_at hl 2 rfl) ?_
  refine va_get (D := (dC, dI)) (ci := 12) (v := .int 17) (C := R_Mo) (T := F_Mo) (N := 87) hx hb hts (fun w h => List.mem_cons_of_mem _ (in_Mo w h)) hown hK.1 hP 0 rfl rfl 1 (by decide) (hts _ (List.mem_cons_of_mem _ mw_1787)) (fun _ h9 => h9) g104_1 d_Mo_feed_79 ?_
  refine lv_iload hx hb d_Mo_feed_82 (lv_at hl 0 rfl) ?_
  refine lv_bipush (v := 24) hx hb d_Mo_feed_84 (by decide) ?_
  refine lv_bipush (v := 8) hx hb d_Mo_feed_86 (by decide) ?_
  refine lv_iload hx hb d_Mo_feed_88 (lv_at hl 1 rfl) ?_
  refine lv_iconst (v := 4) hx hb d_Mo_feed_90 (by decide) ?_
  refine lv_irem hx hb d_Mo_feed_91 (by decide) ?_
  refine lv_topi (fun x0 e0 => ?_)
  obtain rfl : x0 = 1 := e0.trans (by decide)
  refine lv_imul hx hb d_Mo_feed_92 ?_
  refine lv_topi (fun x0 e0 => ?_)
  obtain rfl : x0 = 8 := e0.trans (by decide)
  refine lv_isub hx hb d_Mo_feed_93 ?_
  refine lv_topi (fun x0 e0 => ?_)
  obtain rfl : x0 = 16 := e0.trans (by decide)
  refine lv_iushr hx hb d_Mo_feed_94 rfl ?_
  refine lv_topi (fun z94_69 ez94_69 => ?_)
  refine lv_i2b hx hb d_Mo_feed_95 rfl ?_
  refine lv_topi (fun z95_70 ez95_70 => ?_)
  refine va_bast hx hb hK.1 hP hD hS 1 1 rfl rfl (vp_in_iff.mpr (by decide)) d_Mo_feed_96 (fun H locs hP hD hS => ?_)
  have hP : va_P (dC, dI) classes [(oM, .inr (12, (((((((((((((((((fm.set 1 (.int 1)).set 1 (.int 2)).set 1 (.int 3)).set 1 (.int 4)).set 1 (.int 5)).set 1 (.int 6)).set 1 (.int 7)).set 1 (.int 8)).set 1 (.int 9)).set 1 (.int 10)).set 1 (.int 11)).set 1 (.int 12)).set 1 (.int 13)).set 1 (.int 14)).set 1 (.int 15)).set 1 (.int 16)).set 1 (.int 17)))), (am_tape, .inl (cB, 4020, .inl ((upd f96_67 (17 : Int32).toNatClampNeg (vp_nar .byte z95_70)))))] H := hP
  have hD : va_D A [(oM, .inr (12, (((((((((((((((((fm.set 1 (.int 1)).set 1 (.int 2)).set 1 (.int 3)).set 1 (.int 4)).set 1 (.int 5)).set 1 (.int 6)).set 1 (.int 7)).set 1 (.int 8)).set 1 (.int 9)).set 1 (.int 10)).set 1 (.int 11)).set 1 (.int 12)).set 1 (.int 13)).set 1 (.int 14)).set 1 (.int 15)).set 1 (.int 16)).set 1 (.int 17)))), (am_tape, .inl (cB, 4020, .inl ((upd f96_67 (17 : Int32).toNatClampNeg (vp_nar .byte z95_70)))))] := hD
  generalize (upd f96_67 (17 : Int32).toNatClampNeg (vp_nar .byte z95_70)) = f96_71 at hP hD
  refine lv_aload_n hx hb d_Mo_feed_97 rfl (lv_at hl 2 rfl) ?_
  refine lv_dup hx hb d_Mo_feed_98 rfl ?_
  refine va_get (D := (dC, dI)) (ci := 12) (v := .int 17) (C := R_Mo) (T := F_Mo) (N := 87) hx hb hts (fun w h => List.mem_cons_of_mem _ (in_Mo w h)) hown hK.1 hP 0 rfl rfl 1 (by decide) (hts _ (List.mem_cons_of_mem _ mw_1787)) (fun _ h9 => h9) g104_1 d_Mo_feed_99 ?_
  refine lv_iconst (v := 1) hx hb d_Mo_feed_102 (by decide) ?_
  refine lv_iadd hx hb d_Mo_feed_103 ?_
  refine lv_topi (fun x0 e0 => ?_)
  obtain rfl : x0 = 18 := e0.trans (by decide)
  refine va_put (D := (dC, dI)) (ci := 12) (v := .int 18) (ty := .int) (C := R_Mo) (T := F_Mo) (N := 87) hx hb hts (fun w h => List.mem_cons_of_mem _ (in_Mo w h)) t_Mo t_Mo_ok n_Mo hown hK.1 hP hD hS 0 rfl rfl 1 (by decide) (hts _ (List.mem_cons_of_mem _ mw_1787)) (fun _ h9 => h9) rfl (by decide +kernel) rfl rfl (st_lt g104_1) d_Mo_feed_104 (fun H locs hP hD hS => ?_)
  have g104_0 : ((((((((((((((((((fm.set 1 (.int 1)).set 1 (.int 2)).set 1 (.int 3)).set 1 (.int 4)).set 1 (.int 5)).set 1 (.int 6)).set 1 (.int 7)).set 1 (.int 8)).set 1 (.int 9)).set 1 (.int 10)).set 1 (.int 11)).set 1 (.int 12)).set 1 (.int 13)).set 1 (.int 14)).set 1 (.int 15)).set 1 (.int 16)).set 1 (.int 17)).set 1 (.int 18))[0]? = some (.ref am_tape) := (st_ne g104_0 (by decide))
  have g104_1 : ((((((((((((((((((fm.set 1 (.int 1)).set 1 (.int 2)).set 1 (.int 3)).set 1 (.int 4)).set 1 (.int 5)).set 1 (.int 6)).set 1 (.int 7)).set 1 (.int 8)).set 1 (.int 9)).set 1 (.int 10)).set 1 (.int 11)).set 1 (.int 12)).set 1 (.int 13)).set 1 (.int 14)).set 1 (.int 15)).set 1 (.int 16)).set 1 (.int 17)).set 1 (.int 18))[1]? = some (.int 18) := (st_eq g104_1)
  have hP : va_P (dC, dI) classes [(oM, .inr (12, ((((((((((((((((((fm.set 1 (.int 1)).set 1 (.int 2)).set 1 (.int 3)).set 1 (.int 4)).set 1 (.int 5)).set 1 (.int 6)).set 1 (.int 7)).set 1 (.int 8)).set 1 (.int 9)).set 1 (.int 10)).set 1 (.int 11)).set 1 (.int 12)).set 1 (.int 13)).set 1 (.int 14)).set 1 (.int 15)).set 1 (.int 16)).set 1 (.int 17)).set 1 (.int 18)))), (am_tape, .inl (cB, 4020, .inl f96_71))] H := hP
  have hD : va_D A [(oM, .inr (12, ((((((((((((((((((fm.set 1 (.int 1)).set 1 (.int 2)).set 1 (.int 3)).set 1 (.int 4)).set 1 (.int 5)).set 1 (.int 6)).set 1 (.int 7)).set 1 (.int 8)).set 1 (.int 9)).set 1 (.int 10)).set 1 (.int 11)).set 1 (.int 12)).set 1 (.int 13)).set 1 (.int 14)).set 1 (.int 15)).set 1 (.int 16)).set 1 (.int 17)).set 1 (.int 18)))), (am_tape, .inl (cB, 4020, .inl f96_71))] := hD
  refine lv_iinc (k := 1) (v := 18) hx hb d_Mo_feed_107 hl rfl (by first | rfl | decide | exact nI_1 i) (by decide) rfl (fun ls hl => ?_)
  have hl : lv_has ls 8 [(6, .int 18), (7, .int e1), (0, .ref oM), (1, .int a1), (2, .int b1), (3, .int c1), (4, .int d1), (5, .int e1)] := hl
  refine lv_goto (tgt := 19) hx hb d_Mo_feed_110 (by decide) ?_
  refine lv_iload hx hb d_Mo_feed_19 (lv_at hl 0 rfl) ?_
  refine lv_bipush (v := 20) hx hb d_Mo_feed_21 (by decide) ?_
  refine lv_icmp_ge (tgt := 113) hx hb d_Mo_feed_23 (by decide) (fun h => absurd h (by decide)) (fun _ => ?_)
  refine lv_iload hx hb d_Mo_feed_26 (lv_at hl 0 rfl) ?_
  refine lv_iconst (v := 4) hx hb d_Mo_feed_28 (by decide) ?_
  refine lv_icmp_ge (tgt := 36) hx hb d_Mo_feed_29 (by decide) (fun _ => ?_) (fun h => absurd (by decide) h)
  refine lv_iload hx hb d_Mo_feed_36 (lv_at hl 0 rfl) ?_
  refine lv_bipush (v := 8) hx hb d_Mo_feed_38 (by decide) ?_
  refine lv_icmp_ge (tgt := 47) hx hb d_Mo_feed_40 (by decide) (fun _ => ?_) (fun h => absurd (by decide) h)
  refine lv_iload hx hb d_Mo_feed_47 (lv_at hl 0 rfl) ?_
  refine lv_bipush (v := 12) hx hb d_Mo_feed_49 (by decide) ?_
  refine lv_icmp_ge (tgt := 58) hx hb d_Mo_feed_51 (by decide) (fun _ => ?_) (fun h => absurd (by decide) h)
  refine lv_iload hx hb d_Mo_feed_58 (lv_at hl 0 rfl) ?_
  refine lv_bipush (v := 16) hx hb d_Mo_feed_60 (by decide) ?_
  refine lv_icmp_ge (tgt := 70) hx hb d_Mo_feed_62 (by decide) (fun _ => ?_) (fun h => absurd (by decide) h)
  refine lv_iload hx hb d_Mo_feed_70 (lv_at hl 7 rfl) ?_
  refine lv_istore hx hb d_Mo_feed_72 hl (by decide) rfl (fun ls hl => ?_)
  have hl : lv_has ls 8 [(7, .int e1), (6, .int 18), (0, .ref oM), (1, .int a1), (2, .int b1), (3, .int c1), (4, .int d1), (5, .int e1)] := hl
  refine lv_aload_n hx hb d_Mo_feed_74 rfl (lv_at hl 2 rfl) ?_
  refine va_get (D := (dC, dI)) (ci := 12) (v := .ref am_tape) (C := R_Mo) (T := F_Mo) (N := 87) hx hb hts (fun w h => List.mem_cons_of_mem _ (in_Mo w h)) hown hK.1 hP 0 rfl rfl 0 (by decide) (hts _ (List.mem_cons_of_mem _ mw_1786)) (fun _ h9 => h9) g104_0 d_Mo_feed_75 ?_
  refine lv_aload_n hx hb d_Mo_feed_78 rfl (lv_at hl 2 rfl) ?_
  refine va_get (D := (dC, dI)) (ci := 12) (v := .int 18) (C := R_Mo) (T := F_Mo) (N := 87) hx hb hts (fun w h => List.mem_cons_of_mem _ (in_Mo w h)) hown hK.1 hP 0 rfl rfl 1 (by decide) (hts _ (List.mem_cons_of_mem _ mw_1787)) (fun _ h9 => h9) g104_1 d_Mo_feed_79 ?_
  refine lv_iload hx hb d_Mo_feed_82 (lv_at hl 0 rfl) ?_
  refine lv_bipush (v := 24) hx hb d_Mo_feed_84 (by decide) ?_
  refine lv_bipush (v := 8) hx hb d_Mo_feed_86 (by decide) ?_
  refine lv_iload hx hb d_Mo_feed_88 (lv_at hl 1 rfl) ?_
  refine lv_iconst (v := 4) hx hb d_Mo_feed_90 (by decide) ?_
  refine lv_irem hx hb d_Mo_feed_91 (by decide) ?_
  refine lv_topi (fun x0 e0 => ?_)
  obtain rfl : x0 = 2 := e0.trans (by decide)
  refine lv_imul hx hb d_Mo_feed_92 ?_
  refine lv_topi (fun x0 e0 => ?_)
  obtain rfl : x0 = 16 := e0.trans (by decide)
  refine lv_isub hx hb d_Mo_feed_93 ?_
  refine lv_topi (fun x0 e0 => ?_)
  obtain rfl : x0 = 8 := e0.trans (by decide)
  refine lv_iushr hx hb d_Mo_feed_94 rfl ?_
  refine lv_topi (fun z94_73 ez94_73 => ?_)
  refine lv_i2b hx hb d_Mo_feed_95 rfl ?_
  refine lv_topi (fun z95_74 ez95_74 => ?_)
  refine va_bast hx hb hK.1 hP hD hS 1 1 rfl rfl (vp_in_iff.mpr (by decide)) d_Mo_feed_96 (fun H locs hP hD hS => ?_)
  have hP : va_P (dC, dI) classes [(oM, .inr (12, ((((((((((((((((((fm.set 1 (.int 1)).set 1 (.int 2)).set 1 (.int 3)).set 1 (.int 4)).set 1 (.int 5)).set 1 (.int 6)).set 1 (.int 7)).set 1 (.int 8)).set 1 (.int 9)).set 1 (.int 10)).set 1 (.int 11)).set 1 (.int 12)).set 1 (.int 13)).set 1 (.int 14)).set 1 (.int 15)).set 1 (.int 16)).set 1 (.int 17)).set 1 (.int 18)))), (am_tape, .inl (cB, 4020, .inl ((upd f96_71 (18 : Int32).toNatClampNeg (vp_nar .byte z95_74)))))] H := hP
  have hD : va_D A [(oM, .inr (12, ((((((((((((((((((fm.set 1 (.int 1)).set 1 (.int 2)).set 1 (.int 3)).set 1 (.int 4)).set 1 (.int 5)).set 1 (.int 6)).set 1 (.int 7)).set 1 (.int 8)).set 1 (.int 9)).set 1 (.int 10)).set 1 (.int 11)).set 1 (.int 12)).set 1 (.int 13)).set 1 (.int 14)).set 1 (.int 15)).set 1 (.int 16)).set 1 (.int 17)).set 1 (.int 18)))), (am_tape, .inl (cB, 4020, .inl ((upd f96_71 (18 : Int32).toNatClampNeg (vp_nar .byte z95_74)))))] := hD
  generalize (upd f96_71 (18 : Int32).toNatClampNeg (vp_nar .byte z95_74)) = f96_75 at hP hD
  refine lv_aload_n hx hb d_Mo_feed_97 rfl (lv_at hl 2 rfl) ?_
  refine lv_dup hx hb d_Mo_feed_98 rfl ?_
  refine va_get (D := (dC, dI)) (ci := 12) (v := .int 18) (C := R_Mo) (T := F_Mo) (N := 87) hx hb hts (fun w h => List.mem_cons_of_mem _ (in_Mo w h)) hown hK.1 hP 0 rfl rfl 1 (by decide) (hts _ (List.mem_cons_of_mem _ mw_1787)) (fun _ h9 => h9) g104_1 d_Mo_feed_99 ?_
  refine lv_iconst (v := 1) hx hb d_Mo_feed_102 (by decide) ?_
  refine lv_iadd hx hb d_Mo_feed_103 ?_
  refine lv_topi (fun x0 e0 => ?_)
  obtain rfl : x0 = 19 := e0.trans (by decide)
  refine va_put (D := (dC, dI)) (ci := 12) (v := .int 19) (ty := .int) (C := R_Mo) (T := F_Mo) (N := 87) hx hb hts (fun w h => List.mem_cons_of_mem _ (in_Mo w h)) t_Mo t_Mo_ok n_Mo hown hK.1 hP hD hS 0 rfl rfl 1 (by decide) (hts _ (List.mem_cons_of_mem _ mw_1787)) (fun _ h9 => h9) rfl (by decide +kernel) rfl rfl (st_lt g104_1) d_Mo_feed_104 (fun H locs hP hD hS => ?_)
  have g104_0 : (((((((((((((((((((fm.set 1 (.int 1)).set 1 (.int 2)).set 1 (.int 3)).set 1 (.int 4)).set 1 (.int 5)).set 1 (.int 6)).set 1 (.int 7)).set 1 (.int 8)).set 1 (.int 9)).set 1 (.int 10)).set 1 (.int 11)).set 1 (.int 12)).set 1 (.int 13)).set 1 (.int 14)).set 1 (.int 15)).set 1 (.int 16)).set 1 (.int 17)).set 1 (.int 18)).set 1 (.int 19))[0]? = some (.ref am_tape) := (st_ne g104_0 (by decide))
  have g104_1 : (((((((((((((((((((fm.set 1 (.int 1)).set 1 (.int 2)).set 1 (.int 3)).set 1 (.int 4)).set 1 (.int 5)).set 1 (.int 6)).set 1 (.int 7)).set 1 (.int 8)).set 1 (.int 9)).set 1 (.int 10)).set 1 (.int 11)).set 1 (.int 12)).set 1 (.int 13)).set 1 (.int 14)).set 1 (.int 15)).set 1 (.int 16)).set 1 (.int 17)).set 1 (.int 18)).set 1 (.int 19))[1]? = some (.int 19) := (st_eq g104_1)
  have hP : va_P (dC, dI) classes [(oM, .inr (12, (((((((((((((((((((fm.set 1 (.int 1)).set 1 (.int 2)).set 1 (.int 3)).set 1 (.int 4)).set 1 (.int 5)).set 1 (.int 6)).set 1 (.int 7)).set 1 (.int 8)).set 1 (.int 9)).set 1 (.int 10)).set 1 (.int 11)).set 1 (.int 12)).set 1 (.int 13)).set 1 (.int 14)).set 1 (.int 15)).set 1 (.int 16)).set 1 (.int 17)).set 1 (.int 18)).set 1 (.int 19)))), (am_tape, .inl (cB, 4020, .inl f96_75))] H := hP
  have hD : va_D A [(oM, .inr (12, (((((((((((((((((((fm.set 1 (.int 1)).set 1 (.int 2)).set 1 (.int 3)).set 1 (.int 4)).set 1 (.int 5)).set 1 (.int 6)).set 1 (.int 7)).set 1 (.int 8)).set 1 (.int 9)).set 1 (.int 10)).set 1 (.int 11)).set 1 (.int 12)).set 1 (.int 13)).set 1 (.int 14)).set 1 (.int 15)).set 1 (.int 16)).set 1 (.int 17)).set 1 (.int 18)).set 1 (.int 19)))), (am_tape, .inl (cB, 4020, .inl f96_75))] := hD
  refine lv_iinc (k := 1) (v := 19) hx hb d_Mo_feed_107 hl rfl (by first | rfl | decide | exact nI_1 i) (by decide) rfl (fun ls hl => ?_)
  have hl : lv_has ls 8 [(6, .int 19), (7, .int e1), (0, .ref oM), (1, .int a1), (2, .int b1), (3, .int c1), (4, .int d1), (5, .int e1)] := hl
  refine lv_goto (tgt := 19) hx hb d_Mo_feed_110 (by decide) ?_
  refine lv_iload hx hb d_Mo_feed_19 (lv_at hl 0 rfl) ?_
  refine lv_bipush (v := 20) hx hb d_Mo_feed_21 (by decide) ?_
  refine lv_icmp_ge (tgt := 113) hx hb d_Mo_feed_23 (by decide) (fun h => absurd h (by decide)) (fun _ => ?_)
  refine lv_iload hx hb d_Mo_feed_26 (lv_at hl 0 rfl) ?_
  refine lv_iconst (v := 4) hx hb d_Mo_feed_28 (by decide) ?_
  refine lv_icmp_ge (tgt := 36) hx hb d_Mo_feed_29 (by decide) (fun _ => ?_) (fun h => absurd (by decide) h)
  refine lv_iload hx hb d_Mo_feed_36 (lv_at hl 0 rfl) ?_
  refine lv_bipush (v := 8) hx hb d_Mo_feed_38 (by decide) ?_
  refine lv_icmp_ge (tgt := 47) hx hb d_Mo_feed_40 (by decide) (fun _ => ?_) (fun h => absurd (by decide) h)
  refine lv_iload hx hb d_Mo_feed_47 (lv_at hl 0 rfl) ?_
  refine lv_bipush (v := 12) hx hb d_Mo_feed_49 (by decide) ?_
  refine lv_icmp_ge (tgt := 58) hx hb d_Mo_feed_51 (by decide) (fun _ => ?_) (fun h => absurd (by decide) h)
  refine lv_iload hx hb d_Mo_feed_58 (lv_at hl 0 rfl) ?_
  refine lv_bipush (v := 16) hx hb d_Mo_feed_60 (by decide) ?_
  refine lv_icmp_ge (tgt := 70) hx hb d_Mo_feed_62 (by decide) (fun _ => ?_) (fun h => absurd (by decide) h)
  refine lv_iload hx hb d_Mo_feed_70 (lv_at hl 7 rfl) ?_
  refine lv_istore hx hb d_Mo_feed_72 hl (by decide) rfl (fun ls hl => ?_)
  have hl : lv_has ls 8 [(7, .int e1), (6, .int 19), (0, .ref oM), (1, .int a1), (2, .int b1), (3, .int c1), (4, .int d1), (5, .int e1)] := hl
  refine lv_aload_n hx hb d_Mo_feed_74 rfl (lv_at hl 2 rfl) ?_
  refine va_get (D := (dC, dI)) (ci := 12) (v := .ref am_tape) (C := R_Mo) (T := F_Mo) (N := 87) hx hb hts (fun w h => List.mem_cons_of_mem _ (in_Mo w h)) hown hK.1 hP 0 rfl rfl 0 (by decide) (hts _ (List.mem_cons_of_mem _ mw_1786)) (fun _ h9 => h9) g104_0 d_Mo_feed_75 ?_
  refine lv_aload_n hx hb d_Mo_feed_78 rfl (lv_at hl 2 rfl) ?_
  refine va_get (D := (dC, dI)) (ci := 12) (v := .int 19) (C := R_Mo) (T := F_Mo) (N := 87) hx hb hts (fun w h => List.mem_cons_of_mem _ (in_Mo w h)) hown hK.1 hP 0 rfl rfl 1 (by decide) (hts _ (List.mem_cons_of_mem _ mw_1787)) (fun _ h9 => h9) g104_1 d_Mo_feed_79 ?_
  refine lv_iload hx hb d_Mo_feed_82 (lv_at hl 0 rfl) ?_
  refine lv_bipush (v := 24) hx hb d_Mo_feed_84 (by decide) ?_
  refine lv_bipush (v := 8) hx hb d_Mo_feed_86 (by decide) ?_
  refine lv_iload hx hb d_Mo_feed_88 (lv_at hl 1 rfl) ?_
  refine lv_iconst (v := 4) hx hb d_Mo_feed_90 (by decide) ?_
  refine lv_irem hx hb d_Mo_feed_91 (by decide) ?_
  refine lv_topi (fun x0 e0 => ?_)
  obtain rfl : x0 = 3 := e0.trans (by decide)
  refine lv_imul hx hb d_Mo_feed_92 ?_
  refine lv_topi (fun x0 e0 => ?_)
  obtain rfl : x0 = 24 := e0.trans (by decide)
  refine lv_isub hx hb d_Mo_feed_93 ?_
  refine lv_topi (fun x0 e0 => ?_)
  obtain rfl : x0 = 0 := e0.trans (by decide)
  refine lv_iushr hx hb d_Mo_feed_94 rfl ?_
  refine lv_topi (fun z94_77 ez94_77 => ?_)
  refine lv_i2b hx hb d_Mo_feed_95 rfl ?_
  refine lv_topi (fun z95_78 ez95_78 => ?_)
  refine va_bast hx hb hK.1 hP hD hS 1 1 rfl rfl (vp_in_iff.mpr (by decide)) d_Mo_feed_96 (fun H locs hP hD hS => ?_)
  have hP : va_P (dC, dI) classes [(oM, .inr (12, (((((((((((((((((((fm.set 1 (.int 1)).set 1 (.int 2)).set 1 (.int 3)).set 1 (.int 4)).set 1 (.int 5)).set 1 (.int 6)).set 1 (.int 7)).set 1 (.int 8)).set 1 (.int 9)).set 1 (.int 10)).set 1 (.int 11)).set 1 (.int 12)).set 1 (.int 13)).set 1 (.int 14)).set 1 (.int 15)).set 1 (.int 16)).set 1 (.int 17)).set 1 (.int 18)).set 1 (.int 19)))), (am_tape, .inl (cB, 4020, .inl ((upd f96_75 (19 : Int32).toNatClampNeg (vp_nar .byte z95_78)))))] H := hP
  have hD : va_D A [(oM, .inr (12, (((((((((((((((((((fm.set 1 (.int 1)).set 1 (.int 2)).set 1 (.int 3)).set 1 (.int 4)).set 1 (.int 5)).set 1 (.int 6)).set 1 (.int 7)).set 1 (.int 8)).set 1 (.int 9)).set 1 (.int 10)).set 1 (.int 11)).set 1 (.int 12)).set 1 (.int 13)).set 1 (.int 14)).set 1 (.int 15)).set 1 (.int 16)).set 1 (.int 17)).set 1 (.int 18)).set 1 (.int 19)))), (am_tape, .inl (cB, 4020, .inl ((upd f96_75 (19 : Int32).toNatClampNeg (vp_nar .byte z95_78)))))] := hD
  generalize (upd f96_75 (19 : Int32).toNatClampNeg (vp_nar .byte z95_78)) = f96_79 at hP hD
  refine lv_aload_n hx hb d_Mo_feed_97 rfl (lv_at hl 2 rfl) ?_
  refine lv_dup hx hb d_Mo_feed_98 rfl ?_
  refine va_get (D := (dC, dI)) (ci := 12) (v := .int 19) (C := R_Mo) (T := F_Mo) (N := 87) hx hb hts (fun w h => List.mem_cons_of_mem _ (in_Mo w h)) hown hK.1 hP 0 rfl rfl 1 (by decide) (hts _ (List.mem_cons_of_mem _ mw_1787)) (fun _ h9 => h9) g104_1 d_Mo_feed_99 ?_
  refine lv_iconst (v := 1) hx hb d_Mo_feed_102 (by decide) ?_
  refine lv_iadd hx hb d_Mo_feed_103 ?_
  refine lv_topi (fun x0 e0 => ?_)
  obtain rfl : x0 = 20 := e0.trans (by decide)
  refine va_put (D := (dC, dI)) (ci := 12) (v := .int 20) (ty := .int) (C := R_Mo) (T := F_Mo) (N := 87) hx hb hts (fun w h => List.mem_cons_of_mem _ (in_Mo w h)) t_Mo t_Mo_ok n_Mo hown hK.1 hP hD hS 0 rfl rfl 1 (by decide) (hts _ (List.mem_cons_of_mem _ mw_1787)) (fun _ h9 => h9) rfl (by decide +kernel) rfl rfl (st_lt g104_1) d_Mo_feed_104 (fun H locs hP hD hS => ?_)
  have g104_0 : ((((((((((((((((((((fm.set 1 (.int 1)).set 1 (.int 2)).set 1 (.int 3)).set 1 (.int 4)).set 1 (.int 5)).set 1 (.int 6)).set 1 (.int 7)).set 1 (.int 8)).set 1 (.int 9)).set 1 (.int 10)).set 1 (.int 11)).set 1 (.int 12)).set 1 (.int 13)).set 1 (.int 14)).set 1 (.int 15)).set 1 (.int 16)).set 1 (.int 17)).set 1 (.int 18)).set 1 (.int 19)).set 1 (.int 20))[0]? = some (.ref am_tape) := (st_ne g104_0 (by decide))
  have g104_1 : ((((((((((((((((((((fm.set 1 (.int 1)).set 1 (.int 2)).set 1 (.int 3)).set 1 (.int 4)).set 1 (.int 5)).set 1 (.int 6)).set 1 (.int 7)).set 1 (.int 8)).set 1 (.int 9)).set 1 (.int 10)).set 1 (.int 11)).set 1 (.int 12)).set 1 (.int 13)).set 1 (.int 14)).set 1 (.int 15)).set 1 (.int 16)).set 1 (.int 17)).set 1 (.int 18)).set 1 (.int 19)).set 1 (.int 20))[1]? = some (.int 20) := (st_eq g104_1)
  have hP : va_P (dC, dI) classes [(oM, .inr (12, ((((((((((((((((((((fm.set 1 (.int 1)).set 1 (.int 2)).set 1 (.int 3)).set 1 (.int 4)).set 1 (.int 5)).set 1 (.int 6)).set 1 (.int 7)).set 1 (.int 8)).set 1 (.int 9)).set 1 (.int 10)).set 1 (.int 11)).set 1 (.int 12)).set 1 (.int 13)).set 1 (.int 14)).set 1 (.int 15)).set 1 (.int 16)).set 1 (.int 17)).set 1 (.int 18)).set 1 (.int 19)).set 1 (.int 20)))), (am_tape, .inl (cB, 4020, .inl f96_79))] H := hP
  have hD : va_D A [(oM, .inr (12, ((((((((((((((((((((fm.set 1 (.int 1)).set 1 (.int 2)).set 1 (.int 3)).set 1 (.int 4)).set 1 (.int 5)).set 1 (.int 6)).set 1 (.int 7)).set 1 (.int 8)).set 1 (.int 9)).set 1 (.int 10)).set 1 (.int 11)).set 1 (.int 12)).set 1 (.int 13)).set 1 (.int 14)).set 1 (.int 15)).set 1 (.int 16)).set 1 (.int 17)).set 1 (.int 18)).set 1 (.int 19)).set 1 (.int 20)))), (am_tape, .inl (cB, 4020, .inl f96_79))] := hD
  refine lv_iinc (k := 1) (v := 20) hx hb d_Mo_feed_107 hl rfl (by first | rfl | decide | exact nI_1 i) (by decide) rfl (fun ls hl => ?_)
  have hl : lv_has ls 8 [(6, .int 20), (7, .int e1), (0, .ref oM), (1, .int a1), (2, .int b1), (3, .int c1), (4, .int d1), (5, .int e1)] := hl
  refine lv_goto (tgt := 19) hx hb d_Mo_feed_110 (by decide) ?_
  refine lv_iload hx hb d_Mo_feed_19 (lv_at hl 0 rfl) ?_
  refine lv_bipush (v := 20) hx hb d_Mo_feed_21 (by decide) ?_
  refine lv_icmp_ge (tgt := 113) hx hb d_Mo_feed_23 (by decide) (fun _ => ?_) (fun h => absurd (by decide) h)
  refine lv_aload_n hx hb d_Mo_feed_113 rfl (lv_at hl 2 rfl) ?_
  refine va_get (D := (dC, dI)) (ci := 12) (v := .int 20) (C := R_Mo) (T := F_Mo) (N := 87) hx hb hts (fun w h => List.mem_cons_of_mem _ (in_Mo w h)) hown hK.1 hP 0 rfl rfl 1 (by decide) (hts _ (List.mem_cons_of_mem _ mw_1787)) (fun _ h9 => h9) g104_1 d_Mo_feed_114 ?_
  exact W.iret (v := 20) hx hb hr (fun t ht hW => ⟨⟨_, (), rfl, (rfl), trivial⟩, hS.F ht⟩) hS.2.2 d_Mo_feed_117
end
