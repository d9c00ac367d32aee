section
-- ===== PART A: goes FIRST, ahead of the names: the tables' words, and 'selects' of the private methods out of them =====
/-- a private method of a class that the tables say can be made, by its rows of tables_1 -/
def lw_okq (q : MethodName × Nat) : Prop := (q.1.cls ≠ "java/lang/invoke/MethodHandle" ∧ q.1.cls ≠ "java/lang/invoke/VarHandle") ∧ Cond.instantiable q.1.cls q.2 ∈ tables_1 ∧ Cond.privateMethod q.1 ∈ tables_1 ∧ Cond.instanceMethod q.1 ∈ tables_1
theorem lw_p0 : lw_okq (⟨"BreweryHouse$Plant", "readLine", "()Z"⟩, 12) := ⟨⟨by decide +kernel, by decide +kernel⟩, List.mem_of_getElem? (i := 81) (by decide +kernel), List.mem_of_getElem? (i := 762) (by decide +kernel), List.mem_of_getElem? (i := 763) (by decide +kernel)⟩
theorem lw_p1 : lw_okq (⟨"BreweryHouse$Plant", "takes", "(Ljava/lang/String;)Z"⟩, 12) := ⟨⟨by decide +kernel, by decide +kernel⟩, List.mem_of_getElem? (i := 81) (by decide +kernel), List.mem_of_getElem? (i := 768) (by decide +kernel), List.mem_of_getElem? (i := 769) (by decide +kernel)⟩
theorem lw_p2 : lw_okq (⟨"BreweryHouse$Plant", "takesNumber", "()Z"⟩, 12) := ⟨⟨by decide +kernel, by decide +kernel⟩, List.mem_of_getElem? (i := 81) (by decide +kernel), List.mem_of_getElem? (i := 774) (by decide +kernel), List.mem_of_getElem? (i := 775) (by decide +kernel)⟩
theorem lw_p3 : lw_okq (⟨"BreweryHouse$Plant", "endsLine", "()Z"⟩, 12) := ⟨⟨by decide +kernel, by decide +kernel⟩, List.mem_of_getElem? (i := 81) (by decide +kernel), List.mem_of_getElem? (i := 781) (by decide +kernel), List.mem_of_getElem? (i := 782) (by decide +kernel)⟩
theorem lw_p4 : lw_okq (⟨"BreweryHouse$Plant", "addThing", "(II)Z"⟩, 12) := ⟨⟨by decide +kernel, by decide +kernel⟩, List.mem_of_getElem? (i := 81) (by decide +kernel), List.mem_of_getElem? (i := 786) (by decide +kernel), List.mem_of_getElem? (i := 787) (by decide +kernel)⟩
theorem lw_p5 : lw_okq (⟨"BreweryHouse$Plant", "readPipe", "()Z"⟩, 12) := ⟨⟨by decide +kernel, by decide +kernel⟩, List.mem_of_getElem? (i := 81) (by decide +kernel), List.mem_of_getElem? (i := 793) (by decide +kernel), List.mem_of_getElem? (i := 794) (by decide +kernel)⟩
theorem lw_p6 : lw_okq (⟨"BreweryHouse$Plant", "takesPipeEnd", "()Z"⟩, 12) := ⟨⟨by decide +kernel, by decide +kernel⟩, List.mem_of_getElem? (i := 81) (by decide +kernel), List.mem_of_getElem? (i := 797) (by decide +kernel), List.mem_of_getElem? (i := 798) (by decide +kernel)⟩
theorem lw_p7 : lw_okq (⟨"BreweryHouse$Plant", "addPipe", "(III)Z"⟩, 12) := ⟨⟨by decide +kernel, by decide +kernel⟩, List.mem_of_getElem? (i := 81) (by decide +kernel), List.mem_of_getElem? (i := 802) (by decide +kernel), List.mem_of_getElem? (i := 803) (by decide +kernel)⟩
theorem lw_p8 : lw_okq (⟨"BreweryHouse$Plant", "joins", "(II)Z"⟩, 12) := ⟨⟨by decide +kernel, by decide +kernel⟩, List.mem_of_getElem? (i := 81) (by decide +kernel), List.mem_of_getElem? (i := 806) (by decide +kernel), List.mem_of_getElem? (i := 807) (by decide +kernel)⟩
theorem lw_p9 : lw_okq (⟨"BreweryHouse$Rows", "nextWord", "()V"⟩, 18) := ⟨⟨by decide +kernel, by decide +kernel⟩, List.mem_of_getElem? (i := 324) (by decide +kernel), List.mem_of_getElem? (i := 816) (by decide +kernel), List.mem_of_getElem? (i := 817) (by decide +kernel)⟩
theorem lw_p10 : lw_okq (⟨"BreweryHouse$Rows", "readRow", "()V"⟩, 18) := ⟨⟨by decide +kernel, by decide +kernel⟩, List.mem_of_getElem? (i := 324) (by decide +kernel), List.mem_of_getElem? (i := 827) (by decide +kernel), List.mem_of_getElem? (i := 828) (by decide +kernel)⟩
theorem lw_p11 : lw_okq (⟨"BreweryHouse$Rows", "fail", "()V"⟩, 18) := ⟨⟨by decide +kernel, by decide +kernel⟩, List.mem_of_getElem? (i := 324) (by decide +kernel), List.mem_of_getElem? (i := 831) (by decide +kernel), List.mem_of_getElem? (i := 832) (by decide +kernel)⟩
theorem lw_p12 : lw_okq (⟨"BreweryHouse$Rows", "takes", "(Ljava/lang/String;)Z"⟩, 18) := ⟨⟨by decide +kernel, by decide +kernel⟩, List.mem_of_getElem? (i := 324) (by decide +kernel), List.mem_of_getElem? (i := 836) (by decide +kernel), List.mem_of_getElem? (i := 837) (by decide +kernel)⟩
theorem lw_p13 : lw_okq (⟨"BreweryHouse$Rows", "is", "(Ljava/lang/String;)Z"⟩, 18) := ⟨⟨by decide +kernel, by decide +kernel⟩, List.mem_of_getElem? (i := 324) (by decide +kernel), List.mem_of_getElem? (i := 840) (by decide +kernel), List.mem_of_getElem? (i := 841) (by decide +kernel)⟩
theorem lw_p14 : lw_okq (⟨"BreweryHouse$Rows", "readActs", "()V"⟩, 18) := ⟨⟨by decide +kernel, by decide +kernel⟩, List.mem_of_getElem? (i := 324) (by decide +kernel), List.mem_of_getElem? (i := 846) (by decide +kernel), List.mem_of_getElem? (i := 847) (by decide +kernel)⟩
theorem lw_p15 : lw_okq (⟨"BreweryHouse$Rows", "numberBehind", "(II)I"⟩, 18) := ⟨⟨by decide +kernel, by decide +kernel⟩, List.mem_of_getElem? (i := 324) (by decide +kernel), List.mem_of_getElem? (i := 851) (by decide +kernel), List.mem_of_getElem? (i := 852) (by decide +kernel)⟩
def lw_privs_1 : List (MethodName × Nat) := [(⟨"BreweryHouse$Plant", "readLine", "()Z"⟩, 12), (⟨"BreweryHouse$Plant", "takes", "(Ljava/lang/String;)Z"⟩, 12), (⟨"BreweryHouse$Plant", "takesNumber", "()Z"⟩, 12), (⟨"BreweryHouse$Plant", "endsLine", "()Z"⟩, 12), (⟨"BreweryHouse$Plant", "addThing", "(II)Z"⟩, 12), (⟨"BreweryHouse$Plant", "readPipe", "()Z"⟩, 12), (⟨"BreweryHouse$Plant", "takesPipeEnd", "()Z"⟩, 12), (⟨"BreweryHouse$Plant", "addPipe", "(III)Z"⟩, 12), (⟨"BreweryHouse$Plant", "joins", "(II)Z"⟩, 12), (⟨"BreweryHouse$Rows", "nextWord", "()V"⟩, 18), (⟨"BreweryHouse$Rows", "readRow", "()V"⟩, 18), (⟨"BreweryHouse$Rows", "fail", "()V"⟩, 18), (⟨"BreweryHouse$Rows", "takes", "(Ljava/lang/String;)Z"⟩, 18), (⟨"BreweryHouse$Rows", "is", "(Ljava/lang/String;)Z"⟩, 18), (⟨"BreweryHouse$Rows", "readActs", "()V"⟩, 18), (⟨"BreweryHouse$Rows", "numberBehind", "(II)I"⟩, 18)]
theorem lw_r1 : ∀ q ∈ lw_privs_1, lw_okq q := List.forall_mem_cons.mpr ⟨lw_p0, List.forall_mem_cons.mpr ⟨lw_p1, List.forall_mem_cons.mpr ⟨lw_p2, List.forall_mem_cons.mpr ⟨lw_p3, List.forall_mem_cons.mpr ⟨lw_p4, List.forall_mem_cons.mpr ⟨lw_p5, List.forall_mem_cons.mpr ⟨lw_p6, List.forall_mem_cons.mpr ⟨lw_p7, List.forall_mem_cons.mpr ⟨lw_p8, List.forall_mem_cons.mpr ⟨lw_p9, List.forall_mem_cons.mpr ⟨lw_p10, List.forall_mem_cons.mpr ⟨lw_p11, List.forall_mem_cons.mpr ⟨lw_p12, List.forall_mem_cons.mpr ⟨lw_p13, List.forall_mem_cons.mpr ⟨lw_p14, List.forall_mem_cons.mpr ⟨lw_p15, fun _ h => absurd h List.not_mem_nil⟩⟩⟩⟩⟩⟩⟩⟩⟩⟩⟩⟩⟩⟩⟩⟩
theorem lw_p16 : lw_okq (⟨"BreweryHouse$Rows", "readOr", "()V"⟩, 18) := ⟨⟨by decide +kernel, by decide +kernel⟩, List.mem_of_getElem? (i := 324) (by decide +kernel), List.mem_of_getElem? (i := 856) (by decide +kernel), List.mem_of_getElem? (i := 857) (by decide +kernel)⟩
theorem lw_p17 : lw_okq (⟨"BreweryHouse$Rows", "readAnd", "()V"⟩, 18) := ⟨⟨by decide +kernel, by decide +kernel⟩, List.mem_of_getElem? (i := 324) (by decide +kernel), List.mem_of_getElem? (i := 860) (by decide +kernel), List.mem_of_getElem? (i := 861) (by decide +kernel)⟩
theorem lw_p18 : lw_okq (⟨"BreweryHouse$Rows", "readPart", "()V"⟩, 18) := ⟨⟨by decide +kernel, by decide +kernel⟩, List.mem_of_getElem? (i := 324) (by decide +kernel), List.mem_of_getElem? (i := 864) (by decide +kernel), List.mem_of_getElem? (i := 865) (by decide +kernel)⟩
theorem lw_p19 : lw_okq (⟨"BreweryHouse$Rows", "put", "(I)V"⟩, 18) := ⟨⟨by decide +kernel, by decide +kernel⟩, List.mem_of_getElem? (i := 324) (by decide +kernel), List.mem_of_getElem? (i := 870) (by decide +kernel), List.mem_of_getElem? (i := 871) (by decide +kernel)⟩
theorem lw_p20 : lw_okq (⟨"BreweryHouse$ProgramReader", "nextWord", "()V"⟩, 13) := ⟨⟨by decide +kernel, by decide +kernel⟩, List.mem_of_getElem? (i := 578) (by decide +kernel), List.mem_of_getElem? (i := 888) (by decide +kernel), List.mem_of_getElem? (i := 889) (by decide +kernel)⟩
theorem lw_p21 : lw_okq (⟨"BreweryHouse$ProgramReader", "scanLetters", "()V"⟩, 13) := ⟨⟨by decide +kernel, by decide +kernel⟩, List.mem_of_getElem? (i := 578) (by decide +kernel), List.mem_of_getElem? (i := 897) (by decide +kernel), List.mem_of_getElem? (i := 898) (by decide +kernel)⟩
theorem lw_p22 : lw_okq (⟨"BreweryHouse$ProgramReader", "scanNumber", "()V"⟩, 13) := ⟨⟨by decide +kernel, by decide +kernel⟩, List.mem_of_getElem? (i := 578) (by decide +kernel), List.mem_of_getElem? (i := 902) (by decide +kernel), List.mem_of_getElem? (i := 903) (by decide +kernel)⟩
theorem lw_p23 : lw_okq (⟨"BreweryHouse$ProgramReader", "refuseByte", "(I)V"⟩, 13) := ⟨⟨by decide +kernel, by decide +kernel⟩, List.mem_of_getElem? (i := 578) (by decide +kernel), List.mem_of_getElem? (i := 912) (by decide +kernel), List.mem_of_getElem? (i := 913) (by decide +kernel)⟩
theorem lw_p24 : lw_okq (⟨"BreweryHouse$ProgramReader", "fail", "()V"⟩, 13) := ⟨⟨by decide +kernel, by decide +kernel⟩, List.mem_of_getElem? (i := 578) (by decide +kernel), List.mem_of_getElem? (i := 916) (by decide +kernel), List.mem_of_getElem? (i := 917) (by decide +kernel)⟩
theorem lw_p25 : lw_okq (⟨"BreweryHouse$ProgramReader", "takeNewName", "()J"⟩, 13) := ⟨⟨by decide +kernel, by decide +kernel⟩, List.mem_of_getElem? (i := 578) (by decide +kernel), List.mem_of_getElem? (i := 920) (by decide +kernel), List.mem_of_getElem? (i := 921) (by decide +kernel)⟩
theorem lw_p26 : lw_okq (⟨"BreweryHouse$ProgramReader", "readBlock", "()I"⟩, 13) := ⟨⟨by decide +kernel, by decide +kernel⟩, List.mem_of_getElem? (i := 578) (by decide +kernel), List.mem_of_getElem? (i := 928) (by decide +kernel), List.mem_of_getElem? (i := 929) (by decide +kernel)⟩
theorem lw_p27 : lw_okq (⟨"BreweryHouse$ProgramReader", "readStatement", "()I"⟩, 13) := ⟨⟨by decide +kernel, by decide +kernel⟩, List.mem_of_getElem? (i := 578) (by decide +kernel), List.mem_of_getElem? (i := 932) (by decide +kernel), List.mem_of_getElem? (i := 933) (by decide +kernel)⟩
theorem lw_p28 : lw_okq (⟨"BreweryHouse$ProgramReader", "readChange", "(I)I"⟩, 13) := ⟨⟨by decide +kernel, by decide +kernel⟩, List.mem_of_getElem? (i := 578) (by decide +kernel), List.mem_of_getElem? (i := 936) (by decide +kernel), List.mem_of_getElem? (i := 937) (by decide +kernel)⟩
theorem lw_p29 : lw_okq (⟨"BreweryHouse$ProgramReader", "takeName", "(I)I"⟩, 13) := ⟨⟨by decide +kernel, by decide +kernel⟩, List.mem_of_getElem? (i := 578) (by decide +kernel), List.mem_of_getElem? (i := 940) (by decide +kernel), List.mem_of_getElem? (i := 941) (by decide +kernel)⟩
theorem lw_p30 : lw_okq (⟨"BreweryHouse$ProgramReader", "readLevel", "(I)I"⟩, 13) := ⟨⟨by decide +kernel, by decide +kernel⟩, List.mem_of_getElem? (i := 578) (by decide +kernel), List.mem_of_getElem? (i := 944) (by decide +kernel), List.mem_of_getElem? (i := 945) (by decide +kernel)⟩
theorem lw_p31 : lw_okq (⟨"BreweryHouse$ProgramReader", "readFactor", "()I"⟩, 13) := ⟨⟨by decide +kernel, by decide +kernel⟩, List.mem_of_getElem? (i := 578) (by decide +kernel), List.mem_of_getElem? (i := 948) (by decide +kernel), List.mem_of_getElem? (i := 949) (by decide +kernel)⟩
def lw_privs_2 : List (MethodName × Nat) := [(⟨"BreweryHouse$Rows", "readOr", "()V"⟩, 18), (⟨"BreweryHouse$Rows", "readAnd", "()V"⟩, 18), (⟨"BreweryHouse$Rows", "readPart", "()V"⟩, 18), (⟨"BreweryHouse$Rows", "put", "(I)V"⟩, 18), (⟨"BreweryHouse$ProgramReader", "nextWord", "()V"⟩, 13), (⟨"BreweryHouse$ProgramReader", "scanLetters", "()V"⟩, 13), (⟨"BreweryHouse$ProgramReader", "scanNumber", "()V"⟩, 13), (⟨"BreweryHouse$ProgramReader", "refuseByte", "(I)V"⟩, 13), (⟨"BreweryHouse$ProgramReader", "fail", "()V"⟩, 13), (⟨"BreweryHouse$ProgramReader", "takeNewName", "()J"⟩, 13), (⟨"BreweryHouse$ProgramReader", "readBlock", "()I"⟩, 13), (⟨"BreweryHouse$ProgramReader", "readStatement", "()I"⟩, 13), (⟨"BreweryHouse$ProgramReader", "readChange", "(I)I"⟩, 13), (⟨"BreweryHouse$ProgramReader", "takeName", "(I)I"⟩, 13), (⟨"BreweryHouse$ProgramReader", "readLevel", "(I)I"⟩, 13), (⟨"BreweryHouse$ProgramReader", "readFactor", "()I"⟩, 13)]
theorem lw_r2 : ∀ q ∈ lw_privs_2, lw_okq q := List.forall_mem_cons.mpr ⟨lw_p16, List.forall_mem_cons.mpr ⟨lw_p17, List.forall_mem_cons.mpr ⟨lw_p18, List.forall_mem_cons.mpr ⟨lw_p19, List.forall_mem_cons.mpr ⟨lw_p20, List.forall_mem_cons.mpr ⟨lw_p21, List.forall_mem_cons.mpr ⟨lw_p22, List.forall_mem_cons.mpr ⟨lw_p23, List.forall_mem_cons.mpr ⟨lw_p24, List.forall_mem_cons.mpr ⟨lw_p25, List.forall_mem_cons.mpr ⟨lw_p26, List.forall_mem_cons.mpr ⟨lw_p27, List.forall_mem_cons.mpr ⟨lw_p28, List.forall_mem_cons.mpr ⟨lw_p29, List.forall_mem_cons.mpr ⟨lw_p30, List.forall_mem_cons.mpr ⟨lw_p31, fun _ h => absurd h List.not_mem_nil⟩⟩⟩⟩⟩⟩⟩⟩⟩⟩⟩⟩⟩⟩⟩⟩
theorem lw_p32 : lw_okq (⟨"BreweryHouse$ProgramReader", "makeNode", "(II)I"⟩, 13) := ⟨⟨by decide +kernel, by decide +kernel⟩, List.mem_of_getElem? (i := 578) (by decide +kernel), List.mem_of_getElem? (i := 959) (by decide +kernel), List.mem_of_getElem? (i := 960) (by decide +kernel)⟩
theorem lw_p33 : lw_okq (⟨"BreweryHouse$ProgramReader", "join", "(IIII)I"⟩, 13) := ⟨⟨by decide +kernel, by decide +kernel⟩, List.mem_of_getElem? (i := 578) (by decide +kernel), List.mem_of_getElem? (i := 969) (by decide +kernel), List.mem_of_getElem? (i := 970) (by decide +kernel)⟩
theorem lw_p34 : lw_okq (⟨"BreweryHouse$ProgramReader", "demand", "(II)V"⟩, 13) := ⟨⟨by decide +kernel, by decide +kernel⟩, List.mem_of_getElem? (i := 578) (by decide +kernel), List.mem_of_getElem? (i := 976) (by decide +kernel), List.mem_of_getElem? (i := 977) (by decide +kernel)⟩
theorem lw_p35 : lw_okq (⟨"BreweryHouse$ProgramReader", "take", "(I)V"⟩, 13) := ⟨⟨by decide +kernel, by decide +kernel⟩, List.mem_of_getElem? (i := 578) (by decide +kernel), List.mem_of_getElem? (i := 980) (by decide +kernel), List.mem_of_getElem? (i := 981) (by decide +kernel)⟩
theorem lw_p36 : lw_okq (⟨"BreweryHouse$ProgramReader", "giveRange", "(III)I"⟩, 13) := ⟨⟨by decide +kernel, by decide +kernel⟩, List.mem_of_getElem? (i := 578) (by decide +kernel), List.mem_of_getElem? (i := 984) (by decide +kernel), List.mem_of_getElem? (i := 985) (by decide +kernel)⟩
theorem lw_p37 : lw_okq (⟨"BreweryHouse$ProgramReader", "readPause", "(I)I"⟩, 13) := ⟨⟨by decide +kernel, by decide +kernel⟩, List.mem_of_getElem? (i := 578) (by decide +kernel), List.mem_of_getElem? (i := 988) (by decide +kernel), List.mem_of_getElem? (i := 989) (by decide +kernel)⟩
theorem lw_p38 : lw_okq (⟨"BreweryHouse$ProgramReader", "readPar", "()I"⟩, 13) := ⟨⟨by decide +kernel, by decide +kernel⟩, List.mem_of_getElem? (i := 578) (by decide +kernel), List.mem_of_getElem? (i := 992) (by decide +kernel), List.mem_of_getElem? (i := 993) (by decide +kernel)⟩
theorem lw_p39 : lw_okq (⟨"BreweryHouse$ProgramReader", "readGuarded", "(I)I"⟩, 13) := ⟨⟨by decide +kernel, by decide +kernel⟩, List.mem_of_getElem? (i := 578) (by decide +kernel), List.mem_of_getElem? (i := 996) (by decide +kernel), List.mem_of_getElem? (i := 997) (by decide +kernel)⟩
theorem lw_p40 : lw_okq (⟨"BreweryHouse$ProgramReader", "readShort", "(I)I"⟩, 13) := ⟨⟨by decide +kernel, by decide +kernel⟩, List.mem_of_getElem? (i := 578) (by decide +kernel), List.mem_of_getElem? (i := 1000) (by decide +kernel), List.mem_of_getElem? (i := 1001) (by decide +kernel)⟩
theorem lw_p41 : lw_okq (⟨"BreweryHouse$ProgramReader", "takeUnit", "()I"⟩, 13) := ⟨⟨by decide +kernel, by decide +kernel⟩, List.mem_of_getElem? (i := 578) (by decide +kernel), List.mem_of_getElem? (i := 1005) (by decide +kernel), List.mem_of_getElem? (i := 1006) (by decide +kernel)⟩
theorem lw_p42 : lw_okq (⟨"BreweryHouse", "takePlant", "()I"⟩, 16) := ⟨⟨by decide +kernel, by decide +kernel⟩, List.mem_of_getElem? (i := 25) (by decide +kernel), List.mem_of_getElem? (i := 1013) (by decide +kernel), List.mem_of_getElem? (i := 1014) (by decide +kernel)⟩
theorem lw_p43 : lw_okq (⟨"BreweryHouse", "takeRows", "()I"⟩, 16) := ⟨⟨by decide +kernel, by decide +kernel⟩, List.mem_of_getElem? (i := 25) (by decide +kernel), List.mem_of_getElem? (i := 1044) (by decide +kernel), List.mem_of_getElem? (i := 1045) (by decide +kernel)⟩
theorem lw_p44 : lw_okq (⟨"BreweryHouse", "takeProgram", "()I"⟩, 16) := ⟨⟨by decide +kernel, by decide +kernel⟩, List.mem_of_getElem? (i := 25) (by decide +kernel), List.mem_of_getElem? (i := 1048) (by decide +kernel), List.mem_of_getElem? (i := 1049) (by decide +kernel)⟩
theorem lw_p45 : lw_okq (⟨"BreweryHouse$Run", "expandAll", "(II)I"⟩, 21) := ⟨⟨by decide +kernel, by decide +kernel⟩, List.mem_of_getElem? (i := 417) (by decide +kernel), List.mem_of_getElem? (i := 1056) (by decide +kernel), List.mem_of_getElem? (i := 1057) (by decide +kernel)⟩
theorem lw_p46 : lw_okq (⟨"BreweryHouse$Ways", "remove", "(IZ)V"⟩, 18) := ⟨⟨by decide +kernel, by decide +kernel⟩, List.mem_of_getElem? (i := 210) (by decide +kernel), List.mem_of_getElem? (i := 1068) (by decide +kernel), List.mem_of_getElem? (i := 1069) (by decide +kernel)⟩
theorem lw_p47 : lw_okq (⟨"BreweryHouse$Stock", "heldLevel", "(I)I"⟩, 12) := ⟨⟨by decide +kernel, by decide +kernel⟩, List.mem_of_getElem? (i := 75) (by decide +kernel), List.mem_of_getElem? (i := 1088) (by decide +kernel), List.mem_of_getElem? (i := 1089) (by decide +kernel)⟩
def lw_privs_3 : List (MethodName × Nat) := [(⟨"BreweryHouse$ProgramReader", "makeNode", "(II)I"⟩, 13), (⟨"BreweryHouse$ProgramReader", "join", "(IIII)I"⟩, 13), (⟨"BreweryHouse$ProgramReader", "demand", "(II)V"⟩, 13), (⟨"BreweryHouse$ProgramReader", "take", "(I)V"⟩, 13), (⟨"BreweryHouse$ProgramReader", "giveRange", "(III)I"⟩, 13), (⟨"BreweryHouse$ProgramReader", "readPause", "(I)I"⟩, 13), (⟨"BreweryHouse$ProgramReader", "readPar", "()I"⟩, 13), (⟨"BreweryHouse$ProgramReader", "readGuarded", "(I)I"⟩, 13), (⟨"BreweryHouse$ProgramReader", "readShort", "(I)I"⟩, 13), (⟨"BreweryHouse$ProgramReader", "takeUnit", "()I"⟩, 13), (⟨"BreweryHouse", "takePlant", "()I"⟩, 16), (⟨"BreweryHouse", "takeRows", "()I"⟩, 16), (⟨"BreweryHouse", "takeProgram", "()I"⟩, 16), (⟨"BreweryHouse$Run", "expandAll", "(II)I"⟩, 21), (⟨"BreweryHouse$Ways", "remove", "(IZ)V"⟩, 18), (⟨"BreweryHouse$Stock", "heldLevel", "(I)I"⟩, 12)]
theorem lw_r3 : ∀ q ∈ lw_privs_3, lw_okq q := List.forall_mem_cons.mpr ⟨lw_p32, List.forall_mem_cons.mpr ⟨lw_p33, List.forall_mem_cons.mpr ⟨lw_p34, List.forall_mem_cons.mpr ⟨lw_p35, List.forall_mem_cons.mpr ⟨lw_p36, List.forall_mem_cons.mpr ⟨lw_p37, List.forall_mem_cons.mpr ⟨lw_p38, List.forall_mem_cons.mpr ⟨lw_p39, List.forall_mem_cons.mpr ⟨lw_p40, List.forall_mem_cons.mpr ⟨lw_p41, List.forall_mem_cons.mpr ⟨lw_p42, List.forall_mem_cons.mpr ⟨lw_p43, List.forall_mem_cons.mpr ⟨lw_p44, List.forall_mem_cons.mpr ⟨lw_p45, List.forall_mem_cons.mpr ⟨lw_p46, List.forall_mem_cons.mpr ⟨lw_p47, fun _ h => absurd h List.not_mem_nil⟩⟩⟩⟩⟩⟩⟩⟩⟩⟩⟩⟩⟩⟩⟩⟩
theorem lw_p48 : lw_okq (⟨"BreweryHouse$Safety", "findRivals", "()Z"⟩, 10) := ⟨⟨by decide +kernel, by decide +kernel⟩, List.mem_of_getElem? (i := 277) (by decide +kernel), List.mem_of_getElem? (i := 1102) (by decide +kernel), List.mem_of_getElem? (i := 1103) (by decide +kernel)⟩
theorem lw_p49 : lw_okq (⟨"BreweryHouse$Safety", "link", "(II)V"⟩, 10) := ⟨⟨by decide +kernel, by decide +kernel⟩, List.mem_of_getElem? (i := 277) (by decide +kernel), List.mem_of_getElem? (i := 1106) (by decide +kernel), List.mem_of_getElem? (i := 1107) (by decide +kernel)⟩
theorem lw_p50 : lw_okq (⟨"BreweryHouse$Safety", "meet", "()Z"⟩, 10) := ⟨⟨by decide +kernel, by decide +kernel⟩, List.mem_of_getElem? (i := 277) (by decide +kernel), List.mem_of_getElem? (i := 1111) (by decide +kernel), List.mem_of_getElem? (i := 1112) (by decide +kernel)⟩
theorem lw_p51 : lw_okq (⟨"BreweryHouse$Safety", "otherPasses", "(II)I"⟩, 10) := ⟨⟨by decide +kernel, by decide +kernel⟩, List.mem_of_getElem? (i := 277) (by decide +kernel), List.mem_of_getElem? (i := 1123) (by decide +kernel), List.mem_of_getElem? (i := 1124) (by decide +kernel)⟩
theorem lw_p52 : lw_okq (⟨"BreweryHouse$Stock", "forgetCleanings", "(I)V"⟩, 12) := ⟨⟨by decide +kernel, by decide +kernel⟩, List.mem_of_getElem? (i := 75) (by decide +kernel), List.mem_of_getElem? (i := 1134) (by decide +kernel), List.mem_of_getElem? (i := 1135) (by decide +kernel)⟩
theorem lw_p53 : lw_okq (⟨"BreweryHouse$Acts", "isBound", "(I)Z"⟩, 8) := ⟨⟨by decide +kernel, by decide +kernel⟩, List.mem_of_getElem? (i := 318) (by decide +kernel), List.mem_of_getElem? (i := 1191) (by decide +kernel), List.mem_of_getElem? (i := 1192) (by decide +kernel)⟩
theorem lw_p54 : lw_okq (⟨"BreweryHouse$Acts", "openWay", "(III)I"⟩, 8) := ⟨⟨by decide +kernel, by decide +kernel⟩, List.mem_of_getElem? (i := 318) (by decide +kernel), List.mem_of_getElem? (i := 1218) (by decide +kernel), List.mem_of_getElem? (i := 1219) (by decide +kernel)⟩
theorem lw_p55 : lw_okq (⟨"BreweryHouse$Ways", "onward", "(I)I"⟩, 18) := ⟨⟨by decide +kernel, by decide +kernel⟩, List.mem_of_getElem? (i := 210) (by decide +kernel), List.mem_of_getElem? (i := 1231) (by decide +kernel), List.mem_of_getElem? (i := 1232) (by decide +kernel)⟩
theorem lw_p56 : lw_okq (⟨"BreweryHouse$Ways", "cheapestEntry", "(I)I"⟩, 18) := ⟨⟨by decide +kernel, by decide +kernel⟩, List.mem_of_getElem? (i := 210) (by decide +kernel), List.mem_of_getElem? (i := 1235) (by decide +kernel), List.mem_of_getElem? (i := 1236) (by decide +kernel)⟩
theorem lw_p57 : lw_okq (⟨"BreweryHouse$Acts", "closeWay", "(II)I"⟩, 8) := ⟨⟨by decide +kernel, by decide +kernel⟩, List.mem_of_getElem? (i := 318) (by decide +kernel), List.mem_of_getElem? (i := 1249) (by decide +kernel), List.mem_of_getElem? (i := 1250) (by decide +kernel)⟩
theorem lw_p58 : lw_okq (⟨"BreweryHouse$Acts", "setPosition", "(II)I"⟩, 8) := ⟨⟨by decide +kernel, by decide +kernel⟩, List.mem_of_getElem? (i := 318) (by decide +kernel), List.mem_of_getElem? (i := 1257) (by decide +kernel), List.mem_of_getElem? (i := 1258) (by decide +kernel)⟩
theorem lw_p59 : lw_okq (⟨"BreweryHouse$Acts", "cleanSpace", "(II)I"⟩, 8) := ⟨⟨by decide +kernel, by decide +kernel⟩, List.mem_of_getElem? (i := 318) (by decide +kernel), List.mem_of_getElem? (i := 1265) (by decide +kernel), List.mem_of_getElem? (i := 1266) (by decide +kernel)⟩
theorem lw_p60 : lw_okq (⟨"BreweryHouse$Acts", "drainSpace", "(I)I"⟩, 8) := ⟨⟨by decide +kernel, by decide +kernel⟩, List.mem_of_getElem? (i := 318) (by decide +kernel), List.mem_of_getElem? (i := 1278) (by decide +kernel), List.mem_of_getElem? (i := 1279) (by decide +kernel)⟩
theorem lw_p61 : lw_okq (⟨"BreweryHouse$Run", "enter", "(I)V"⟩, 21) := ⟨⟨by decide +kernel, by decide +kernel⟩, List.mem_of_getElem? (i := 417) (by decide +kernel), List.mem_of_getElem? (i := 1315) (by decide +kernel), List.mem_of_getElem? (i := 1316) (by decide +kernel)⟩
theorem lw_p62 : lw_okq (⟨"BreweryHouse", "senseAll", "()V"⟩, 16) := ⟨⟨by decide +kernel, by decide +kernel⟩, List.mem_of_getElem? (i := 25) (by decide +kernel), List.mem_of_getElem? (i := 1323) (by decide +kernel), List.mem_of_getElem? (i := 1324) (by decide +kernel)⟩
theorem lw_p63 : lw_okq (⟨"BreweryHouse", "sensed", "(II)J"⟩, 16) := ⟨⟨by decide +kernel, by decide +kernel⟩, List.mem_of_getElem? (i := 25) (by decide +kernel), List.mem_of_getElem? (i := 1328) (by decide +kernel), List.mem_of_getElem? (i := 1329) (by decide +kernel)⟩
def lw_privs_4 : List (MethodName × Nat) := [(⟨"BreweryHouse$Safety", "findRivals", "()Z"⟩, 10), (⟨"BreweryHouse$Safety", "link", "(II)V"⟩, 10), (⟨"BreweryHouse$Safety", "meet", "()Z"⟩, 10), (⟨"BreweryHouse$Safety", "otherPasses", "(II)I"⟩, 10), (⟨"BreweryHouse$Stock", "forgetCleanings", "(I)V"⟩, 12), (⟨"BreweryHouse$Acts", "isBound", "(I)Z"⟩, 8), (⟨"BreweryHouse$Acts", "openWay", "(III)I"⟩, 8), (⟨"BreweryHouse$Ways", "onward", "(I)I"⟩, 18), (⟨"BreweryHouse$Ways", "cheapestEntry", "(I)I"⟩, 18), (⟨"BreweryHouse$Acts", "closeWay", "(II)I"⟩, 8), (⟨"BreweryHouse$Acts", "setPosition", "(II)I"⟩, 8), (⟨"BreweryHouse$Acts", "cleanSpace", "(II)I"⟩, 8), (⟨"BreweryHouse$Acts", "drainSpace", "(I)I"⟩, 8), (⟨"BreweryHouse$Run", "enter", "(I)V"⟩, 21), (⟨"BreweryHouse", "senseAll", "()V"⟩, 16), (⟨"BreweryHouse", "sensed", "(II)J"⟩, 16)]
theorem lw_r4 : ∀ q ∈ lw_privs_4, lw_okq q := List.forall_mem_cons.mpr ⟨lw_p48, List.forall_mem_cons.mpr ⟨lw_p49, List.forall_mem_cons.mpr ⟨lw_p50, List.forall_mem_cons.mpr ⟨lw_p51, List.forall_mem_cons.mpr ⟨lw_p52, List.forall_mem_cons.mpr ⟨lw_p53, List.forall_mem_cons.mpr ⟨lw_p54, List.forall_mem_cons.mpr ⟨lw_p55, List.forall_mem_cons.mpr ⟨lw_p56, List.forall_mem_cons.mpr ⟨lw_p57, List.forall_mem_cons.mpr ⟨lw_p58, List.forall_mem_cons.mpr ⟨lw_p59, List.forall_mem_cons.mpr ⟨lw_p60, List.forall_mem_cons.mpr ⟨lw_p61, List.forall_mem_cons.mpr ⟨lw_p62, List.forall_mem_cons.mpr ⟨lw_p63, fun _ h => absurd h List.not_mem_nil⟩⟩⟩⟩⟩⟩⟩⟩⟩⟩⟩⟩⟩⟩⟩⟩
theorem lw_p64 : lw_okq (⟨"BreweryHouse$Run", "lookAtLimits", "(II)V"⟩, 21) := ⟨⟨by decide +kernel, by decide +kernel⟩, List.mem_of_getElem? (i := 417) (by decide +kernel), List.mem_of_getElem? (i := 1346) (by decide +kernel), List.mem_of_getElem? (i := 1347) (by decide +kernel)⟩
theorem lw_p65 : lw_okq (⟨"BreweryHouse$Run", "lookAtLimit", "(I)V"⟩, 21) := ⟨⟨by decide +kernel, by decide +kernel⟩, List.mem_of_getElem? (i := 417) (by decide +kernel), List.mem_of_getElem? (i := 1350) (by decide +kernel), List.mem_of_getElem? (i := 1351) (by decide +kernel)⟩
theorem lw_p66 : lw_okq (⟨"BreweryHouse$Run", "reckon", "(II)J"⟩, 21) := ⟨⟨by decide +kernel, by decide +kernel⟩, List.mem_of_getElem? (i := 417) (by decide +kernel), List.mem_of_getElem? (i := 1354) (by decide +kernel), List.mem_of_getElem? (i := 1355) (by decide +kernel)⟩
theorem lw_p67 : lw_okq (⟨"BreweryHouse$Run", "fault", "(II)V"⟩, 21) := ⟨⟨by decide +kernel, by decide +kernel⟩, List.mem_of_getElem? (i := 417) (by decide +kernel), List.mem_of_getElem? (i := 1358) (by decide +kernel), List.mem_of_getElem? (i := 1359) (by decide +kernel)⟩
theorem lw_p68 : lw_okq (⟨"BreweryHouse$Run", "choose", "(II)V"⟩, 21) := ⟨⟨by decide +kernel, by decide +kernel⟩, List.mem_of_getElem? (i := 417) (by decide +kernel), List.mem_of_getElem? (i := 1367) (by decide +kernel), List.mem_of_getElem? (i := 1368) (by decide +kernel)⟩
theorem lw_p69 : lw_okq (⟨"BreweryHouse$Run", "goOn", "(II)Z"⟩, 21) := ⟨⟨by decide +kernel, by decide +kernel⟩, List.mem_of_getElem? (i := 417) (by decide +kernel), List.mem_of_getElem? (i := 1371) (by decide +kernel), List.mem_of_getElem? (i := 1372) (by decide +kernel)⟩
theorem lw_p70 : lw_okq (⟨"BreweryHouse$Run", "mayBegin", "(I)Z"⟩, 21) := ⟨⟨by decide +kernel, by decide +kernel⟩, List.mem_of_getElem? (i := 417) (by decide +kernel), List.mem_of_getElem? (i := 1375) (by decide +kernel), List.mem_of_getElem? (i := 1376) (by decide +kernel)⟩
theorem lw_p71 : lw_okq (⟨"BreweryHouse$Run", "goesPast", "(II)Z"⟩, 21) := ⟨⟨by decide +kernel, by decide +kernel⟩, List.mem_of_getElem? (i := 417) (by decide +kernel), List.mem_of_getElem? (i := 1379) (by decide +kernel), List.mem_of_getElem? (i := 1380) (by decide +kernel)⟩
theorem lw_p72 : lw_okq (⟨"BreweryHouse$Run", "lookAgain", "(II)I"⟩, 21) := ⟨⟨by decide +kernel, by decide +kernel⟩, List.mem_of_getElem? (i := 417) (by decide +kernel), List.mem_of_getElem? (i := 1383) (by decide +kernel), List.mem_of_getElem? (i := 1384) (by decide +kernel)⟩
theorem lw_p73 : lw_okq (⟨"BreweryHouse$Run", "setValue", "(IJ)V"⟩, 21) := ⟨⟨by decide +kernel, by decide +kernel⟩, List.mem_of_getElem? (i := 417) (by decide +kernel), List.mem_of_getElem? (i := 1387) (by decide +kernel), List.mem_of_getElem? (i := 1388) (by decide +kernel)⟩
theorem lw_p74 : lw_okq (⟨"BreweryHouse$Run", "beginReckoned", "(II)I"⟩, 21) := ⟨⟨by decide +kernel, by decide +kernel⟩, List.mem_of_getElem? (i := 417) (by decide +kernel), List.mem_of_getElem? (i := 1394) (by decide +kernel), List.mem_of_getElem? (i := 1395) (by decide +kernel)⟩
theorem lw_p75 : lw_okq (⟨"BreweryHouse$Run", "stand", "(I)I"⟩, 21) := ⟨⟨by decide +kernel, by decide +kernel⟩, List.mem_of_getElem? (i := 417) (by decide +kernel), List.mem_of_getElem? (i := 1398) (by decide +kernel), List.mem_of_getElem? (i := 1399) (by decide +kernel)⟩
theorem lw_p76 : lw_okq (⟨"BreweryHouse$Run", "beginRamp", "(IJ)I"⟩, 21) := ⟨⟨by decide +kernel, by decide +kernel⟩, List.mem_of_getElem? (i := 417) (by decide +kernel), List.mem_of_getElem? (i := 1402) (by decide +kernel), List.mem_of_getElem? (i := 1403) (by decide +kernel)⟩
theorem lw_p77 : lw_okq (⟨"BreweryHouse$Run", "goInside", "(II)I"⟩, 21) := ⟨⟨by decide +kernel, by decide +kernel⟩, List.mem_of_getElem? (i := 417) (by decide +kernel), List.mem_of_getElem? (i := 1406) (by decide +kernel), List.mem_of_getElem? (i := 1407) (by decide +kernel)⟩
theorem lw_p78 : lw_okq (⟨"BreweryHouse$Run", "beginPlain", "(II)I"⟩, 21) := ⟨⟨by decide +kernel, by decide +kernel⟩, List.mem_of_getElem? (i := 417) (by decide +kernel), List.mem_of_getElem? (i := 1410) (by decide +kernel), List.mem_of_getElem? (i := 1411) (by decide +kernel)⟩
theorem lw_p79 : lw_okq (⟨"BreweryHouse$Run", "beginPar", "(I)I"⟩, 21) := ⟨⟨by decide +kernel, by decide +kernel⟩, List.mem_of_getElem? (i := 417) (by decide +kernel), List.mem_of_getElem? (i := 1415) (by decide +kernel), List.mem_of_getElem? (i := 1416) (by decide +kernel)⟩
def lw_privs_5 : List (MethodName × Nat) := [(⟨"BreweryHouse$Run", "lookAtLimits", "(II)V"⟩, 21), (⟨"BreweryHouse$Run", "lookAtLimit", "(I)V"⟩, 21), (⟨"BreweryHouse$Run", "reckon", "(II)J"⟩, 21), (⟨"BreweryHouse$Run", "fault", "(II)V"⟩, 21), (⟨"BreweryHouse$Run", "choose", "(II)V"⟩, 21), (⟨"BreweryHouse$Run", "goOn", "(II)Z"⟩, 21), (⟨"BreweryHouse$Run", "mayBegin", "(I)Z"⟩, 21), (⟨"BreweryHouse$Run", "goesPast", "(II)Z"⟩, 21), (⟨"BreweryHouse$Run", "lookAgain", "(II)I"⟩, 21), (⟨"BreweryHouse$Run", "setValue", "(IJ)V"⟩, 21), (⟨"BreweryHouse$Run", "beginReckoned", "(II)I"⟩, 21), (⟨"BreweryHouse$Run", "stand", "(I)I"⟩, 21), (⟨"BreweryHouse$Run", "beginRamp", "(IJ)I"⟩, 21), (⟨"BreweryHouse$Run", "goInside", "(II)I"⟩, 21), (⟨"BreweryHouse$Run", "beginPlain", "(II)I"⟩, 21), (⟨"BreweryHouse$Run", "beginPar", "(I)I"⟩, 21)]
theorem lw_r5 : ∀ q ∈ lw_privs_5, lw_okq q := List.forall_mem_cons.mpr ⟨lw_p64, List.forall_mem_cons.mpr ⟨lw_p65, List.forall_mem_cons.mpr ⟨lw_p66, List.forall_mem_cons.mpr ⟨lw_p67, List.forall_mem_cons.mpr ⟨lw_p68, List.forall_mem_cons.mpr ⟨lw_p69, List.forall_mem_cons.mpr ⟨lw_p70, List.forall_mem_cons.mpr ⟨lw_p71, List.forall_mem_cons.mpr ⟨lw_p72, List.forall_mem_cons.mpr ⟨lw_p73, List.forall_mem_cons.mpr ⟨lw_p74, List.forall_mem_cons.mpr ⟨lw_p75, List.forall_mem_cons.mpr ⟨lw_p76, List.forall_mem_cons.mpr ⟨lw_p77, List.forall_mem_cons.mpr ⟨lw_p78, List.forall_mem_cons.mpr ⟨lw_p79, fun _ h => absurd h List.not_mem_nil⟩⟩⟩⟩⟩⟩⟩⟩⟩⟩⟩⟩⟩⟩⟩⟩
theorem lw_p80 : lw_okq (⟨"BreweryHouse$Run", "endsAllSides", "(II)Z"⟩, 21) := ⟨⟨by decide +kernel, by decide +kernel⟩, List.mem_of_getElem? (i := 417) (by decide +kernel), List.mem_of_getElem? (i := 1419) (by decide +kernel), List.mem_of_getElem? (i := 1420) (by decide +kernel)⟩
theorem lw_p81 : lw_okq (⟨"BreweryHouse$Run", "endsRounds", "(II)Z"⟩, 21) := ⟨⟨by decide +kernel, by decide +kernel⟩, List.mem_of_getElem? (i := 417) (by decide +kernel), List.mem_of_getElem? (i := 1423) (by decide +kernel), List.mem_of_getElem? (i := 1424) (by decide +kernel)⟩
theorem lw_p82 : lw_okq (⟨"BreweryHouse$Ways", "movesLitre", "(I)Z"⟩, 18) := ⟨⟨by decide +kernel, by decide +kernel⟩, List.mem_of_getElem? (i := 210) (by decide +kernel), List.mem_of_getElem? (i := 1431) (by decide +kernel), List.mem_of_getElem? (i := 1432) (by decide +kernel)⟩
theorem lw_p83 : lw_okq (⟨"BreweryHouse$Ways", "goesForth", "(I)Z"⟩, 18) := ⟨⟨by decide +kernel, by decide +kernel⟩, List.mem_of_getElem? (i := 210) (by decide +kernel), List.mem_of_getElem? (i := 1435) (by decide +kernel), List.mem_of_getElem? (i := 1436) (by decide +kernel)⟩
theorem lw_p84 : lw_okq (⟨"BreweryHouse$Stock", "leavingCell", "(IZ)I"⟩, 12) := ⟨⟨by decide +kernel, by decide +kernel⟩, List.mem_of_getElem? (i := 75) (by decide +kernel), List.mem_of_getElem? (i := 1443) (by decide +kernel), List.mem_of_getElem? (i := 1444) (by decide +kernel)⟩
theorem lw_p85 : lw_okq (⟨"BreweryHouse$Stock", "isFull", "(II)Z"⟩, 12) := ⟨⟨by decide +kernel, by decide +kernel⟩, List.mem_of_getElem? (i := 75) (by decide +kernel), List.mem_of_getElem? (i := 1447) (by decide +kernel), List.mem_of_getElem? (i := 1448) (by decide +kernel)⟩
theorem lw_p86 : lw_okq (⟨"BreweryHouse$Run", "seek", "(IZI)I"⟩, 21) := ⟨⟨by decide +kernel, by decide +kernel⟩, List.mem_of_getElem? (i := 417) (by decide +kernel), List.mem_of_getElem? (i := 1469) (by decide +kernel), List.mem_of_getElem? (i := 1470) (by decide +kernel)⟩
theorem lw_p87 : lw_okq (⟨"BreweryHouseModel", "readPlant", "()I"⟩, 87) := ⟨⟨by decide +kernel, by decide +kernel⟩, List.mem_of_getElem? (i := 1560) (by decide +kernel), List.mem_of_getElem? (i := 2057) (by decide +kernel), List.mem_of_getElem? (i := 2058) (by decide +kernel)⟩
theorem lw_p88 : lw_okq (⟨"BreweryHouseModel", "planLine", "()I"⟩, 87) := ⟨⟨by decide +kernel, by decide +kernel⟩, List.mem_of_getElem? (i := 1560) (by decide +kernel), List.mem_of_getElem? (i := 2061) (by decide +kernel), List.mem_of_getElem? (i := 2062) (by decide +kernel)⟩
theorem lw_p89 : lw_okq (⟨"BreweryHouseModel", "here", "()I"⟩, 87) := ⟨⟨by decide +kernel, by decide +kernel⟩, List.mem_of_getElem? (i := 1560) (by decide +kernel), List.mem_of_getElem? (i := 2065) (by decide +kernel), List.mem_of_getElem? (i := 2066) (by decide +kernel)⟩
theorem lw_p90 : lw_okq (⟨"BreweryHouseModel", "over", "(J)Z"⟩, 87) := ⟨⟨by decide +kernel, by decide +kernel⟩, List.mem_of_getElem? (i := 1560) (by decide +kernel), List.mem_of_getElem? (i := 2070) (by decide +kernel), List.mem_of_getElem? (i := 2071) (by decide +kernel)⟩
theorem lw_p91 : lw_okq (⟨"BreweryHouseModel", "number", "(Z)I"⟩, 87) := ⟨⟨by decide +kernel, by decide +kernel⟩, List.mem_of_getElem? (i := 1560) (by decide +kernel), List.mem_of_getElem? (i := 2079) (by decide +kernel), List.mem_of_getElem? (i := 2080) (by decide +kernel)⟩
theorem lw_p92 : lw_okq (⟨"BreweryHouseModel", "isNew", "(I)Z"⟩, 87) := ⟨⟨by decide +kernel, by decide +kernel⟩, List.mem_of_getElem? (i := 1560) (by decide +kernel), List.mem_of_getElem? (i := 2084) (by decide +kernel), List.mem_of_getElem? (i := 2085) (by decide +kernel)⟩
theorem lw_p93 : lw_okq (⟨"BreweryHouseModel", "build", "(I)V"⟩, 87) := ⟨⟨by decide +kernel, by decide +kernel⟩, List.mem_of_getElem? (i := 1560) (by decide +kernel), List.mem_of_getElem? (i := 2092) (by decide +kernel), List.mem_of_getElem? (i := 2093) (by decide +kernel)⟩
theorem lw_p94 : lw_okq (⟨"BreweryHouseModel", "forget", "(I)V"⟩, 87) := ⟨⟨by decide +kernel, by decide +kernel⟩, List.mem_of_getElem? (i := 1560) (by decide +kernel), List.mem_of_getElem? (i := 2096) (by decide +kernel), List.mem_of_getElem? (i := 2097) (by decide +kernel)⟩
theorem lw_p95 : lw_okq (⟨"BreweryHouseModel$Rows", "cut", "()V"⟩, 25) := ⟨⟨by decide +kernel, by decide +kernel⟩, List.mem_of_getElem? (i := 1699) (by decide +kernel), List.mem_of_getElem? (i := 2112) (by decide +kernel), List.mem_of_getElem? (i := 2113) (by decide +kernel)⟩
def lw_privs_6 : List (MethodName × Nat) := [(⟨"BreweryHouse$Run", "endsAllSides", "(II)Z"⟩, 21), (⟨"BreweryHouse$Run", "endsRounds", "(II)Z"⟩, 21), (⟨"BreweryHouse$Ways", "movesLitre", "(I)Z"⟩, 18), (⟨"BreweryHouse$Ways", "goesForth", "(I)Z"⟩, 18), (⟨"BreweryHouse$Stock", "leavingCell", "(IZ)I"⟩, 12), (⟨"BreweryHouse$Stock", "isFull", "(II)Z"⟩, 12), (⟨"BreweryHouse$Run", "seek", "(IZI)I"⟩, 21), (⟨"BreweryHouseModel", "readPlant", "()I"⟩, 87), (⟨"BreweryHouseModel", "planLine", "()I"⟩, 87), (⟨"BreweryHouseModel", "here", "()I"⟩, 87), (⟨"BreweryHouseModel", "over", "(J)Z"⟩, 87), (⟨"BreweryHouseModel", "number", "(Z)I"⟩, 87), (⟨"BreweryHouseModel", "isNew", "(I)Z"⟩, 87), (⟨"BreweryHouseModel", "build", "(I)V"⟩, 87), (⟨"BreweryHouseModel", "forget", "(I)V"⟩, 87), (⟨"BreweryHouseModel$Rows", "cut", "()V"⟩, 25)]
theorem lw_r6 : ∀ q ∈ lw_privs_6, lw_okq q := List.forall_mem_cons.mpr ⟨lw_p80, List.forall_mem_cons.mpr ⟨lw_p81, List.forall_mem_cons.mpr ⟨lw_p82, List.forall_mem_cons.mpr ⟨lw_p83, List.forall_mem_cons.mpr ⟨lw_p84, List.forall_mem_cons.mpr ⟨lw_p85, List.forall_mem_cons.mpr ⟨lw_p86, List.forall_mem_cons.mpr ⟨lw_p87, List.forall_mem_cons.mpr ⟨lw_p88, List.forall_mem_cons.mpr ⟨lw_p89, List.forall_mem_cons.mpr ⟨lw_p90, List.forall_mem_cons.mpr ⟨lw_p91, List.forall_mem_cons.mpr ⟨lw_p92, List.forall_mem_cons.mpr ⟨lw_p93, List.forall_mem_cons.mpr ⟨lw_p94, List.forall_mem_cons.mpr ⟨lw_p95, fun _ h => absurd h List.not_mem_nil⟩⟩⟩⟩⟩⟩⟩⟩⟩⟩⟩⟩⟩⟩⟩⟩
theorem lw_p96 : lw_okq (⟨"BreweryHouseModel$Rows", "is", "(IIIIIIII)Z"⟩, 25) := ⟨⟨by decide +kernel, by decide +kernel⟩, List.mem_of_getElem? (i := 1699) (by decide +kernel), List.mem_of_getElem? (i := 2119) (by decide +kernel), List.mem_of_getElem? (i := 2120) (by decide +kernel)⟩
theorem lw_p97 : lw_okq (⟨"BreweryHouseModel$Rows", "wide", "()I"⟩, 25) := ⟨⟨by decide +kernel, by decide +kernel⟩, List.mem_of_getElem? (i := 1699) (by decide +kernel), List.mem_of_getElem? (i := 2123) (by decide +kernel), List.mem_of_getElem? (i := 2124) (by decide +kernel)⟩
theorem lw_p98 : lw_okq (⟨"BreweryHouseModel$Rows", "at", "(I)I"⟩, 25) := ⟨⟨by decide +kernel, by decide +kernel⟩, List.mem_of_getElem? (i := 1699) (by decide +kernel), List.mem_of_getElem? (i := 2127) (by decide +kernel), List.mem_of_getElem? (i := 2128) (by decide +kernel)⟩
theorem lw_p99 : lw_okq (⟨"BreweryHouseModel$Rows", "readRow", "()Z"⟩, 25) := ⟨⟨by decide +kernel, by decide +kernel⟩, List.mem_of_getElem? (i := 1699) (by decide +kernel), List.mem_of_getElem? (i := 2131) (by decide +kernel), List.mem_of_getElem? (i := 2132) (by decide +kernel)⟩
theorem lw_p100 : lw_okq (⟨"BreweryHouseModel$Rows", "act", "()I"⟩, 25) := ⟨⟨by decide +kernel, by decide +kernel⟩, List.mem_of_getElem? (i := 1699) (by decide +kernel), List.mem_of_getElem? (i := 2135) (by decide +kernel), List.mem_of_getElem? (i := 2136) (by decide +kernel)⟩
theorem lw_p101 : lw_okq (⟨"BreweryHouseModel$Rows", "number", "(II)I"⟩, 25) := ⟨⟨by decide +kernel, by decide +kernel⟩, List.mem_of_getElem? (i := 1699) (by decide +kernel), List.mem_of_getElem? (i := 2139) (by decide +kernel), List.mem_of_getElem? (i := 2140) (by decide +kernel)⟩
theorem lw_p102 : lw_okq (⟨"BreweryHouseModel$Rows", "or", "()I"⟩, 25) := ⟨⟨by decide +kernel, by decide +kernel⟩, List.mem_of_getElem? (i := 1699) (by decide +kernel), List.mem_of_getElem? (i := 2143) (by decide +kernel), List.mem_of_getElem? (i := 2144) (by decide +kernel)⟩
theorem lw_p103 : lw_okq (⟨"BreweryHouseModel$Rows", "and", "()I"⟩, 25) := ⟨⟨by decide +kernel, by decide +kernel⟩, List.mem_of_getElem? (i := 1699) (by decide +kernel), List.mem_of_getElem? (i := 2147) (by decide +kernel), List.mem_of_getElem? (i := 2148) (by decide +kernel)⟩
theorem lw_p104 : lw_okq (⟨"BreweryHouseModel$Rows", "part", "()I"⟩, 25) := ⟨⟨by decide +kernel, by decide +kernel⟩, List.mem_of_getElem? (i := 1699) (by decide +kernel), List.mem_of_getElem? (i := 2151) (by decide +kernel), List.mem_of_getElem? (i := 2152) (by decide +kernel)⟩
theorem lw_p105 : lw_okq (⟨"BreweryHouseModel$Rows", "isOne", "(I)Z"⟩, 25) := ⟨⟨by decide +kernel, by decide +kernel⟩, List.mem_of_getElem? (i := 1699) (by decide +kernel), List.mem_of_getElem? (i := 2155) (by decide +kernel), List.mem_of_getElem? (i := 2156) (by decide +kernel)⟩
theorem lw_p106 : lw_okq (⟨"BreweryHouseModel$Rows", "node", "(III)I"⟩, 25) := ⟨⟨by decide +kernel, by decide +kernel⟩, List.mem_of_getElem? (i := 1699) (by decide +kernel), List.mem_of_getElem? (i := 2159) (by decide +kernel), List.mem_of_getElem? (i := 2160) (by decide +kernel)⟩
theorem lw_p107 : lw_okq (⟨"BreweryHouseModel$Rows", "conditionWord", "()I"⟩, 25) := ⟨⟨by decide +kernel, by decide +kernel⟩, List.mem_of_getElem? (i := 1699) (by decide +kernel), List.mem_of_getElem? (i := 2163) (by decide +kernel), List.mem_of_getElem? (i := 2164) (by decide +kernel)⟩
theorem lw_p108 : lw_okq (⟨"BreweryHouseModel$Text", "program", "()Z"⟩, 39) := ⟨⟨by decide +kernel, by decide +kernel⟩, List.mem_of_getElem? (i := 1566) (by decide +kernel), List.mem_of_getElem? (i := 2171) (by decide +kernel), List.mem_of_getElem? (i := 2172) (by decide +kernel)⟩
theorem lw_p109 : lw_okq (⟨"BreweryHouseModel$Text", "go", "()Z"⟩, 39) := ⟨⟨by decide +kernel, by decide +kernel⟩, List.mem_of_getElem? (i := 1566) (by decide +kernel), List.mem_of_getElem? (i := 2175) (by decide +kernel), List.mem_of_getElem? (i := 2176) (by decide +kernel)⟩
theorem lw_p110 : lw_okq (⟨"BreweryHouseModel$Text", "at", "(I)I"⟩, 39) := ⟨⟨by decide +kernel, by decide +kernel⟩, List.mem_of_getElem? (i := 1566) (by decide +kernel), List.mem_of_getElem? (i := 2179) (by decide +kernel), List.mem_of_getElem? (i := 2180) (by decide +kernel)⟩
theorem lw_p111 : lw_okq (⟨"BreweryHouseModel$Text", "digits", "()V"⟩, 39) := ⟨⟨by decide +kernel, by decide +kernel⟩, List.mem_of_getElem? (i := 1566) (by decide +kernel), List.mem_of_getElem? (i := 2189) (by decide +kernel), List.mem_of_getElem? (i := 2190) (by decide +kernel)⟩
def lw_privs_7 : List (MethodName × Nat) := [(⟨"BreweryHouseModel$Rows", "is", "(IIIIIIII)Z"⟩, 25), (⟨"BreweryHouseModel$Rows", "wide", "()I"⟩, 25), (⟨"BreweryHouseModel$Rows", "at", "(I)I"⟩, 25), (⟨"BreweryHouseModel$Rows", "readRow", "()Z"⟩, 25), (⟨"BreweryHouseModel$Rows", "act", "()I"⟩, 25), (⟨"BreweryHouseModel$Rows", "number", "(II)I"⟩, 25), (⟨"BreweryHouseModel$Rows", "or", "()I"⟩, 25), (⟨"BreweryHouseModel$Rows", "and", "()I"⟩, 25), (⟨"BreweryHouseModel$Rows", "part", "()I"⟩, 25), (⟨"BreweryHouseModel$Rows", "isOne", "(I)Z"⟩, 25), (⟨"BreweryHouseModel$Rows", "node", "(III)I"⟩, 25), (⟨"BreweryHouseModel$Rows", "conditionWord", "()I"⟩, 25), (⟨"BreweryHouseModel$Text", "program", "()Z"⟩, 39), (⟨"BreweryHouseModel$Text", "go", "()Z"⟩, 39), (⟨"BreweryHouseModel$Text", "at", "(I)I"⟩, 39), (⟨"BreweryHouseModel$Text", "digits", "()V"⟩, 39)]
theorem lw_r7 : ∀ q ∈ lw_privs_7, lw_okq q := List.forall_mem_cons.mpr ⟨lw_p96, List.forall_mem_cons.mpr ⟨lw_p97, List.forall_mem_cons.mpr ⟨lw_p98, List.forall_mem_cons.mpr ⟨lw_p99, List.forall_mem_cons.mpr ⟨lw_p100, List.forall_mem_cons.mpr ⟨lw_p101, List.forall_mem_cons.mpr ⟨lw_p102, List.forall_mem_cons.mpr ⟨lw_p103, List.forall_mem_cons.mpr ⟨lw_p104, List.forall_mem_cons.mpr ⟨lw_p105, List.forall_mem_cons.mpr ⟨lw_p106, List.forall_mem_cons.mpr ⟨lw_p107, List.forall_mem_cons.mpr ⟨lw_p108, List.forall_mem_cons.mpr ⟨lw_p109, List.forall_mem_cons.mpr ⟨lw_p110, List.forall_mem_cons.mpr ⟨lw_p111, fun _ h => absurd h List.not_mem_nil⟩⟩⟩⟩⟩⟩⟩⟩⟩⟩⟩⟩⟩⟩⟩⟩
theorem lw_p112 : lw_okq (⟨"BreweryHouseModel$Text", "meaning", "()I"⟩, 39) := ⟨⟨by decide +kernel, by decide +kernel⟩, List.mem_of_getElem? (i := 1566) (by decide +kernel), List.mem_of_getElem? (i := 2197) (by decide +kernel), List.mem_of_getElem? (i := 2198) (by decide +kernel)⟩
theorem lw_p113 : lw_okq (⟨"BreweryHouseModel$Text", "is", "(J)Z"⟩, 39) := ⟨⟨by decide +kernel, by decide +kernel⟩, List.mem_of_getElem? (i := 1566) (by decide +kernel), List.mem_of_getElem? (i := 2202) (by decide +kernel), List.mem_of_getElem? (i := 2203) (by decide +kernel)⟩
theorem lw_p114 : lw_okq (⟨"BreweryHouseModel$Text", "isWord", "(I)Z"⟩, 39) := ⟨⟨by decide +kernel, by decide +kernel⟩, List.mem_of_getElem? (i := 1566) (by decide +kernel), List.mem_of_getElem? (i := 2232) (by decide +kernel), List.mem_of_getElem? (i := 2233) (by decide +kernel)⟩
theorem lw_p115 : lw_okq (⟨"BreweryHouseModel$Text", "declaration", "()Z"⟩, 39) := ⟨⟨by decide +kernel, by decide +kernel⟩, List.mem_of_getElem? (i := 1566) (by decide +kernel), List.mem_of_getElem? (i := 2236) (by decide +kernel), List.mem_of_getElem? (i := 2237) (by decide +kernel)⟩
theorem lw_p116 : lw_okq (⟨"BreweryHouseModel$Text", "tell", "(I)I"⟩, 39) := ⟨⟨by decide +kernel, by decide +kernel⟩, List.mem_of_getElem? (i := 1566) (by decide +kernel), List.mem_of_getElem? (i := 2240) (by decide +kernel), List.mem_of_getElem? (i := 2241) (by decide +kernel)⟩
theorem lw_p117 : lw_okq (⟨"BreweryHouseModel$Text", "nameOf", "()I"⟩, 39) := ⟨⟨by decide +kernel, by decide +kernel⟩, List.mem_of_getElem? (i := 1566) (by decide +kernel), List.mem_of_getElem? (i := 2244) (by decide +kernel), List.mem_of_getElem? (i := 2245) (by decide +kernel)⟩
theorem lw_p118 : lw_okq (⟨"BreweryHouseModel$Text", "bad", "()I"⟩, 39) := ⟨⟨by decide +kernel, by decide +kernel⟩, List.mem_of_getElem? (i := 1566) (by decide +kernel), List.mem_of_getElem? (i := 2248) (by decide +kernel), List.mem_of_getElem? (i := 2249) (by decide +kernel)⟩
theorem lw_p119 : lw_okq (⟨"BreweryHouseModel$Text", "unitWord", "()I"⟩, 39) := ⟨⟨by decide +kernel, by decide +kernel⟩, List.mem_of_getElem? (i := 1566) (by decide +kernel), List.mem_of_getElem? (i := 2252) (by decide +kernel), List.mem_of_getElem? (i := 2253) (by decide +kernel)⟩
theorem lw_p120 : lw_okq (⟨"BreweryHouseModel$Text", "over", "(I)Z"⟩, 39) := ⟨⟨by decide +kernel, by decide +kernel⟩, List.mem_of_getElem? (i := 1566) (by decide +kernel), List.mem_of_getElem? (i := 2256) (by decide +kernel), List.mem_of_getElem? (i := 2257) (by decide +kernel)⟩
theorem lw_p121 : lw_okq (⟨"BreweryHouseModel$Text", "block", "()I"⟩, 39) := ⟨⟨by decide +kernel, by decide +kernel⟩, List.mem_of_getElem? (i := 1566) (by decide +kernel), List.mem_of_getElem? (i := 2260) (by decide +kernel), List.mem_of_getElem? (i := 2261) (by decide +kernel)⟩
theorem lw_p122 : lw_okq (⟨"BreweryHouseModel$Text", "statement", "()I"⟩, 39) := ⟨⟨by decide +kernel, by decide +kernel⟩, List.mem_of_getElem? (i := 1566) (by decide +kernel), List.mem_of_getElem? (i := 2264) (by decide +kernel), List.mem_of_getElem? (i := 2265) (by decide +kernel)⟩
theorem lw_p123 : lw_okq (⟨"BreweryHouseModel$Text", "known", "(I)I"⟩, 39) := ⟨⟨by decide +kernel, by decide +kernel⟩, List.mem_of_getElem? (i := 1566) (by decide +kernel), List.mem_of_getElem? (i := 2268) (by decide +kernel), List.mem_of_getElem? (i := 2269) (by decide +kernel)⟩
theorem lw_p124 : lw_okq (⟨"BreweryHouseModel$Text", "sumOf", "(I)Z"⟩, 39) := ⟨⟨by decide +kernel, by decide +kernel⟩, List.mem_of_getElem? (i := 1566) (by decide +kernel), List.mem_of_getElem? (i := 2272) (by decide +kernel), List.mem_of_getElem? (i := 2273) (by decide +kernel)⟩
theorem lw_p125 : lw_okq (⟨"BreweryHouseModel$Text", "sum", "()I"⟩, 39) := ⟨⟨by decide +kernel, by decide +kernel⟩, List.mem_of_getElem? (i := 1566) (by decide +kernel), List.mem_of_getElem? (i := 2276) (by decide +kernel), List.mem_of_getElem? (i := 2277) (by decide +kernel)⟩
theorem lw_p126 : lw_okq (⟨"BreweryHouseModel$Text", "product", "()I"⟩, 39) := ⟨⟨by decide +kernel, by decide +kernel⟩, List.mem_of_getElem? (i := 1566) (by decide +kernel), List.mem_of_getElem? (i := 2280) (by decide +kernel), List.mem_of_getElem? (i := 2281) (by decide +kernel)⟩
theorem lw_p127 : lw_okq (⟨"BreweryHouseModel$Text", "factor", "()I"⟩, 39) := ⟨⟨by decide +kernel, by decide +kernel⟩, List.mem_of_getElem? (i := 1566) (by decide +kernel), List.mem_of_getElem? (i := 2284) (by decide +kernel), List.mem_of_getElem? (i := 2285) (by decide +kernel)⟩
def lw_privs_8 : List (MethodName × Nat) := [(⟨"BreweryHouseModel$Text", "meaning", "()I"⟩, 39), (⟨"BreweryHouseModel$Text", "is", "(J)Z"⟩, 39), (⟨"BreweryHouseModel$Text", "isWord", "(I)Z"⟩, 39), (⟨"BreweryHouseModel$Text", "declaration", "()Z"⟩, 39), (⟨"BreweryHouseModel$Text", "tell", "(I)I"⟩, 39), (⟨"BreweryHouseModel$Text", "nameOf", "()I"⟩, 39), (⟨"BreweryHouseModel$Text", "bad", "()I"⟩, 39), (⟨"BreweryHouseModel$Text", "unitWord", "()I"⟩, 39), (⟨"BreweryHouseModel$Text", "over", "(I)Z"⟩, 39), (⟨"BreweryHouseModel$Text", "block", "()I"⟩, 39), (⟨"BreweryHouseModel$Text", "statement", "()I"⟩, 39), (⟨"BreweryHouseModel$Text", "known", "(I)I"⟩, 39), (⟨"BreweryHouseModel$Text", "sumOf", "(I)Z"⟩, 39), (⟨"BreweryHouseModel$Text", "sum", "()I"⟩, 39), (⟨"BreweryHouseModel$Text", "product", "()I"⟩, 39), (⟨"BreweryHouseModel$Text", "factor", "()I"⟩, 39)]
theorem lw_r8 : ∀ q ∈ lw_privs_8, lw_okq q := List.forall_mem_cons.mpr ⟨lw_p112, List.forall_mem_cons.mpr ⟨lw_p113, List.forall_mem_cons.mpr ⟨lw_p114, List.forall_mem_cons.mpr ⟨lw_p115, List.forall_mem_cons.mpr ⟨lw_p116, List.forall_mem_cons.mpr ⟨lw_p117, List.forall_mem_cons.mpr ⟨lw_p118, List.forall_mem_cons.mpr ⟨lw_p119, List.forall_mem_cons.mpr ⟨lw_p120, List.forall_mem_cons.mpr ⟨lw_p121, List.forall_mem_cons.mpr ⟨lw_p122, List.forall_mem_cons.mpr ⟨lw_p123, List.forall_mem_cons.mpr ⟨lw_p124, List.forall_mem_cons.mpr ⟨lw_p125, List.forall_mem_cons.mpr ⟨lw_p126, List.forall_mem_cons.mpr ⟨lw_p127, fun _ h => absurd h List.not_mem_nil⟩⟩⟩⟩⟩⟩⟩⟩⟩⟩⟩⟩⟩⟩⟩⟩
theorem lw_p128 : lw_okq (⟨"BreweryHouseModel$Text", "numberNode", "(I)I"⟩, 39) := ⟨⟨by decide +kernel, by decide +kernel⟩, List.mem_of_getElem? (i := 1566) (by decide +kernel), List.mem_of_getElem? (i := 2288) (by decide +kernel), List.mem_of_getElem? (i := 2289) (by decide +kernel)⟩
theorem lw_p129 : lw_okq (⟨"BreweryHouseModel$Text", "node", "(IJIII)I"⟩, 39) := ⟨⟨by decide +kernel, by decide +kernel⟩, List.mem_of_getElem? (i := 1566) (by decide +kernel), List.mem_of_getElem? (i := 2295) (by decide +kernel), List.mem_of_getElem? (i := 2296) (by decide +kernel)⟩
theorem lw_p130 : lw_okq (⟨"BreweryHouseModel$Text", "base", "()I"⟩, 39) := ⟨⟨by decide +kernel, by decide +kernel⟩, List.mem_of_getElem? (i := 1566) (by decide +kernel), List.mem_of_getElem? (i := 2299) (by decide +kernel), List.mem_of_getElem? (i := 2300) (by decide +kernel)⟩
theorem lw_p131 : lw_okq (⟨"BreweryHouseModel$Text", "push", "(I)V"⟩, 39) := ⟨⟨by decide +kernel, by decide +kernel⟩, List.mem_of_getElem? (i := 1566) (by decide +kernel), List.mem_of_getElem? (i := 2303) (by decide +kernel), List.mem_of_getElem? (i := 2304) (by decide +kernel)⟩
theorem lw_p132 : lw_okq (⟨"BreweryHouseModel$Text", "unitIn", "(I)I"⟩, 39) := ⟨⟨by decide +kernel, by decide +kernel⟩, List.mem_of_getElem? (i := 1566) (by decide +kernel), List.mem_of_getElem? (i := 2307) (by decide +kernel), List.mem_of_getElem? (i := 2308) (by decide +kernel)⟩
theorem lw_p133 : lw_okq (⟨"BreweryHouseModel$Text", "two", "(IIII)I"⟩, 39) := ⟨⟨by decide +kernel, by decide +kernel⟩, List.mem_of_getElem? (i := 1566) (by decide +kernel), List.mem_of_getElem? (i := 2311) (by decide +kernel), List.mem_of_getElem? (i := 2312) (by decide +kernel)⟩
theorem lw_p134 : lw_okq (⟨"BreweryHouseModel$Text", "test", "()I"⟩, 39) := ⟨⟨by decide +kernel, by decide +kernel⟩, List.mem_of_getElem? (i := 1566) (by decide +kernel), List.mem_of_getElem? (i := 2315) (by decide +kernel), List.mem_of_getElem? (i := 2316) (by decide +kernel)⟩
theorem lw_p135 : lw_okq (⟨"BreweryHouseModel$Text", "pushed", "(I)Z"⟩, 39) := ⟨⟨by decide +kernel, by decide +kernel⟩, List.mem_of_getElem? (i := 1566) (by decide +kernel), List.mem_of_getElem? (i := 2319) (by decide +kernel), List.mem_of_getElem? (i := 2320) (by decide +kernel)⟩
theorem lw_p136 : lw_okq (⟨"BreweryHouseModel$Text", "isSmall", "()Z"⟩, 39) := ⟨⟨by decide +kernel, by decide +kernel⟩, List.mem_of_getElem? (i := 1566) (by decide +kernel), List.mem_of_getElem? (i := 2324) (by decide +kernel), List.mem_of_getElem? (i := 2325) (by decide +kernel)⟩
theorem lw_p137 : lw_okq (⟨"BreweryHouseModel", "closeAll", "()V"⟩, 87) := ⟨⟨by decide +kernel, by decide +kernel⟩, List.mem_of_getElem? (i := 1560) (by decide +kernel), List.mem_of_getElem? (i := 2328) (by decide +kernel), List.mem_of_getElem? (i := 2329) (by decide +kernel)⟩
theorem lw_p138 : lw_okq (⟨"BreweryHouseModel", "close", "(I)V"⟩, 87) := ⟨⟨by decide +kernel, by decide +kernel⟩, List.mem_of_getElem? (i := 1560) (by decide +kernel), List.mem_of_getElem? (i := 2332) (by decide +kernel), List.mem_of_getElem? (i := 2333) (by decide +kernel)⟩
theorem lw_p139 : lw_okq (⟨"BreweryHouseModel", "held", "(I)I"⟩, 87) := ⟨⟨by decide +kernel, by decide +kernel⟩, List.mem_of_getElem? (i := 1560) (by decide +kernel), List.mem_of_getElem? (i := 2336) (by decide +kernel), List.mem_of_getElem? (i := 2337) (by decide +kernel)⟩
theorem lw_p140 : lw_okq (⟨"BreweryHouseModel", "say", "(J)V"⟩, 87) := ⟨⟨by decide +kernel, by decide +kernel⟩, List.mem_of_getElem? (i := 1560) (by decide +kernel), List.mem_of_getElem? (i := 2345) (by decide +kernel), List.mem_of_getElem? (i := 2346) (by decide +kernel)⟩
theorem lw_p141 : lw_okq (⟨"BreweryHouseModel", "letter", "(I)V"⟩, 87) := ⟨⟨by decide +kernel, by decide +kernel⟩, List.mem_of_getElem? (i := 1560) (by decide +kernel), List.mem_of_getElem? (i := 2349) (by decide +kernel), List.mem_of_getElem? (i := 2350) (by decide +kernel)⟩
theorem lw_p142 : lw_okq (⟨"BreweryHouseModel", "sayNumber", "(I)V"⟩, 87) := ⟨⟨by decide +kernel, by decide +kernel⟩, List.mem_of_getElem? (i := 1560) (by decide +kernel), List.mem_of_getElem? (i := 2353) (by decide +kernel), List.mem_of_getElem? (i := 2354) (by decide +kernel)⟩
theorem lw_p143 : lw_okq (⟨"BreweryHouseModel", "look", "()V"⟩, 87) := ⟨⟨by decide +kernel, by decide +kernel⟩, List.mem_of_getElem? (i := 1560) (by decide +kernel), List.mem_of_getElem? (i := 2362) (by decide +kernel), List.mem_of_getElem? (i := 2363) (by decide +kernel)⟩
def lw_privs_9 : List (MethodName × Nat) := [(⟨"BreweryHouseModel$Text", "numberNode", "(I)I"⟩, 39), (⟨"BreweryHouseModel$Text", "node", "(IJIII)I"⟩, 39), (⟨"BreweryHouseModel$Text", "base", "()I"⟩, 39), (⟨"BreweryHouseModel$Text", "push", "(I)V"⟩, 39), (⟨"BreweryHouseModel$Text", "unitIn", "(I)I"⟩, 39), (⟨"BreweryHouseModel$Text", "two", "(IIII)I"⟩, 39), (⟨"BreweryHouseModel$Text", "test", "()I"⟩, 39), (⟨"BreweryHouseModel$Text", "pushed", "(I)Z"⟩, 39), (⟨"BreweryHouseModel$Text", "isSmall", "()Z"⟩, 39), (⟨"BreweryHouseModel", "closeAll", "()V"⟩, 87), (⟨"BreweryHouseModel", "close", "(I)V"⟩, 87), (⟨"BreweryHouseModel", "held", "(I)I"⟩, 87), (⟨"BreweryHouseModel", "say", "(J)V"⟩, 87), (⟨"BreweryHouseModel", "letter", "(I)V"⟩, 87), (⟨"BreweryHouseModel", "sayNumber", "(I)V"⟩, 87), (⟨"BreweryHouseModel", "look", "()V"⟩, 87)]
theorem lw_r9 : ∀ q ∈ lw_privs_9, lw_okq q := List.forall_mem_cons.mpr ⟨lw_p128, List.forall_mem_cons.mpr ⟨lw_p129, List.forall_mem_cons.mpr ⟨lw_p130, List.forall_mem_cons.mpr ⟨lw_p131, List.forall_mem_cons.mpr ⟨lw_p132, List.forall_mem_cons.mpr ⟨lw_p133, List.forall_mem_cons.mpr ⟨lw_p134, List.forall_mem_cons.mpr ⟨lw_p135, List.forall_mem_cons.mpr ⟨lw_p136, List.forall_mem_cons.mpr ⟨lw_p137, List.forall_mem_cons.mpr ⟨lw_p138, List.forall_mem_cons.mpr ⟨lw_p139, List.forall_mem_cons.mpr ⟨lw_p140, List.forall_mem_cons.mpr ⟨lw_p141, List.forall_mem_cons.mpr ⟨lw_p142, List.forall_mem_cons.mpr ⟨lw_p143, fun _ h => absurd h List.not_mem_nil⟩⟩⟩⟩⟩⟩⟩⟩⟩⟩⟩⟩⟩⟩⟩⟩
theorem lw_p144 : lw_okq (⟨"BreweryHouseModel", "liquidIn", "(I)I"⟩, 87) := ⟨⟨by decide +kernel, by decide +kernel⟩, List.mem_of_getElem? (i := 1560) (by decide +kernel), List.mem_of_getElem? (i := 2366) (by decide +kernel), List.mem_of_getElem? (i := 2367) (by decide +kernel)⟩
theorem lw_p145 : lw_okq (⟨"BreweryHouseModel", "carry", "(II)V"⟩, 87) := ⟨⟨by decide +kernel, by decide +kernel⟩, List.mem_of_getElem? (i := 1560) (by decide +kernel), List.mem_of_getElem? (i := 2370) (by decide +kernel), List.mem_of_getElem? (i := 2371) (by decide +kernel)⟩
theorem lw_p146 : lw_okq (⟨"BreweryHouseModel", "isSafe", "()Z"⟩, 87) := ⟨⟨by decide +kernel, by decide +kernel⟩, List.mem_of_getElem? (i := 1560) (by decide +kernel), List.mem_of_getElem? (i := 2374) (by decide +kernel), List.mem_of_getElem? (i := 2375) (by decide +kernel)⟩
theorem lw_p147 : lw_okq (⟨"BreweryHouseModel", "isCalm", "(I)Z"⟩, 87) := ⟨⟨by decide +kernel, by decide +kernel⟩, List.mem_of_getElem? (i := 1560) (by decide +kernel), List.mem_of_getElem? (i := 2378) (by decide +kernel), List.mem_of_getElem? (i := 2379) (by decide +kernel)⟩
theorem lw_p148 : lw_okq (⟨"BreweryHouseModel", "join", "()V"⟩, 87) := ⟨⟨by decide +kernel, by decide +kernel⟩, List.mem_of_getElem? (i := 1560) (by decide +kernel), List.mem_of_getElem? (i := 2382) (by decide +kernel), List.mem_of_getElem? (i := 2383) (by decide +kernel)⟩
theorem lw_p149 : lw_okq (⟨"BreweryHouseModel", "flood", "(I)J"⟩, 87) := ⟨⟨by decide +kernel, by decide +kernel⟩, List.mem_of_getElem? (i := 1560) (by decide +kernel), List.mem_of_getElem? (i := 2389) (by decide +kernel), List.mem_of_getElem? (i := 2390) (by decide +kernel)⟩
theorem lw_p150 : lw_okq (⟨"BreweryHouseModel", "mayMeet", "(II)Z"⟩, 87) := ⟨⟨by decide +kernel, by decide +kernel⟩, List.mem_of_getElem? (i := 1560) (by decide +kernel), List.mem_of_getElem? (i := 2393) (by decide +kernel), List.mem_of_getElem? (i := 2394) (by decide +kernel)⟩
theorem lw_p151 : lw_okq (⟨"BreweryHouseModel", "isValve", "(I)Z"⟩, 87) := ⟨⟨by decide +kernel, by decide +kernel⟩, List.mem_of_getElem? (i := 1560) (by decide +kernel), List.mem_of_getElem? (i := 2405) (by decide +kernel), List.mem_of_getElem? (i := 2406) (by decide +kernel)⟩
theorem lw_p152 : lw_okq (⟨"BreweryHouseModel", "isThing", "(I)Z"⟩, 87) := ⟨⟨by decide +kernel, by decide +kernel⟩, List.mem_of_getElem? (i := 1560) (by decide +kernel), List.mem_of_getElem? (i := 2409) (by decide +kernel), List.mem_of_getElem? (i := 2410) (by decide +kernel)⟩
theorem lw_p153 : lw_okq (⟨"BreweryHouseModel", "holdsLiquid", "(I)Z"⟩, 87) := ⟨⟨by decide +kernel, by decide +kernel⟩, List.mem_of_getElem? (i := 1560) (by decide +kernel), List.mem_of_getElem? (i := 2413) (by decide +kernel), List.mem_of_getElem? (i := 2414) (by decide +kernel)⟩
theorem lw_p154 : lw_okq (⟨"BreweryHouseModel", "isTank", "(I)Z"⟩, 87) := ⟨⟨by decide +kernel, by decide +kernel⟩, List.mem_of_getElem? (i := 1560) (by decide +kernel), List.mem_of_getElem? (i := 2417) (by decide +kernel), List.mem_of_getElem? (i := 2418) (by decide +kernel)⟩
theorem lw_p155 : lw_okq (⟨"BreweryHouseModel", "isPipe", "(I)Z"⟩, 87) := ⟨⟨by decide +kernel, by decide +kernel⟩, List.mem_of_getElem? (i := 1560) (by decide +kernel), List.mem_of_getElem? (i := 2421) (by decide +kernel), List.mem_of_getElem? (i := 2422) (by decide +kernel)⟩
theorem lw_p156 : lw_okq (⟨"BreweryHouseModel", "litresIn", "(I)I"⟩, 87) := ⟨⟨by decide +kernel, by decide +kernel⟩, List.mem_of_getElem? (i := 1560) (by decide +kernel), List.mem_of_getElem? (i := 2425) (by decide +kernel), List.mem_of_getElem? (i := 2426) (by decide +kernel)⟩
theorem lw_p157 : lw_okq (⟨"BreweryHouseModel", "level", "(I)I"⟩, 87) := ⟨⟨by decide +kernel, by decide +kernel⟩, List.mem_of_getElem? (i := 1560) (by decide +kernel), List.mem_of_getElem? (i := 2429) (by decide +kernel), List.mem_of_getElem? (i := 2430) (by decide +kernel)⟩
theorem lw_p158 : lw_okq (⟨"BreweryHouseModel", "mayCome", "(II)Z"⟩, 87) := ⟨⟨by decide +kernel, by decide +kernel⟩, List.mem_of_getElem? (i := 1560) (by decide +kernel), List.mem_of_getElem? (i := 2438) (by decide +kernel), List.mem_of_getElem? (i := 2439) (by decide +kernel)⟩
theorem lw_p159 : lw_okq (⟨"BreweryHouseModel", "note", "(I)V"⟩, 87) := ⟨⟨by decide +kernel, by decide +kernel⟩, List.mem_of_getElem? (i := 1560) (by decide +kernel), List.mem_of_getElem? (i := 2442) (by decide +kernel), List.mem_of_getElem? (i := 2443) (by decide +kernel)⟩
def lw_privs_10 : List (MethodName × Nat) := [(⟨"BreweryHouseModel", "liquidIn", "(I)I"⟩, 87), (⟨"BreweryHouseModel", "carry", "(II)V"⟩, 87), (⟨"BreweryHouseModel", "isSafe", "()Z"⟩, 87), (⟨"BreweryHouseModel", "isCalm", "(I)Z"⟩, 87), (⟨"BreweryHouseModel", "join", "()V"⟩, 87), (⟨"BreweryHouseModel", "flood", "(I)J"⟩, 87), (⟨"BreweryHouseModel", "mayMeet", "(II)Z"⟩, 87), (⟨"BreweryHouseModel", "isValve", "(I)Z"⟩, 87), (⟨"BreweryHouseModel", "isThing", "(I)Z"⟩, 87), (⟨"BreweryHouseModel", "holdsLiquid", "(I)Z"⟩, 87), (⟨"BreweryHouseModel", "isTank", "(I)Z"⟩, 87), (⟨"BreweryHouseModel", "isPipe", "(I)Z"⟩, 87), (⟨"BreweryHouseModel", "litresIn", "(I)I"⟩, 87), (⟨"BreweryHouseModel", "level", "(I)I"⟩, 87), (⟨"BreweryHouseModel", "mayCome", "(II)Z"⟩, 87), (⟨"BreweryHouseModel", "note", "(I)V"⟩, 87)]
theorem lw_r10 : ∀ q ∈ lw_privs_10, lw_okq q := List.forall_mem_cons.mpr ⟨lw_p144, List.forall_mem_cons.mpr ⟨lw_p145, List.forall_mem_cons.mpr ⟨lw_p146, List.forall_mem_cons.mpr ⟨lw_p147, List.forall_mem_cons.mpr ⟨lw_p148, List.forall_mem_cons.mpr ⟨lw_p149, List.forall_mem_cons.mpr ⟨lw_p150, List.forall_mem_cons.mpr ⟨lw_p151, List.forall_mem_cons.mpr ⟨lw_p152, List.forall_mem_cons.mpr ⟨lw_p153, List.forall_mem_cons.mpr ⟨lw_p154, List.forall_mem_cons.mpr ⟨lw_p155, List.forall_mem_cons.mpr ⟨lw_p156, List.forall_mem_cons.mpr ⟨lw_p157, List.forall_mem_cons.mpr ⟨lw_p158, List.forall_mem_cons.mpr ⟨lw_p159, fun _ h => absurd h List.not_mem_nil⟩⟩⟩⟩⟩⟩⟩⟩⟩⟩⟩⟩⟩⟩⟩⟩
theorem lw_p160 : lw_okq (⟨"BreweryHouseModel", "perform", "(I)I"⟩, 87) := ⟨⟨by decide +kernel, by decide +kernel⟩, List.mem_of_getElem? (i := 1560) (by decide +kernel), List.mem_of_getElem? (i := 2467) (by decide +kernel), List.mem_of_getElem? (i := 2468) (by decide +kernel)⟩
theorem lw_p161 : lw_okq (⟨"BreweryHouseModel$Rows", "isOn", "(I)Z"⟩, 25) := ⟨⟨by decide +kernel, by decide +kernel⟩, List.mem_of_getElem? (i := 1699) (by decide +kernel), List.mem_of_getElem? (i := 2475) (by decide +kernel), List.mem_of_getElem? (i := 2476) (by decide +kernel)⟩
theorem lw_p162 : lw_okq (⟨"BreweryHouseModel$Rows", "value", "(I)Z"⟩, 25) := ⟨⟨by decide +kernel, by decide +kernel⟩, List.mem_of_getElem? (i := 1699) (by decide +kernel), List.mem_of_getElem? (i := 2479) (by decide +kernel), List.mem_of_getElem? (i := 2480) (by decide +kernel)⟩
theorem lw_p163 : lw_okq (⟨"BreweryHouseModel$Rows", "hasAct", "(II)Z"⟩, 25) := ⟨⟨by decide +kernel, by decide +kernel⟩, List.mem_of_getElem? (i := 1699) (by decide +kernel), List.mem_of_getElem? (i := 2483) (by decide +kernel), List.mem_of_getElem? (i := 2484) (by decide +kernel)⟩
theorem lw_p164 : lw_okq (⟨"BreweryHouseModel", "open", "(III)I"⟩, 87) := ⟨⟨by decide +kernel, by decide +kernel⟩, List.mem_of_getElem? (i := 1560) (by decide +kernel), List.mem_of_getElem? (i := 2487) (by decide +kernel), List.mem_of_getElem? (i := 2488) (by decide +kernel)⟩
theorem lw_p165 : lw_okq (⟨"BreweryHouseModel", "openWay", "(II)I"⟩, 87) := ⟨⟨by decide +kernel, by decide +kernel⟩, List.mem_of_getElem? (i := 1560) (by decide +kernel), List.mem_of_getElem? (i := 2491) (by decide +kernel), List.mem_of_getElem? (i := 2492) (by decide +kernel)⟩
theorem lw_p166 : lw_okq (⟨"BreweryHouseModel", "find", "(II)Z"⟩, 87) := ⟨⟨by decide +kernel, by decide +kernel⟩, List.mem_of_getElem? (i := 1560) (by decide +kernel), List.mem_of_getElem? (i := 2495) (by decide +kernel), List.mem_of_getElem? (i := 2496) (by decide +kernel)⟩
theorem lw_p167 : lw_okq (⟨"BreweryHouseModel", "measure", "(I)V"⟩, 87) := ⟨⟨by decide +kernel, by decide +kernel⟩, List.mem_of_getElem? (i := 1560) (by decide +kernel), List.mem_of_getElem? (i := 2499) (by decide +kernel), List.mem_of_getElem? (i := 2500) (by decide +kernel)⟩
theorem lw_p168 : lw_okq (⟨"BreweryHouseModel", "needOf", "(II)I"⟩, 87) := ⟨⟨by decide +kernel, by decide +kernel⟩, List.mem_of_getElem? (i := 1560) (by decide +kernel), List.mem_of_getElem? (i := 2503) (by decide +kernel), List.mem_of_getElem? (i := 2504) (by decide +kernel)⟩
theorem lw_p169 : lw_okq (⟨"BreweryHouseModel", "isOnWay", "(I)Z"⟩, 87) := ⟨⟨by decide +kernel, by decide +kernel⟩, List.mem_of_getElem? (i := 1560) (by decide +kernel), List.mem_of_getElem? (i := 2510) (by decide +kernel), List.mem_of_getElem? (i := 2511) (by decide +kernel)⟩
theorem lw_p170 : lw_okq (⟨"BreweryHouseModel", "raise", "(II)V"⟩, 87) := ⟨⟨by decide +kernel, by decide +kernel⟩, List.mem_of_getElem? (i := 1560) (by decide +kernel), List.mem_of_getElem? (i := 2514) (by decide +kernel), List.mem_of_getElem? (i := 2515) (by decide +kernel)⟩
theorem lw_p171 : lw_okq (⟨"BreweryHouseModel", "isRole", "(II)Z"⟩, 87) := ⟨⟨by decide +kernel, by decide +kernel⟩, List.mem_of_getElem? (i := 1560) (by decide +kernel), List.mem_of_getElem? (i := 2522) (by decide +kernel), List.mem_of_getElem? (i := 2523) (by decide +kernel)⟩
theorem lw_p172 : lw_okq (⟨"BreweryHouseModel$Rows", "isRow", "(I)Z"⟩, 25) := ⟨⟨by decide +kernel, by decide +kernel⟩, List.mem_of_getElem? (i := 1699) (by decide +kernel), List.mem_of_getElem? (i := 2546) (by decide +kernel), List.mem_of_getElem? (i := 2547) (by decide +kernel)⟩
theorem lw_p173 : lw_okq (⟨"BreweryHouseModel$Text", "node", "(I)I"⟩, 39) := ⟨⟨by decide +kernel, by decide +kernel⟩, List.mem_of_getElem? (i := 1566) (by decide +kernel), List.mem_of_getElem? (i := 2571) (by decide +kernel), List.mem_of_getElem? (i := 2572) (by decide +kernel)⟩
theorem lw_p174 : lw_okq (⟨"BreweryHouseModel", "lay", "(I)I"⟩, 87) := ⟨⟨by decide +kernel, by decide +kernel⟩, List.mem_of_getElem? (i := 1560) (by decide +kernel), List.mem_of_getElem? (i := 2575) (by decide +kernel), List.mem_of_getElem? (i := 2576) (by decide +kernel)⟩
theorem lw_p175 : lw_okq (⟨"BreweryHouseModel$Text", "kid", "(II)I"⟩, 39) := ⟨⟨by decide +kernel, by decide +kernel⟩, List.mem_of_getElem? (i := 1566) (by decide +kernel), List.mem_of_getElem? (i := 2579) (by decide +kernel), List.mem_of_getElem? (i := 2580) (by decide +kernel)⟩
def lw_privs_11 : List (MethodName × Nat) := [(⟨"BreweryHouseModel", "perform", "(I)I"⟩, 87), (⟨"BreweryHouseModel$Rows", "isOn", "(I)Z"⟩, 25), (⟨"BreweryHouseModel$Rows", "value", "(I)Z"⟩, 25), (⟨"BreweryHouseModel$Rows", "hasAct", "(II)Z"⟩, 25), (⟨"BreweryHouseModel", "open", "(III)I"⟩, 87), (⟨"BreweryHouseModel", "openWay", "(II)I"⟩, 87), (⟨"BreweryHouseModel", "find", "(II)Z"⟩, 87), (⟨"BreweryHouseModel", "measure", "(I)V"⟩, 87), (⟨"BreweryHouseModel", "needOf", "(II)I"⟩, 87), (⟨"BreweryHouseModel", "isOnWay", "(I)Z"⟩, 87), (⟨"BreweryHouseModel", "raise", "(II)V"⟩, 87), (⟨"BreweryHouseModel", "isRole", "(II)Z"⟩, 87), (⟨"BreweryHouseModel$Rows", "isRow", "(I)Z"⟩, 25), (⟨"BreweryHouseModel$Text", "node", "(I)I"⟩, 39), (⟨"BreweryHouseModel", "lay", "(I)I"⟩, 87), (⟨"BreweryHouseModel$Text", "kid", "(II)I"⟩, 39)]
theorem lw_r11 : ∀ q ∈ lw_privs_11, lw_okq q := List.forall_mem_cons.mpr ⟨lw_p160, List.forall_mem_cons.mpr ⟨lw_p161, List.forall_mem_cons.mpr ⟨lw_p162, List.forall_mem_cons.mpr ⟨lw_p163, List.forall_mem_cons.mpr ⟨lw_p164, List.forall_mem_cons.mpr ⟨lw_p165, List.forall_mem_cons.mpr ⟨lw_p166, List.forall_mem_cons.mpr ⟨lw_p167, List.forall_mem_cons.mpr ⟨lw_p168, List.forall_mem_cons.mpr ⟨lw_p169, List.forall_mem_cons.mpr ⟨lw_p170, List.forall_mem_cons.mpr ⟨lw_p171, List.forall_mem_cons.mpr ⟨lw_p172, List.forall_mem_cons.mpr ⟨lw_p173, List.forall_mem_cons.mpr ⟨lw_p174, List.forall_mem_cons.mpr ⟨lw_p175, fun _ h => absurd h List.not_mem_nil⟩⟩⟩⟩⟩⟩⟩⟩⟩⟩⟩⟩⟩⟩⟩⟩
theorem lw_p176 : lw_okq (⟨"BreweryHouseModel", "kids", "(I)I"⟩, 87) := ⟨⟨by decide +kernel, by decide +kernel⟩, List.mem_of_getElem? (i := 1560) (by decide +kernel), List.mem_of_getElem? (i := 2584) (by decide +kernel), List.mem_of_getElem? (i := 2585) (by decide +kernel)⟩
theorem lw_p177 : lw_okq (⟨"BreweryHouseModel", "hang", "(III)I"⟩, 87) := ⟨⟨by decide +kernel, by decide +kernel⟩, List.mem_of_getElem? (i := 1560) (by decide +kernel), List.mem_of_getElem? (i := 2588) (by decide +kernel), List.mem_of_getElem? (i := 2589) (by decide +kernel)⟩
theorem lw_p178 : lw_okq (⟨"BreweryHouseModel", "senseAll", "()V"⟩, 87) := ⟨⟨by decide +kernel, by decide +kernel⟩, List.mem_of_getElem? (i := 1560) (by decide +kernel), List.mem_of_getElem? (i := 2596) (by decide +kernel), List.mem_of_getElem? (i := 2597) (by decide +kernel)⟩
theorem lw_p179 : lw_okq (⟨"BreweryHouseModel", "sensed", "(II)J"⟩, 87) := ⟨⟨by decide +kernel, by decide +kernel⟩, List.mem_of_getElem? (i := 1560) (by decide +kernel), List.mem_of_getElem? (i := 2600) (by decide +kernel), List.mem_of_getElem? (i := 2601) (by decide +kernel)⟩
theorem lw_p180 : lw_okq (⟨"BreweryHouseModel", "walk", "()V"⟩, 87) := ⟨⟨by decide +kernel, by decide +kernel⟩, List.mem_of_getElem? (i := 1560) (by decide +kernel), List.mem_of_getElem? (i := 2612) (by decide +kernel), List.mem_of_getElem? (i := 2613) (by decide +kernel)⟩
theorem lw_p181 : lw_okq (⟨"BreweryHouseModel", "limits", "(I)Z"⟩, 87) := ⟨⟨by decide +kernel, by decide +kernel⟩, List.mem_of_getElem? (i := 1560) (by decide +kernel), List.mem_of_getElem? (i := 2616) (by decide +kernel), List.mem_of_getElem? (i := 2617) (by decide +kernel)⟩
theorem lw_p182 : lw_okq (⟨"BreweryHouseModel", "kind", "(I)I"⟩, 87) := ⟨⟨by decide +kernel, by decide +kernel⟩, List.mem_of_getElem? (i := 1560) (by decide +kernel), List.mem_of_getElem? (i := 2620) (by decide +kernel), List.mem_of_getElem? (i := 2621) (by decide +kernel)⟩
theorem lw_p183 : lw_okq (⟨"BreweryHouseModel", "reckon", "(I)J"⟩, 87) := ⟨⟨by decide +kernel, by decide +kernel⟩, List.mem_of_getElem? (i := 1560) (by decide +kernel), List.mem_of_getElem? (i := 2624) (by decide +kernel), List.mem_of_getElem? (i := 2625) (by decide +kernel)⟩
theorem lw_p184 : lw_okq (⟨"BreweryHouseModel", "isBad", "()Z"⟩, 87) := ⟨⟨by decide +kernel, by decide +kernel⟩, List.mem_of_getElem? (i := 1560) (by decide +kernel), List.mem_of_getElem? (i := 2628) (by decide +kernel), List.mem_of_getElem? (i := 2629) (by decide +kernel)⟩
theorem lw_p185 : lw_okq (⟨"BreweryHouseModel", "go", "(I)I"⟩, 87) := ⟨⟨by decide +kernel, by decide +kernel⟩, List.mem_of_getElem? (i := 1560) (by decide +kernel), List.mem_of_getElem? (i := 2632) (by decide +kernel), List.mem_of_getElem? (i := 2633) (by decide +kernel)⟩
theorem lw_p186 : lw_okq (⟨"BreweryHouseModel", "begin", "(I)Z"⟩, 87) := ⟨⟨by decide +kernel, by decide +kernel⟩, List.mem_of_getElem? (i := 1560) (by decide +kernel), List.mem_of_getElem? (i := 2636) (by decide +kernel), List.mem_of_getElem? (i := 2637) (by decide +kernel)⟩
theorem lw_p187 : lw_okq (⟨"BreweryHouseModel", "goUntil", "(I)I"⟩, 87) := ⟨⟨by decide +kernel, by decide +kernel⟩, List.mem_of_getElem? (i := 1560) (by decide +kernel), List.mem_of_getElem? (i := 2640) (by decide +kernel), List.mem_of_getElem? (i := 2641) (by decide +kernel)⟩
theorem lw_p188 : lw_okq (⟨"BreweryHouseModel", "goPar", "(I)I"⟩, 87) := ⟨⟨by decide +kernel, by decide +kernel⟩, List.mem_of_getElem? (i := 1560) (by decide +kernel), List.mem_of_getElem? (i := 2644) (by decide +kernel), List.mem_of_getElem? (i := 2645) (by decide +kernel)⟩
theorem lw_p189 : lw_okq (⟨"BreweryHouseModel", "goRamp", "(I)I"⟩, 87) := ⟨⟨by decide +kernel, by decide +kernel⟩, List.mem_of_getElem? (i := 1560) (by decide +kernel), List.mem_of_getElem? (i := 2648) (by decide +kernel), List.mem_of_getElem? (i := 2649) (by decide +kernel)⟩
theorem lw_p190 : lw_okq (⟨"BreweryHouseModel", "flow", "(I)V"⟩, 87) := ⟨⟨by decide +kernel, by decide +kernel⟩, List.mem_of_getElem? (i := 1560) (by decide +kernel), List.mem_of_getElem? (i := 2652) (by decide +kernel), List.mem_of_getElem? (i := 2653) (by decide +kernel)⟩
theorem lw_p191 : lw_okq (⟨"BreweryHouseModel", "come", "(II)V"⟩, 87) := ⟨⟨by decide +kernel, by decide +kernel⟩, List.mem_of_getElem? (i := 1560) (by decide +kernel), List.mem_of_getElem? (i := 2656) (by decide +kernel), List.mem_of_getElem? (i := 2657) (by decide +kernel)⟩
def lw_privs_12 : List (MethodName × Nat) := [(⟨"BreweryHouseModel", "kids", "(I)I"⟩, 87), (⟨"BreweryHouseModel", "hang", "(III)I"⟩, 87), (⟨"BreweryHouseModel", "senseAll", "()V"⟩, 87), (⟨"BreweryHouseModel", "sensed", "(II)J"⟩, 87), (⟨"BreweryHouseModel", "walk", "()V"⟩, 87), (⟨"BreweryHouseModel", "limits", "(I)Z"⟩, 87), (⟨"BreweryHouseModel", "kind", "(I)I"⟩, 87), (⟨"BreweryHouseModel", "reckon", "(I)J"⟩, 87), (⟨"BreweryHouseModel", "isBad", "()Z"⟩, 87), (⟨"BreweryHouseModel", "go", "(I)I"⟩, 87), (⟨"BreweryHouseModel", "begin", "(I)Z"⟩, 87), (⟨"BreweryHouseModel", "goUntil", "(I)I"⟩, 87), (⟨"BreweryHouseModel", "goPar", "(I)I"⟩, 87), (⟨"BreweryHouseModel", "goRamp", "(I)I"⟩, 87), (⟨"BreweryHouseModel", "flow", "(I)V"⟩, 87), (⟨"BreweryHouseModel", "come", "(II)V"⟩, 87)]
theorem lw_r12 : ∀ q ∈ lw_privs_12, lw_okq q := List.forall_mem_cons.mpr ⟨lw_p176, List.forall_mem_cons.mpr ⟨lw_p177, List.forall_mem_cons.mpr ⟨lw_p178, List.forall_mem_cons.mpr ⟨lw_p179, List.forall_mem_cons.mpr ⟨lw_p180, List.forall_mem_cons.mpr ⟨lw_p181, List.forall_mem_cons.mpr ⟨lw_p182, List.forall_mem_cons.mpr ⟨lw_p183, List.forall_mem_cons.mpr ⟨lw_p184, List.forall_mem_cons.mpr ⟨lw_p185, List.forall_mem_cons.mpr ⟨lw_p186, List.forall_mem_cons.mpr ⟨lw_p187, List.forall_mem_cons.mpr ⟨lw_p188, List.forall_mem_cons.mpr ⟨lw_p189, List.forall_mem_cons.mpr ⟨lw_p190, List.forall_mem_cons.mpr ⟨lw_p191, fun _ h => absurd h List.not_mem_nil⟩⟩⟩⟩⟩⟩⟩⟩⟩⟩⟩⟩⟩⟩⟩⟩
theorem lw_p192 : lw_okq (⟨"BreweryHouseModel", "stillAt", "(IZ)I"⟩, 87) := ⟨⟨by decide +kernel, by decide +kernel⟩, List.mem_of_getElem? (i := 1560) (by decide +kernel), List.mem_of_getElem? (i := 2664) (by decide +kernel), List.mem_of_getElem? (i := 2665) (by decide +kernel)⟩
def lw_privs_13 : List (MethodName × Nat) := [(⟨"BreweryHouseModel", "stillAt", "(IZ)I"⟩, 87)]
theorem lw_r13 : ∀ q ∈ lw_privs_13, lw_okq q := List.forall_mem_cons.mpr ⟨lw_p192, fun _ h => absurd h List.not_mem_nil⟩
def lw_privs : List (MethodName × Nat) := lw_privs_1 ++ (lw_privs_2 ++ (lw_privs_3 ++ (lw_privs_4 ++ (lw_privs_5 ++ (lw_privs_6 ++ (lw_privs_7 ++ (lw_privs_8 ++ (lw_privs_9 ++ (lw_privs_10 ++ (lw_privs_11 ++ (lw_privs_12 ++ (lw_privs_13))))))))))))
def lw_tbl : List Cond := k2_sels lw_privs ++ tables_1
theorem lw_privs_ok : ∀ q ∈ lw_privs, lw_okq q := by
  show ∀ q ∈ lw_privs_1 ++ (lw_privs_2 ++ (lw_privs_3 ++ (lw_privs_4 ++ (lw_privs_5 ++ (lw_privs_6 ++ (lw_privs_7 ++ (lw_privs_8 ++ (lw_privs_9 ++ (lw_privs_10 ++ (lw_privs_11 ++ (lw_privs_12 ++ (lw_privs_13)))))))))))), lw_okq q
  exact List.forall_mem_append.mpr ⟨lw_r1, List.forall_mem_append.mpr ⟨lw_r2, List.forall_mem_append.mpr ⟨lw_r3, List.forall_mem_append.mpr ⟨lw_r4, List.forall_mem_append.mpr ⟨lw_r5, List.forall_mem_append.mpr ⟨lw_r6, List.forall_mem_append.mpr ⟨lw_r7, List.forall_mem_append.mpr ⟨lw_r8, List.forall_mem_append.mpr ⟨lw_r9, List.forall_mem_append.mpr ⟨lw_r10, List.forall_mem_append.mpr ⟨lw_r11, List.forall_mem_append.mpr ⟨lw_r12, lw_r13⟩⟩⟩⟩⟩⟩⟩⟩⟩⟩⟩⟩
end
section
def lw_gd : List Cond := lw_tbl.filter goodWord
theorem tb_mem {w : Cond} {i : Nat} (h : tables_1[i]? = some w) (hg : goodWord w = true) : w ∈ lw_gd := List.mem_filter.mpr ⟨List.mem_append_right _ (List.mem_of_getElem? h), hg⟩
theorem tb_places {big ws : List Cond} (ps : List Nat) (hp : ws.map some = ps.map (fun i => big[i]?)) : ∀ w ∈ ws, w ∈ big := by
  intro w hw
  have h1 : some w ∈ ws.map some := List.mem_map.mpr ⟨w, hw, rfl⟩
  rw [hp] at h1
  obtain ⟨i, -, hi⟩ := List.mem_map.mp h1
  exact List.mem_of_getElem? hi
/-- one list of words for all methods: the tables' words that last, the own code ahead -/
theorem tb_inA {a : Cond} {ws : List Cond} (h : ∀ w ∈ ws, w ∈ lw_gd) : GoodIn (a :: lw_gd) ws := by
  intro w hw
  have hm := h w hw
  exact ⟨List.mem_cons_of_mem _ hm, good_of_word (List.mem_filter.mp hm).2⟩
theorem tb_in {a b : Cond} (h : b ∈ lw_gd) : GoodIn (a :: lw_gd) (b :: lw_gd) := tb_inA (fun w hw => (List.mem_cons.mp hw).elim (fun e => by rw [e]; exact h) id)
theorem tb_lay {C : String} {T : u_T} {N : Nat} (ps : List Nat) (hp : (u_ws C T N).map some = ps.map (fun i => tables_1[i]?)) (hg : (u_ws C T N).all goodWord = true) : ∀ w ∈ u_ws C T N, w ∈ lw_gd := fun w h => List.mem_filter.mpr ⟨List.mem_append_right _ (tb_places ps hp w h), List.all_eq_true.mp hg w h⟩
def R_Bh : String := "BreweryHouse"
def F_Bh : u_T := fun k => match k with
  | 0 => ("BreweryHouse", "tape", "LBreweryHouse$Tape;", true)
  | 1 => ("BreweryHouse", "alarms", "LBreweryHouse$Alarms;", true)
  | 2 => ("BreweryHouse", "stock", "LBreweryHouse$Stock;", true)
  | 3 => ("BreweryHouse", "ways", "LBreweryHouse$Ways;", true)
  | 4 => ("BreweryHouse", "safety", "LBreweryHouse$Safety;", true)
  | 5 => ("BreweryHouse", "acts", "LBreweryHouse$Acts;", true)
  | 6 => ("BreweryHouse", "run", "LBreweryHouse$Run;", true)
  | 7 => ("BreweryHouse", "reader", "LBreweryHouse$ProgramReader;", true)
  | 8 => ("BreweryHouse", "sparePlant", "LBreweryHouse$Plant;", false)
  | 9 => ("BreweryHouse", "spareRows", "LBreweryHouse$Rows;", false)
  | 10 => ("BreweryHouse", "spareProgram", "LBreweryHouse$Program;", false)
  | 11 => ("BreweryHouse", "plantText", "[B", true)
  | 12 => ("BreweryHouse", "plantTextLength", "I", false)
  | 13 => ("BreweryHouse", "watchWhat", "[I", true)
  | 14 => ("BreweryHouse", "watchX", "[I", true)
  | _ => ("BreweryHouse", "watchLeast", "[J", true)
def t_Bh : Nat → FieldType := fun k => match k with
  | 0 => (.object "BreweryHouse$Tape")
  | 1 => (.object "BreweryHouse$Alarms")
  | 2 => (.object "BreweryHouse$Stock")
  | 3 => (.object "BreweryHouse$Ways")
  | 4 => (.object "BreweryHouse$Safety")
  | 5 => (.object "BreweryHouse$Acts")
  | 6 => (.object "BreweryHouse$Run")
  | 7 => (.object "BreweryHouse$ProgramReader")
  | 8 => (.object "BreweryHouse$Plant")
  | 9 => (.object "BreweryHouse$Rows")
  | 10 => (.object "BreweryHouse$Program")
  | 11 => (.array .byte)
  | 12 => .int
  | 13 => (.array .int)
  | 14 => (.array .int)
  | _ => (.array .long)
theorem n_Bh : ∀ a, a < 16 → ∀ b, b < 16 → a ≠ b → (F_Bh a).2.1 ≠ (F_Bh b).2.1 := by decide +kernel
theorem t_Bh_ok : ∀ k, k < 16 → parseFieldDescriptor (F_Bh k).2.2.1 = some (t_Bh k) := by decide +kernel
theorem in_Bh : ∀ w ∈ u_ws R_Bh F_Bh 16, w ∈ lw_gd := tb_lay [700, 702, 704, 706, 708, 710, 712, 714, 716, 718, 720, 722, 724, 726, 728, 730] (by decide +kernel) (by decide +kernel)
def R_Tp : String := "BreweryHouse$Tape"
def F_Tp : u_T := fun k => match k with
  | 0 => ("BreweryHouse$Tape", "cells", "[I", true)
  | 1 => ("BreweryHouse$Tape", "length", "I", false)
  | _ => ("BreweryHouse$Tape", "end", "I", false)
def t_Tp : Nat → FieldType := fun k => match k with
  | 0 => (.array .int)
  | 1 => .int
  | _ => .int
theorem n_Tp : ∀ a, a < 3 → ∀ b, b < 3 → a ≠ b → (F_Tp a).2.1 ≠ (F_Tp b).2.1 := by decide +kernel
theorem t_Tp_ok : ∀ k, k < 3 → parseFieldDescriptor (F_Tp k).2.2.1 = some (t_Tp k) := by decide +kernel
theorem in_Tp : ∀ w ∈ u_ws R_Tp F_Tp 3, w ∈ lw_gd := tb_lay [46, 48, 50] (by decide +kernel) (by decide +kernel)
def R_Al : String := "BreweryHouse$Alarms"
def F_Al : u_T := fun k => match k with
  | 0 => ("BreweryHouse$Alarms", "count", "I", false)
  | 1 => ("BreweryHouse$Alarms", "seconds", "[I", true)
  | 2 => ("BreweryHouse$Alarms", "nodes", "[I", true)
  | _ => ("BreweryHouse$Alarms", "kinds", "[I", true)
def t_Al : Nat → FieldType := fun k => match k with
  | 0 => .int
  | 1 => (.array .int)
  | 2 => (.array .int)
  | _ => (.array .int)
theorem n_Al : ∀ a, a < 4 → ∀ b, b < 4 → a ≠ b → (F_Al a).2.1 ≠ (F_Al b).2.1 := by decide +kernel
theorem t_Al_ok : ∀ k, k < 4 → parseFieldDescriptor (F_Al k).2.2.1 = some (t_Al k) := by decide +kernel
theorem in_Al : ∀ w ∈ u_ws R_Al F_Al 4, w ∈ lw_gd := tb_lay [65, 67, 69, 71] (by decide +kernel) (by decide +kernel)
def R_Pl : String := "BreweryHouse$Plant"
def F_Pl : u_T := fun k => match k with
  | 0 => ("BreweryHouse$Plant", "things", "I", false)
  | 1 => ("BreweryHouse$Plant", "pipes", "I", false)
  | 2 => ("BreweryHouse$Plant", "kind", "[I", true)
  | 3 => ("BreweryHouse$Plant", "room", "[I", true)
  | 4 => ("BreweryHouse$Plant", "ports", "[I", true)
  | 5 => ("BreweryHouse$Plant", "pipeRoom", "[I", true)
  | 6 => ("BreweryHouse$Plant", "endThing", "[I", true)
  | 7 => ("BreweryHouse$Plant", "endPort", "[I", true)
  | 8 => ("BreweryHouse$Plant", "portEnd", "[I", true)
  | 9 => ("BreweryHouse$Plant", "tape", "LBreweryHouse$Tape;", false)
  | 10 => ("BreweryHouse$Plant", "at", "I", false)
  | _ => ("BreweryHouse$Plant", "number", "I", false)
def t_Pl : Nat → FieldType := fun k => match k with
  | 0 => .int
  | 1 => .int
  | 2 => (.array .int)
  | 3 => (.array .int)
  | 4 => (.array .int)
  | 5 => (.array .int)
  | 6 => (.array .int)
  | 7 => (.array .int)
  | 8 => (.array .int)
  | 9 => (.object "BreweryHouse$Tape")
  | 10 => .int
  | _ => .int
theorem n_Pl : ∀ a, a < 12 → ∀ b, b < 12 → a ≠ b → (F_Pl a).2.1 ≠ (F_Pl b).2.1 := by decide +kernel
theorem t_Pl_ok : ∀ k, k < 12 → parseFieldDescriptor (F_Pl k).2.2.1 = some (t_Pl k) := by decide +kernel
theorem in_Pl : ∀ w ∈ u_ws R_Pl F_Pl 12, w ∈ lw_gd := tb_lay [120, 122, 124, 126, 128, 130, 132, 134, 136, 138, 140, 142] (by decide +kernel) (by decide +kernel)
def R_St : String := "BreweryHouse$Stock"
def F_St : u_T := fun k => match k with
  | 0 => ("BreweryHouse$Stock", "plant", "LBreweryHouse$Plant;", false)
  | 1 => ("BreweryHouse$Stock", "now", "I", false)
  | 2 => ("BreweryHouse$Stock", "position", "[I", true)
  | 3 => ("BreweryHouse$Stock", "liquid", "[I", true)
  | 4 => ("BreweryHouse$Stock", "amount", "[I", true)
  | 5 => ("BreweryHouse$Stock", "last", "[I", true)
  | 6 => ("BreweryHouse$Stock", "cleaned", "[I", true)
  | 7 => ("BreweryHouse$Stock", "litres", "[J", true)
  | 8 => ("BreweryHouse$Stock", "start", "[I", true)
  | 9 => ("BreweryHouse$Stock", "meeting", "[I", true)
  | 10 => ("BreweryHouse$Stock", "needed", "[I", true)
  | _ => ("BreweryHouse$Stock", "lasting", "[I", true)
def t_St : Nat → FieldType := fun k => match k with
  | 0 => (.object "BreweryHouse$Plant")
  | 1 => .int
  | 2 => (.array .int)
  | 3 => (.array .int)
  | 4 => (.array .int)
  | 5 => (.array .int)
  | 6 => (.array .int)
  | 7 => (.array .long)
  | 8 => (.array .int)
  | 9 => (.array .int)
  | 10 => (.array .int)
  | _ => (.array .int)
theorem n_St : ∀ a, a < 12 → ∀ b, b < 12 → a ≠ b → (F_St a).2.1 ≠ (F_St b).2.1 := by decide +kernel
theorem t_St_ok : ∀ k, k < 12 → parseFieldDescriptor (F_St k).2.2.1 = some (t_St k) := by decide +kernel
theorem in_St : ∀ w ∈ u_ws R_St F_St 12, w ∈ lw_gd := tb_lay [183, 185, 187, 189, 191, 193, 195, 197, 199, 201, 203, 205] (by decide +kernel) (by decide +kernel)
def R_Wa : String := "BreweryHouse$Ways"
def F_Wa : u_T := fun k => match k with
  | 0 => ("BreweryHouse$Ways", "stock", "LBreweryHouse$Stock;", true)
  | 1 => ("BreweryHouse$Ways", "count", "I", false)
  | 2 => ("BreweryHouse$Ways", "from", "[I", true)
  | 3 => ("BreweryHouse$Ways", "to", "[I", true)
  | 4 => ("BreweryHouse$Ways", "rate", "[I", true)
  | 5 => ("BreweryHouse$Ways", "carried", "[I", true)
  | 6 => ("BreweryHouse$Ways", "length", "[I", true)
  | 7 => ("BreweryHouse$Ways", "firstPipe", "[I", true)
  | 8 => ("BreweryHouse$Ways", "lastPipe", "[I", true)
  | 9 => ("BreweryHouse$Ways", "exit", "[I", true)
  | 10 => ("BreweryHouse$Ways", "nextPipe", "[I", true)
  | 11 => ("BreweryHouse$Ways", "taken", "[Z", true)
  | 12 => ("BreweryHouse$Ways", "over", "[I", true)
  | 13 => ("BreweryHouse$Ways", "leg", "[I", true)
  | 14 => ("BreweryHouse$Ways", "path", "[I", true)
  | 15 => ("BreweryHouse$Ways", "pathLength", "I", false)
  | 16 => ("BreweryHouse$Ways", "before", "[I", true)
  | _ => ("BreweryHouse$Ways", "needed", "[I", true)
def t_Wa : Nat → FieldType := fun k => match k with
  | 0 => (.object "BreweryHouse$Stock")
  | 1 => .int
  | 2 => (.array .int)
  | 3 => (.array .int)
  | 4 => (.array .int)
  | 5 => (.array .int)
  | 6 => (.array .int)
  | 7 => (.array .int)
  | 8 => (.array .int)
  | 9 => (.array .int)
  | 10 => (.array .int)
  | 11 => (.array .boolean)
  | 12 => (.array .int)
  | 13 => (.array .int)
  | 14 => (.array .int)
  | 15 => .int
  | 16 => (.array .int)
  | _ => (.array .int)
theorem n_Wa : ∀ a, a < 18 → ∀ b, b < 18 → a ≠ b → (F_Wa a).2.1 ≠ (F_Wa b).2.1 := by decide +kernel
theorem t_Wa_ok : ∀ k, k < 18 → parseFieldDescriptor (F_Wa k).2.2.1 = some (t_Wa k) := by decide +kernel
theorem in_Wa : ∀ w ∈ u_ws R_Wa F_Wa 18, w ∈ lw_gd := tb_lay [238, 240, 242, 244, 246, 248, 250, 252, 254, 256, 258, 260, 262, 264, 266, 268, 270, 272] (by decide +kernel) (by decide +kernel)
def R_Sf : String := "BreweryHouse$Safety"
def F_Sf : u_T := fun k => match k with
  | 0 => ("BreweryHouse$Safety", "stock", "LBreweryHouse$Stock;", true)
  | 1 => ("BreweryHouse$Safety", "ways", "LBreweryHouse$Ways;", true)
  | 2 => ("BreweryHouse$Safety", "sources", "[J", true)
  | 3 => ("BreweryHouse$Safety", "rivals", "[I", true)
  | 4 => ("BreweryHouse$Safety", "flooded", "[J", true)
  | 5 => ("BreweryHouse$Safety", "reach", "[J", true)
  | 6 => ("BreweryHouse$Safety", "failure", "I", false)
  | 7 => ("BreweryHouse$Safety", "where", "I", false)
  | 8 => ("BreweryHouse$Safety", "firstLiquid", "I", false)
  | _ => ("BreweryHouse$Safety", "secondLiquid", "I", false)
def t_Sf : Nat → FieldType := fun k => match k with
  | 0 => (.object "BreweryHouse$Stock")
  | 1 => (.object "BreweryHouse$Ways")
  | 2 => (.array .long)
  | 3 => (.array .int)
  | 4 => (.array .long)
  | 5 => (.array .long)
  | 6 => .int
  | 7 => .int
  | 8 => .int
  | _ => .int
theorem n_Sf : ∀ a, a < 10 → ∀ b, b < 10 → a ≠ b → (F_Sf a).2.1 ≠ (F_Sf b).2.1 := by decide +kernel
theorem t_Sf_ok : ∀ k, k < 10 → parseFieldDescriptor (F_Sf k).2.2.1 = some (t_Sf k) := by decide +kernel
theorem in_Sf : ∀ w ∈ u_ws R_Sf F_Sf 10, w ∈ lw_gd := tb_lay [296, 298, 300, 302, 304, 306, 308, 310, 312, 314] (by decide +kernel) (by decide +kernel)
def R_Ro : String := "BreweryHouse$Rows"
def F_Ro : u_T := fun k => match k with
  | 0 => ("BreweryHouse$Rows", "count", "I", false)
  | 1 => ("BreweryHouse$Rows", "conditions", "I", false)
  | 2 => ("BreweryHouse$Rows", "counts", "[I", true)
  | 3 => ("BreweryHouse$Rows", "latched", "[Z", true)
  | 4 => ("BreweryHouse$Rows", "passed", "[I", true)
  | 5 => ("BreweryHouse$Rows", "barred", "[I", true)
  | 6 => ("BreweryHouse$Rows", "least", "[I", true)
  | 7 => ("BreweryHouse$Rows", "latching", "[Z", true)
  | 8 => ("BreweryHouse$Rows", "start", "[I", true)
  | 9 => ("BreweryHouse$Rows", "codes", "[I", true)
  | 10 => ("BreweryHouse$Rows", "used", "I", false)
  | 11 => ("BreweryHouse$Rows", "tape", "LBreweryHouse$Tape;", false)
  | 12 => ("BreweryHouse$Rows", "wordAt", "I", false)
  | 13 => ("BreweryHouse$Rows", "wordEnd", "I", false)
  | 14 => ("BreweryHouse$Rows", "word", "I", false)
  | 15 => ("BreweryHouse$Rows", "open", "I", false)
  | 16 => ("BreweryHouse$Rows", "told", "I", false)
  | _ => ("BreweryHouse$Rows", "wrong", "I", false)
def t_Ro : Nat → FieldType := fun k => match k with
  | 0 => .int
  | 1 => .int
  | 2 => (.array .int)
  | 3 => (.array .boolean)
  | 4 => (.array .int)
  | 5 => (.array .int)
  | 6 => (.array .int)
  | 7 => (.array .boolean)
  | 8 => (.array .int)
  | 9 => (.array .int)
  | 10 => .int
  | 11 => (.object "BreweryHouse$Tape")
  | 12 => .int
  | 13 => .int
  | 14 => .int
  | 15 => .int
  | 16 => .int
  | _ => .int
theorem n_Ro : ∀ a, a < 18 → ∀ b, b < 18 → a ≠ b → (F_Ro a).2.1 ≠ (F_Ro b).2.1 := by decide +kernel
theorem t_Ro_ok : ∀ k, k < 18 → parseFieldDescriptor (F_Ro k).2.2.1 = some (t_Ro k) := by decide +kernel
theorem in_Ro : ∀ w ∈ u_ws R_Ro F_Ro 18, w ∈ lw_gd := tb_lay [352, 354, 356, 358, 360, 362, 364, 366, 368, 370, 372, 374, 376, 378, 380, 382, 384, 386] (by decide +kernel) (by decide +kernel)
def R_Pr : String := "BreweryHouse$Program"
def F_Pr : u_T := fun k => match k with
  | 0 => ("BreweryHouse$Program", "statements", "I", false)
  | 1 => ("BreweryHouse$Program", "nodes", "I", false)
  | 2 => ("BreweryHouse$Program", "opening", "I", false)
  | 3 => ("BreweryHouse$Program", "kind", "[I", true)
  | 4 => ("BreweryHouse$Program", "arg", "[I", true)
  | 5 => ("BreweryHouse$Program", "from", "[I", true)
  | 6 => ("BreweryHouse$Program", "to", "[I", true)
  | 7 => ("BreweryHouse$Program", "first", "[I", true)
  | 8 => ("BreweryHouse$Program", "next", "[I", true)
  | 9 => ("BreweryHouse$Program", "number", "[J", true)
  | 10 => ("BreweryHouse$Program", "names", "I", false)
  | 11 => ("BreweryHouse$Program", "nameCode", "[J", true)
  | 12 => ("BreweryHouse$Program", "nameKind", "[I", true)
  | 13 => ("BreweryHouse$Program", "nameUnit", "[I", true)
  | 14 => ("BreweryHouse$Program", "nameBlock", "[I", true)
  | 15 => ("BreweryHouse$Program", "worth", "[J", true)
  | 16 => ("BreweryHouse$Program", "senseWhat", "[I", true)
  | _ => ("BreweryHouse$Program", "senseX", "[I", true)
def t_Pr : Nat → FieldType := fun k => match k with
  | 0 => .int
  | 1 => .int
  | 2 => .int
  | 3 => (.array .int)
  | 4 => (.array .int)
  | 5 => (.array .int)
  | 6 => (.array .int)
  | 7 => (.array .int)
  | 8 => (.array .int)
  | 9 => (.array .long)
  | 10 => .int
  | 11 => (.array .long)
  | 12 => (.array .int)
  | 13 => (.array .int)
  | 14 => (.array .int)
  | 15 => (.array .long)
  | 16 => (.array .int)
  | _ => (.array .int)
theorem n_Pr : ∀ a, a < 18 → ∀ b, b < 18 → a ≠ b → (F_Pr a).2.1 ≠ (F_Pr b).2.1 := by decide +kernel
theorem t_Pr_ok : ∀ k, k < 18 → parseFieldDescriptor (F_Pr k).2.2.1 = some (t_Pr k) := by decide +kernel
theorem in_Pr : ∀ w ∈ u_ws R_Pr F_Pr 18, w ∈ lw_gd := tb_lay [474, 476, 478, 480, 482, 484, 486, 488, 490, 492, 494, 496, 498, 500, 502, 504, 506, 508] (by decide +kernel) (by decide +kernel)
def R_Rd : String := "BreweryHouse$ProgramReader"
def F_Rd : u_T := fun k => match k with
  | 0 => ("BreweryHouse$ProgramReader", "tape", "LBreweryHouse$Tape;", false)
  | 1 => ("BreweryHouse$ProgramReader", "program", "LBreweryHouse$Program;", false)
  | 2 => ("BreweryHouse$ProgramReader", "at", "I", false)
  | 3 => ("BreweryHouse$ProgramReader", "word", "I", false)
  | 4 => ("BreweryHouse$ProgramReader", "place", "I", false)
  | 5 => ("BreweryHouse$ProgramReader", "code", "J", false)
  | 6 => ("BreweryHouse$ProgramReader", "number", "J", false)
  | 7 => ("BreweryHouse$ProgramReader", "pointed", "Z", false)
  | 8 => ("BreweryHouse$ProgramReader", "open", "I", false)
  | 9 => ("BreweryHouse$ProgramReader", "wrong", "I", false)
  | 10 => ("BreweryHouse$ProgramReader", "size", "[I", true)
  | 11 => ("BreweryHouse$ProgramReader", "deep", "[I", true)
  | _ => ("BreweryHouse$ProgramReader", "keywordCode", "[J", true)
def t_Rd : Nat → FieldType := fun k => match k with
  | 0 => (.object "BreweryHouse$Tape")
  | 1 => (.object "BreweryHouse$Program")
  | 2 => .int
  | 3 => .int
  | 4 => .int
  | 5 => .long
  | 6 => .long
  | 7 => .boolean
  | 8 => .int
  | 9 => .int
  | 10 => (.array .int)
  | 11 => (.array .int)
  | _ => (.array .long)
theorem n_Rd : ∀ a, a < 13 → ∀ b, b < 13 → a ≠ b → (F_Rd a).2.1 ≠ (F_Rd b).2.1 := by decide +kernel
theorem t_Rd_ok : ∀ k, k < 13 → parseFieldDescriptor (F_Rd k).2.2.1 = some (t_Rd k) := by decide +kernel
theorem in_Rd : ∀ w ∈ u_ws R_Rd F_Rd 13, w ∈ lw_gd := tb_lay [649, 651, 653, 655, 657, 659, 661, 663, 665, 667, 669, 671, 673] (by decide +kernel) (by decide +kernel)
def R_Ru : String := "BreweryHouse$Run"
def F_Ru : u_T := fun k => match k with
  | 0 => ("BreweryHouse$Run", "acts", "LBreweryHouse$Acts;", true)
  | 1 => ("BreweryHouse$Run", "alarms", "LBreweryHouse$Alarms;", true)
  | 2 => ("BreweryHouse$Run", "stock", "LBreweryHouse$Stock;", true)
  | 3 => ("BreweryHouse$Run", "program", "LBreweryHouse$Program;", false)
  | 4 => ("BreweryHouse$Run", "state", "I", false)
  | 5 => ("BreweryHouse$Run", "parts", "I", false)
  | 6 => ("BreweryHouse$Run", "node", "[I", true)
  | 7 => ("BreweryHouse$Run", "first", "[I", true)
  | 8 => ("BreweryHouse$Run", "next", "[I", true)
  | 9 => ("BreweryHouse$Run", "stage", "[I", true)
  | 10 => ("BreweryHouse$Run", "current", "[I", true)
  | 11 => ("BreweryHouse$Run", "count", "[J", true)
  | 12 => ("BreweryHouse$Run", "length", "[J", true)
  | 13 => ("BreweryHouse$Run", "base", "[J", true)
  | 14 => ("BreweryHouse$Run", "goal", "[J", true)
  | 15 => ("BreweryHouse$Run", "skipped", "I", false)
  | 16 => ("BreweryHouse$Run", "stack", "[J", true)
  | 17 => ("BreweryHouse$Run", "over", "Z", false)
  | 18 => ("BreweryHouse$Run", "holding", "Z", false)
  | 19 => ("BreweryHouse$Run", "begun", "I", false)
  | _ => ("BreweryHouse$Run", "actsBegun", "I", false)
def t_Ru : Nat → FieldType := fun k => match k with
  | 0 => (.object "BreweryHouse$Acts")
  | 1 => (.object "BreweryHouse$Alarms")
  | 2 => (.object "BreweryHouse$Stock")
  | 3 => (.object "BreweryHouse$Program")
  | 4 => .int
  | 5 => .int
  | 6 => (.array .int)
  | 7 => (.array .int)
  | 8 => (.array .int)
  | 9 => (.array .int)
  | 10 => (.array .int)
  | 11 => (.array .long)
  | 12 => (.array .long)
  | 13 => (.array .long)
  | 14 => (.array .long)
  | 15 => .int
  | 16 => (.array .long)
  | 17 => .boolean
  | 18 => .boolean
  | 19 => .int
  | _ => .int
theorem n_Ru : ∀ a, a < 21 → ∀ b, b < 21 → a ≠ b → (F_Ru a).2.1 ≠ (F_Ru b).2.1 := by decide +kernel
theorem t_Ru_ok : ∀ k, k < 21 → parseFieldDescriptor (F_Ru k).2.2.1 = some (t_Ru k) := by decide +kernel
theorem in_Ru : ∀ w ∈ u_ws R_Ru F_Ru 21, w ∈ lw_gd := tb_lay [534, 536, 538, 540, 542, 544, 546, 548, 550, 552, 554, 556, 558, 560, 562, 564, 566, 568, 570, 572, 574] (by decide +kernel) (by decide +kernel)
def R_Ac : String := "BreweryHouse$Acts"
def F_Ac : u_T := fun k => match k with
  | 0 => ("BreweryHouse$Acts", "stock", "LBreweryHouse$Stock;", true)
  | 1 => ("BreweryHouse$Acts", "ways", "LBreweryHouse$Ways;", true)
  | 2 => ("BreweryHouse$Acts", "safety", "LBreweryHouse$Safety;", true)
  | 3 => ("BreweryHouse$Acts", "rows", "LBreweryHouse$Rows;", false)
  | 4 => ("BreweryHouse$Acts", "what", "[I", true)
  | 5 => ("BreweryHouse$Acts", "x", "[I", true)
  | 6 => ("BreweryHouse$Acts", "y", "[I", true)
  | _ => ("BreweryHouse$Acts", "z", "[I", true)
def t_Ac : Nat → FieldType := fun k => match k with
  | 0 => (.object "BreweryHouse$Stock")
  | 1 => (.object "BreweryHouse$Ways")
  | 2 => (.object "BreweryHouse$Safety")
  | 3 => (.object "BreweryHouse$Rows")
  | 4 => (.array .int)
  | 5 => (.array .int)
  | 6 => (.array .int)
  | _ => (.array .int)
theorem n_Ac : ∀ a, a < 8 → ∀ b, b < 8 → a ≠ b → (F_Ac a).2.1 ≠ (F_Ac b).2.1 := by decide +kernel
theorem t_Ac_ok : ∀ k, k < 8 → parseFieldDescriptor (F_Ac k).2.2.1 = some (t_Ac k) := by decide +kernel
theorem in_Ac : ∀ w ∈ u_ws R_Ac F_Ac 8, w ∈ lw_gd := tb_lay [399, 401, 403, 405, 407, 409, 411, 413] (by decide +kernel) (by decide +kernel)
def R_Mo : String := "BreweryHouseModel"
def F_Mo : u_T := fun k => match k with
  | 0 => ("BreweryHouseModel", "tape", "[B", true)
  | 1 => ("BreweryHouseModel", "taped", "I", false)
  | 2 => ("BreweryHouseModel", "program", "LBreweryHouseModel$Text;", true)
  | 3 => ("BreweryHouseModel", "interlocks", "LBreweryHouseModel$Rows;", true)
  | 4 => ("BreweryHouseModel", "things", "I", false)
  | 5 => ("BreweryHouseModel", "kinds", "[I", true)
  | 6 => ("BreweryHouseModel", "rooms", "[I", true)
  | 7 => ("BreweryHouseModel", "litres", "[I", true)
  | 8 => ("BreweryHouseModel", "liquids", "[I", true)
  | 9 => ("BreweryHouseModel", "positions", "[I", true)
  | 10 => ("BreweryHouseModel", "taken", "[I", true)
  | 11 => ("BreweryHouseModel", "pipes", "I", false)
  | 12 => ("BreweryHouseModel", "sizes", "[I", true)
  | 13 => ("BreweryHouseModel", "at", "[I", true)
  | 14 => ("BreweryHouseModel", "ports", "[I", true)
  | 15 => ("BreweryHouseModel", "contents", "[B", true)
  | 16 => ("BreweryHouseModel", "lasts", "[I", true)
  | 17 => ("BreweryHouseModel", "cleaned", "[I", true)
  | 18 => ("BreweryHouseModel", "meet", "[Z", true)
  | 19 => ("BreweryHouseModel", "needs", "[I", true)
  | 20 => ("BreweryHouseModel", "lasting", "[I", true)
  | 21 => ("BreweryHouseModel", "place", "I", false)
  | 22 => ("BreweryHouseModel", "limit", "I", false)
  | 23 => ("BreweryHouseModel", "words", "[I", true)
  | 24 => ("BreweryHouseModel", "newKinds", "[I", true)
  | 25 => ("BreweryHouseModel", "newTaken", "[I", true)
  | 26 => ("BreweryHouseModel", "ways", "I", false)
  | 27 => ("BreweryHouseModel", "froms", "[I", true)
  | 28 => ("BreweryHouseModel", "tos", "[I", true)
  | 29 => ("BreweryHouseModel", "carried", "[I", true)
  | 30 => ("BreweryHouseModel", "rates", "[I", true)
  | 31 => ("BreweryHouseModel", "lengths", "[I", true)
  | 32 => ("BreweryHouseModel", "entries", "[I", true)
  | 33 => ("BreweryHouseModel", "heldAt", "[I", true)
  | 34 => ("BreweryHouseModel", "leftLitres", "[I", true)
  | 35 => ("BreweryHouseModel", "leftPipes", "[I", true)
  | 36 => ("BreweryHouseModel", "before", "[I", true)
  | 37 => ("BreweryHouseModel", "best", "[I", true)
  | 38 => ("BreweryHouseModel", "bestWanted", "[I", true)
  | 39 => ("BreweryHouseModel", "bestCount", "I", false)
  | 40 => ("BreweryHouseModel", "busy", "J", false)
  | 41 => ("BreweryHouseModel", "line", "[B", true)
  | 42 => ("BreweryHouseModel", "inside", "[I", true)
  | 43 => ("BreweryHouseModel", "next", "[J", true)
  | 44 => ("BreweryHouseModel", "floods", "[J", true)
  | 45 => ("BreweryHouseModel", "dangerFailure", "I", false)
  | 46 => ("BreweryHouseModel", "dangerSpace", "I", false)
  | 47 => ("BreweryHouseModel", "dangerFirst", "I", false)
  | 48 => ("BreweryHouseModel", "dangerSecond", "I", false)
  | 49 => ("BreweryHouseModel", "does", "[I", true)
  | 50 => ("BreweryHouseModel", "xs", "[I", true)
  | 51 => ("BreweryHouseModel", "ys", "[I", true)
  | 52 => ("BreweryHouseModel", "zs", "[I", true)
  | 53 => ("BreweryHouseModel", "senseWhat", "[I", true)
  | 54 => ("BreweryHouseModel", "senseOf", "[I", true)
  | 55 => ("BreweryHouseModel", "watchWhat", "[I", true)
  | 56 => ("BreweryHouseModel", "watchOf", "[I", true)
  | 57 => ("BreweryHouseModel", "watchLeast", "[J", true)
  | 58 => ("BreweryHouseModel", "values", "[J", true)
  | 59 => ("BreweryHouseModel", "state", "I", false)
  | 60 => ("BreweryHouseModel", "places", "I", false)
  | 61 => ("BreweryHouseModel", "of", "[I", true)
  | 62 => ("BreweryHouseModel", "firstKid", "[I", true)
  | 63 => ("BreweryHouseModel", "nextKid", "[I", true)
  | 64 => ("BreweryHouseModel", "begun", "[Z", true)
  | 65 => ("BreweryHouseModel", "done", "[Z", true)
  | 66 => ("BreweryHouseModel", "over", "[Z", true)
  | 67 => ("BreweryHouseModel", "current", "[I", true)
  | 68 => ("BreweryHouseModel", "since", "[I", true)
  | 69 => ("BreweryHouseModel", "many", "[J", true)
  | 70 => ("BreweryHouseModel", "goals", "[J", true)
  | 71 => ("BreweryHouseModel", "starts", "[J", true)
  | 72 => ("BreweryHouseModel", "begins", "I", false)
  | 73 => ("BreweryHouseModel", "actsBegun", "I", false)
  | 74 => ("BreweryHouseModel", "walked", "I", false)
  | 75 => ("BreweryHouseModel", "asksHold", "Z", false)
  | 76 => ("BreweryHouseModel", "bad", "I", false)
  | 77 => ("BreweryHouseModel", "left", "I", false)
  | 78 => ("BreweryHouseModel", "now", "I", false)
  | 79 => ("BreweryHouseModel", "alarms", "I", false)
  | 80 => ("BreweryHouseModel", "alarmSeconds", "[I", true)
  | 81 => ("BreweryHouseModel", "alarmNodes", "[I", true)
  | 82 => ("BreweryHouseModel", "alarmKinds", "[I", true)
  | 83 => ("BreweryHouseModel", "wish", "I", false)
  | 84 => ("BreweryHouseModel", "found", "I", false)
  | 85 => ("BreweryHouseModel", "newThings", "I", false)
  | _ => ("BreweryHouseModel", "newPipes", "I", false)
def t_Mo : Nat → FieldType := fun k => match k with
  | 0 => (.array .byte)
  | 1 => .int
  | 2 => (.object "BreweryHouseModel$Text")
  | 3 => (.object "BreweryHouseModel$Rows")
  | 4 => .int
  | 5 => (.array .int)
  | 6 => (.array .int)
  | 7 => (.array .int)
  | 8 => (.array .int)
  | 9 => (.array .int)
  | 10 => (.array .int)
  | 11 => .int
  | 12 => (.array .int)
  | 13 => (.array .int)
  | 14 => (.array .int)
  | 15 => (.array .byte)
  | 16 => (.array .int)
  | 17 => (.array .int)
  | 18 => (.array .boolean)
  | 19 => (.array .int)
  | 20 => (.array .int)
  | 21 => .int
  | 22 => .int
  | 23 => (.array .int)
  | 24 => (.array .int)
  | 25 => (.array .int)
  | 26 => .int
  | 27 => (.array .int)
  | 28 => (.array .int)
  | 29 => (.array .int)
  | 30 => (.array .int)
  | 31 => (.array .int)
  | 32 => (.array .int)
  | 33 => (.array .int)
  | 34 => (.array .int)
  | 35 => (.array .int)
  | 36 => (.array .int)
  | 37 => (.array .int)
  | 38 => (.array .int)
  | 39 => .int
  | 40 => .long
  | 41 => (.array .byte)
  | 42 => (.array .int)
  | 43 => (.array .long)
  | 44 => (.array .long)
  | 45 => .int
  | 46 => .int
  | 47 => .int
  | 48 => .int
  | 49 => (.array .int)
  | 50 => (.array .int)
  | 51 => (.array .int)
  | 52 => (.array .int)
  | 53 => (.array .int)
  | 54 => (.array .int)
  | 55 => (.array .int)
  | 56 => (.array .int)
  | 57 => (.array .long)
  | 58 => (.array .long)
  | 59 => .int
  | 60 => .int
  | 61 => (.array .int)
  | 62 => (.array .int)
  | 63 => (.array .int)
  | 64 => (.array .boolean)
  | 65 => (.array .boolean)
  | 66 => (.array .boolean)
  | 67 => (.array .int)
  | 68 => (.array .int)
  | 69 => (.array .long)
  | 70 => (.array .long)
  | 71 => (.array .long)
  | 72 => .int
  | 73 => .int
  | 74 => .int
  | 75 => .boolean
  | 76 => .int
  | 77 => .int
  | 78 => .int
  | 79 => .int
  | 80 => (.array .int)
  | 81 => (.array .int)
  | 82 => (.array .int)
  | 83 => .int
  | 84 => .int
  | 85 => .int
  | _ => .int
theorem n_Mo : ∀ a, a < 87 → ∀ b, b < 87 → a ≠ b → (F_Mo a).2.1 ≠ (F_Mo b).2.1 := by decide +kernel
theorem t_Mo_ok : ∀ k, k < 87 → parseFieldDescriptor (F_Mo k).2.2.1 = some (t_Mo k) := by decide +kernel
theorem in_Mo : ∀ w ∈ u_ws R_Mo F_Mo 87, w ∈ lw_gd := tb_lay [1873, 1875, 1877, 1879, 1881, 1883, 1885, 1887, 1889, 1891, 1893, 1895, 1897, 1899, 1901, 1903, 1905, 1907, 1909, 1911, 1913, 1915, 1917, 1919, 1921, 1923, 1925, 1927, 1929, 1931, 1933, 1935, 1937, 1939, 1941, 1943, 1945, 1947, 1949, 1951, 1953, 1955, 1957, 1959, 1961, 1963, 1965, 1967, 1969, 1971, 1973, 1975, 1977, 1979, 1981, 1983, 1985, 1987, 1989, 1991, 1993, 1995, 1997, 1999, 2001, 2003, 2005, 2007, 2009, 2011, 2013, 2015, 2017, 2019, 2021, 2023, 2025, 2027, 2029, 2031, 2033, 2035, 2037, 2039, 2041, 2043, 2045] (by decide +kernel) (by decide +kernel)
def R_Tx : String := "BreweryHouseModel$Text"
def F_Tx : u_T := fun k => match k with
  | 0 => ("BreweryHouseModel$Text", "text", "[B", true)
  | 1 => ("BreweryHouseModel$Text", "size", "I", false)
  | 2 => ("BreweryHouseModel$Text", "place", "I", false)
  | 3 => ("BreweryHouseModel$Text", "nowLine", "I", false)
  | 4 => ("BreweryHouseModel$Text", "token", "I", false)
  | 5 => ("BreweryHouseModel$Text", "begin", "I", false)
  | 6 => ("BreweryHouseModel$Text", "end", "I", false)
  | 7 => ("BreweryHouseModel$Text", "tokenLine", "I", false)
  | 8 => ("BreweryHouseModel$Text", "value", "J", false)
  | 9 => ("BreweryHouseModel$Text", "pointed", "Z", false)
  | 10 => ("BreweryHouseModel$Text", "wrong", "I", false)
  | 11 => ("BreweryHouseModel$Text", "open", "I", false)
  | 12 => ("BreweryHouseModel$Text", "half", "I", false)
  | 13 => ("BreweryHouseModel$Text", "nodes", "I", false)
  | 14 => ("BreweryHouseModel$Text", "whats", "[I", true)
  | 15 => ("BreweryHouseModel$Text", "numbers", "[J", true)
  | 16 => ("BreweryHouseModel$Text", "lines", "[I", true)
  | 17 => ("BreweryHouseModel$Text", "units", "[I", true)
  | 18 => ("BreweryHouseModel$Text", "kidAt", "[I", true)
  | 19 => ("BreweryHouseModel$Text", "kidCount", "[I", true)
  | 20 => ("BreweryHouseModel$Text", "kids", "[I", true)
  | 21 => ("BreweryHouseModel$Text", "kidsMade", "I", false)
  | 22 => ("BreweryHouseModel$Text", "tops", "[I", true)
  | 23 => ("BreweryHouseModel$Text", "topsMade", "I", false)
  | 24 => ("BreweryHouseModel$Text", "names", "I", false)
  | 25 => ("BreweryHouseModel$Text", "letters", "[B", true)
  | 26 => ("BreweryHouseModel$Text", "lengths", "[I", true)
  | 27 => ("BreweryHouseModel$Text", "roles", "[I", true)
  | 28 => ("BreweryHouseModel$Text", "nameUnits", "[I", true)
  | 29 => ("BreweryHouseModel$Text", "stepNodes", "[I", true)
  | 30 => ("BreweryHouseModel$Text", "nodeCount", "I", false)
  | 31 => ("BreweryHouseModel$Text", "topCount", "I", false)
  | 32 => ("BreweryHouseModel$Text", "nameCount", "I", false)
  | 33 => ("BreweryHouseModel$Text", "statements", "I", false)
  | 34 => ("BreweryHouseModel$Text", "pile", "[I", true)
  | 35 => ("BreweryHouseModel$Text", "high", "I", false)
  | 36 => ("BreweryHouseModel$Text", "costs", "[I", true)
  | 37 => ("BreweryHouseModel$Text", "deeps", "[I", true)
  | _ => ("BreweryHouseModel$Text", "made", "I", false)
def t_Tx : Nat → FieldType := fun k => match k with
  | 0 => (.array .byte)
  | 1 => .int
  | 2 => .int
  | 3 => .int
  | 4 => .int
  | 5 => .int
  | 6 => .int
  | 7 => .int
  | 8 => .long
  | 9 => .boolean
  | 10 => .int
  | 11 => .int
  | 12 => .int
  | 13 => .int
  | 14 => (.array .int)
  | 15 => (.array .long)
  | 16 => (.array .int)
  | 17 => (.array .int)
  | 18 => (.array .int)
  | 19 => (.array .int)
  | 20 => (.array .int)
  | 21 => .int
  | 22 => (.array .int)
  | 23 => .int
  | 24 => .int
  | 25 => (.array .byte)
  | 26 => (.array .int)
  | 27 => (.array .int)
  | 28 => (.array .int)
  | 29 => (.array .int)
  | 30 => .int
  | 31 => .int
  | 32 => .int
  | 33 => .int
  | 34 => (.array .int)
  | 35 => .int
  | 36 => (.array .int)
  | 37 => (.array .int)
  | _ => .int
theorem n_Tx : ∀ a, a < 39 → ∀ b, b < 39 → a ≠ b → (F_Tx a).2.1 ≠ (F_Tx b).2.1 := by decide +kernel
theorem t_Tx_ok : ∀ k, k < 39 → parseFieldDescriptor (F_Tx k).2.2.1 = some (t_Tx k) := by decide +kernel
theorem in_Tx : ∀ w ∈ u_ws R_Tx F_Tx 39, w ∈ lw_gd := tb_lay [1619, 1621, 1623, 1625, 1627, 1629, 1631, 1633, 1635, 1637, 1639, 1641, 1643, 1645, 1647, 1649, 1651, 1653, 1655, 1657, 1659, 1661, 1663, 1665, 1667, 1669, 1671, 1673, 1675, 1677, 1679, 1681, 1683, 1685, 1687, 1689, 1691, 1693, 1695] (by decide +kernel) (by decide +kernel)
def R_Mr : String := "BreweryHouseModel$Rows"
def F_Mr : u_T := fun k => match k with
  | 0 => ("BreweryHouseModel$Rows", "text", "[B", true)
  | 1 => ("BreweryHouseModel$Rows", "size", "I", false)
  | 2 => ("BreweryHouseModel$Rows", "begins", "[I", true)
  | 3 => ("BreweryHouseModel$Rows", "ends", "[I", true)
  | 4 => ("BreweryHouseModel$Rows", "words", "I", false)
  | 5 => ("BreweryHouseModel$Rows", "next", "I", false)
  | 6 => ("BreweryHouseModel$Rows", "open", "I", false)
  | 7 => ("BreweryHouseModel$Rows", "stood", "I", false)
  | 8 => ("BreweryHouseModel$Rows", "whats", "[I", true)
  | 9 => ("BreweryHouseModel$Rows", "firsts", "[I", true)
  | 10 => ("BreweryHouseModel$Rows", "seconds", "[I", true)
  | 11 => ("BreweryHouseModel$Rows", "nodes", "I", false)
  | 12 => ("BreweryHouseModel$Rows", "half", "I", false)
  | 13 => ("BreweryHouseModel$Rows", "made", "I", false)
  | 14 => ("BreweryHouseModel$Rows", "tops", "[I", true)
  | 15 => ("BreweryHouseModel$Rows", "actCounts", "[I", true)
  | 16 => ("BreweryHouseModel$Rows", "acts", "[I", true)
  | 17 => ("BreweryHouseModel$Rows", "numbers", "[I", true)
  | 18 => ("BreweryHouseModel$Rows", "latches", "[Z", true)
  | 19 => ("BreweryHouseModel$Rows", "conditions", "[I", true)
  | 20 => ("BreweryHouseModel$Rows", "rows", "I", false)
  | 21 => ("BreweryHouseModel$Rows", "counts", "[I", true)
  | 22 => ("BreweryHouseModel$Rows", "latched", "[Z", true)
  | 23 => ("BreweryHouseModel$Rows", "passes", "[I", true)
  | _ => ("BreweryHouseModel$Rows", "state", "I", false)
def t_Mr : Nat → FieldType := fun k => match k with
  | 0 => (.array .byte)
  | 1 => .int
  | 2 => (.array .int)
  | 3 => (.array .int)
  | 4 => .int
  | 5 => .int
  | 6 => .int
  | 7 => .int
  | 8 => (.array .int)
  | 9 => (.array .int)
  | 10 => (.array .int)
  | 11 => .int
  | 12 => .int
  | 13 => .int
  | 14 => (.array .int)
  | 15 => (.array .int)
  | 16 => (.array .int)
  | 17 => (.array .int)
  | 18 => (.array .boolean)
  | 19 => (.array .int)
  | 20 => .int
  | 21 => (.array .int)
  | 22 => (.array .boolean)
  | 23 => (.array .int)
  | _ => .int
theorem n_Mr : ∀ a, a < 25 → ∀ b, b < 25 → a ≠ b → (F_Mr a).2.1 ≠ (F_Mr b).2.1 := by decide +kernel
theorem t_Mr_ok : ∀ k, k < 25 → parseFieldDescriptor (F_Mr k).2.2.1 = some (t_Mr k) := by decide +kernel
theorem in_Mr : ∀ w ∈ u_ws R_Mr F_Mr 25, w ∈ lw_gd := tb_lay [1734, 1736, 1738, 1740, 1742, 1744, 1746, 1748, 1750, 1752, 1754, 1756, 1758, 1760, 1762, 1764, 1766, 1768, 1770, 1772, 1774, 1776, 1778, 1780, 1782] (by decide +kernel) (by decide +kernel)
abbrev classes : List vw_C := [(R_Bh, F_Bh, 16), (R_Tp, F_Tp, 3), (R_Al, F_Al, 4), (R_Pl, F_Pl, 12), (R_St, F_St, 12), (R_Wa, F_Wa, 18), (R_Sf, F_Sf, 10), (R_Ro, F_Ro, 18), (R_Pr, F_Pr, 18), (R_Rd, F_Rd, 13), (R_Ru, F_Ru, 21), (R_Ac, F_Ac, 8), (R_Mo, F_Mo, 87), (R_Tx, F_Tx, 39), (R_Mr, F_Mr, 25)]
abbrev tys4 (cI cB cZ cJ : ClassId) : List (ClassId × FieldType) := [(cI, .int), (cB, .byte), (cZ, .boolean), (cJ, .long)]
theorem ka_eq {U : State} {a b : ClassId} {ty : FieldType} (h1 : va_RA U a ty) (h2 : va_RA U b ty) : a = b := by
  cases ty with
  | object C =>
    obtain ⟨_, _, _, _, _, h3⟩ := h1
    obtain ⟨_, _, _, _, _, h4⟩ := h2
    exact Option.some.inj (h3.symm.trans h4)
  | _ => exact Option.some.inj (Eq.trans (Eq.symm h1) h2)
section KA
variable {p : Program} {l : Launch} {e : Env} {R : Room} {s : State} {m : MethodId} {args : Array Value} {below : List Frame} {meth : Method} {c : Code} {H : Heap} {locs : List Loc} {cells slots : Nat} {Q : State → Prop}
variable {pc : Nat} {ls : Array Slot} {rest : List Value} {D : va_G} {cl : List vw_C} {tys : List (ClassId × FieldType)} {ws : va_W} {A : Nat → Prop} {H0 : Heap} {cc : ByteArray}
/-- a new array of a kind whose class is known -/
theorem ka_newa (hexec : p.tables.exec = Jvm.exec) (hb : c.code = cc) {atype : ArrayType} (harr : (Cond.arrayClass (newarray.typeOf atype)).before args s = true) {ty : FieldType} (hty : newarray.typeOf atype = ty) (hK : va_K D cl tys s) (hP : va_P D cl ws H) (hD : va_D A ws) (hS : va_S A H0 H locs) (hA : ∀ q, H0.size ≤ q → A q)
    (t0 : Nat) {cA : ClassId} (ht : tys[t0]? = some (cA, ty)) {n : Int32} {N' : Nat} {a0 : vp_A} (ha : ∀ cA : ClassId, vp_cell cA a0 = arrV cA N' (fun _ => defaultValue ty)) (hn : ¬ n < 0) (hN : n.toNatClampNeg = N') (hbytes : N' * componentBytes ty ≤ 536870912) (hcells : cells + 1 ≤ R.cells) (hslots : slots + N' ≤ R.slots) (hdg : decode cc pc = .ok (.newarray atype, 2))
    (kk : ∀ (q : Nat) (H1 : Heap), va_P D cl (ws ++ [(q, .inl (cA, a0))]) H1 → va_D A (ws ++ [(q, .inl (cA, a0))]) → va_S A H0 H1 locs →
      W p l e R s m args below meth c H1 locs (cells + 1) (slots + N') Q (F0 m (pc + 2) ls (.ref q :: rest))) : W p l e R s m args below meth c H locs cells slots Q (F0 m pc ls (.int n :: rest)) := by
  refine va_newa hexec hb harr hty hK hP hD hS hA ha hn hN hbytes hcells hslots hdg (fun q cB H1 hK1 hP1 hD1 hS1 => ?_)
  have h2 := (hK1.2 tys.length (cB, ty) (by simp)).2
  have h3 := (hK.2 t0 _ ht).2
  have h4 : cB = cA := ka_eq h2 h3
  subst h4
  exact kk q H1 hP1 hD1 hS1
end KA
end
section
def nw_is : Cond → Bool
  | .fieldLinkNest .. | .methodLinkNest .. => true
  | _ => false
def lw_nest : List Cond := tables_1.filter nw_is
theorem nw_mem {w : Cond} {i : Nat} (h : tables_1[i]? = some w) (hg : nw_is w = true) : w ∈ lw_nest := List.mem_filter.mpr ⟨List.mem_of_getElem? h, hg⟩
/-- the classes, the array classes, and the links between nest mates, as a state has them -/
def KK (dC : Nat → ClassId) (dI : Nat → Nat → Nat) (cI cB cZ cJ : ClassId) (U : State) : Prop := va_K (dC, dI) classes (tys4 cI cB cZ cJ) U ∧ ∀ w ∈ lw_nest, va_Nw w U
theorem KK.same {dC : Nat → ClassId} {dI : Nat → Nat → Nat} {cI cB cZ cJ : ClassId} {u U : State} (h : u.vm = U.vm) (hK : KK dC dI cI cB cZ cJ u) : KK dC dI cI cB cZ cJ U := by
  refine ⟨va_K.moved (h ▸ Vm.Alike.refl u.vm) hK.1, fun w hw => ?_⟩
  have h1 := hK.2 w hw
  have h2 : nw_is w = true := (List.mem_filter.mp hw).2
  cases w <;> first | (cases h2; done) | exact va_Nw.same rfl h h1
theorem KK.warm {dC : Nat → ClassId} {dI : Nat → Nat → Nat} {cI cB cZ cJ : ClassId} {s U : State} (hW : s.WarmedH U.vm) (hK : KK dC dI cI cB cZ cJ s) : KK dC dI cI cB cZ cJ U := by
  refine ⟨va_K.moved hW.alike hK.1, fun w hw => ?_⟩
  have h1 := hK.2 w hw
  have h2 : nw_is w = true := (List.mem_filter.mp hw).2
  cases w <;> first | (cases h2; done) | exact va_Nw.warmF hW h1 | exact va_Nw.warmM hW h1
def PW (dC : Nat → ClassId) (dI : Nat → Nat → Nat) (cI cB cZ cJ : ClassId) (ws : va_W) (sz : Nat) : State → Prop := fun U => U.heap.size = sz ∧ va_P (dC, dI) classes ws U.heap ∧ KK dC dI cI cB cZ cJ U ∧ va_D (fun _ => True) ws
theorem pw_blind {dC : Nat → ClassId} {dI : Nat → Nat → Nat} {cI cB cZ cJ : ClassId} {ws : va_W} {sz : Nat} {av : List Value} : FrameBlind (va_Pc av (PW dC dI cI cB cZ cJ ws sz)) := fun a U g mk q => by
  obtain ⟨q0, q1, qP, qK, qD⟩ := q
  exact ⟨q0, q1, qP, KK.same (u := U) (U := U.calling g mk a) rfl qK, qD⟩
theorem pw_pre {dC : Nat → ClassId} {dI : Nat → Nat → Nat} {cI cB cZ cJ : ClassId} {ws : va_W} {av : List Value} {s : State} {H : Heap} {A : Nat → Prop} (hP : va_P (dC, dI) classes ws H) (hK : KK dC dI cI cB cZ cJ s) (hD : va_D A ws) : ∀ U : State, U.heap = H → s.WarmedH U.vm → va_Pc av (PW dC dI cI cB cZ cJ ws H.size) av.toArray U := fun U hU hW => ⟨rfl, by rw [hU], by rw [hU]; exact hP, hK.warm hW, hD.weaken (fun _ _ _ _ => trivial)⟩
theorem pu_free {A : Nat → Prop} {H0 H : Heap} {locs : List Loc} (hS : va_S A H0 H locs) (hA : ∀ q, H0.size ≤ q → A q) : ∀ q, va_A [] H.size q → A q := fun q h => hA q (Nat.le_trans hS.1 (h.elim (fun ⟨k, e, hk⟩ => by simp at hk) id))
theorem pu_kept {D : va_G} {ws : va_W} {H H1 : Heap} (hP : va_P D classes ws H) (hk : ∀ q : Nat, q < H.size → ¬ va_A [] H.size q → H1[q]? = H[q]?) : va_P D classes ws H1 := hP.kept (fun k x hx => hk x.1 (hP k x hx).lt (fun h => h.elim (fun ⟨k, e, hk⟩ => by simp at hk) (fun h => Nat.lt_irrefl _ (Nat.lt_of_lt_of_le (hP k x hx).lt h))))
theorem st_ne {fs : List Value} {j k : Nat} {x v : Value} (h : fs[j]? = some x) (hne : k ≠ j) : (fs.set k v)[j]? = some x := by rw [List.getElem?_set_ne hne]; exact h
theorem st_lt {fs : List Value} {k : Nat} {x : Value} (h : fs[k]? = some x) : k < fs.length := (List.getElem?_eq_some_iff.mp h).1
theorem st_eq {fs : List Value} {k : Nat} {x v : Value} (h : fs[k]? = some x) : (fs.set k v)[k]? = some v := by rw [List.getElem?_set_self (st_lt h)]
theorem tb_V {a : Cond} {own C : String} {idx n : Nat} {y : MethodName} {b : ByteArray} {r : Option FieldType} (h1 : Cond.methodLink own idx y ∈ lw_gd) (h2 : Cond.instanceMethod y ∈ lw_gd) (h3 : Cond.selects C y y ∈ lw_gd) (h4 : Cond.initialized C ∈ lw_gd) (h5 : Cond.code y b n r ∈ lw_gd) : GoodIn (a :: lw_gd) (wsV own idx C y (.code y b n r :: lw_gd)) := tb_inA (fun w hw => by
  rcases List.mem_append.mp hw with hw | hw
  · simp only [List.mem_cons, List.not_mem_nil, or_false] at hw
    rcases hw with e | e | e | e <;> rw [e] <;> assumption
  · rcases List.mem_cons.mp hw with e | hw
    · rw [e]; exact h5
    · exact hw)
theorem tb_S {a : Cond} {own : String} {idx n : Nat} {y : MethodName} {b : ByteArray} {r : Option FieldType} (h1 : Cond.methodLink own idx y ∈ lw_gd) (h2 : Cond.static y ∈ lw_gd) (h4 : Cond.initialized own ∈ lw_gd) (h5 : Cond.code y b n r ∈ lw_gd) : GoodIn (a :: lw_gd) (wsS own idx y (.code y b n r :: lw_gd)) := tb_inA (fun w hw => by
  rcases List.mem_append.mp hw with hw | hw
  · simp only [List.mem_cons, List.not_mem_nil, or_false] at hw
    rcases hw with e | e | e <;> rw [e] <;> assumption
  · rcases List.mem_cons.mp hw with e | hw
    · rw [e]; exact h5
    · exact hw)
end
section
abbrev b_Mo_isThing : ByteArray := prog_14_method_16_code
def y_Mo_isThing : MethodName := ⟨R_Mo, "isThing", "(I)Z"⟩
abbrev w_Mo_isThing : List Cond := .code y_Mo_isThing b_Mo_isThing 2 (some .boolean) :: lw_gd
abbrev b_Mo_second : ByteArray := prog_14_method_91_code
def y_Mo_second : MethodName := ⟨R_Mo, "second", "()I"⟩
abbrev w_Mo_second : List Cond := .code y_Mo_second b_Mo_second 1 (some .int) :: lw_gd
abbrev b_Mo_isTank : ByteArray := prog_14_method_17_code
def y_Mo_isTank : MethodName := ⟨R_Mo, "isTank", "(I)Z"⟩
abbrev w_Mo_isTank : List Cond := .code y_Mo_isTank b_Mo_isTank 2 (some .boolean) :: lw_gd
abbrev b_Mo_isValve : ByteArray := prog_14_method_18_code
def y_Mo_isValve : MethodName := ⟨R_Mo, "isValve", "(I)Z"⟩
abbrev w_Mo_isValve : List Cond := .code y_Mo_isValve b_Mo_isValve 2 (some .boolean) :: lw_gd
theorem mw_18 : (.initialized "BreweryHouseModel" : Cond) ∈ lw_gd := tb_mem (i := 18) (by decide +kernel) (by decide +kernel)
theorem mw_1790 : (.fieldLink "BreweryHouseModel" 278 "BreweryHouseModel" "things" "I" : Cond) ∈ lw_gd := tb_mem (i := 1790) (by decide +kernel) (by decide +kernel)
theorem mw_1864 : (.fieldLink "BreweryHouseModel" 326 "BreweryHouseModel" "now" "I" : Cond) ∈ lw_gd := tb_mem (i := 1864) (by decide +kernel) (by decide +kernel)
theorem mw_2408 : (.methodLink "BreweryHouseModel" 314 y_Mo_isThing : Cond) ∈ lw_gd := tb_mem (i := 2408) (by decide +kernel) (by decide +kernel)
theorem mw_2410 : (.instanceMethod y_Mo_isThing : Cond) ∈ lw_gd := tb_mem (i := 2410) (by decide +kernel) (by decide +kernel)
theorem mw_2411 : (.code y_Mo_isThing b_Mo_isThing 2 (some .boolean) : Cond) ∈ lw_gd := tb_mem (i := 2411) (by decide +kernel) (by decide +kernel)
theorem sl_152 : (.selects "BreweryHouseModel" y_Mo_isThing y_Mo_isThing : Cond) ∈ lw_gd := List.mem_filter.mpr ⟨List.mem_append_left _ (List.mem_of_getElem? (i := 152) (by decide +kernel)), by decide +kernel⟩
theorem d_Mo_isThing_0 : decode b_Mo_isThing 0 = .ok (.iload_n 1, 1) := by decide +kernel
theorem d_Mo_isThing_1 : decode b_Mo_isThing 1 = .ok (.ifCond .lt 15, 3) := by decide +kernel
theorem d_Mo_isThing_4 : decode b_Mo_isThing 4 = .ok (.iload_n 1, 1) := by decide +kernel
theorem d_Mo_isThing_5 : decode b_Mo_isThing 5 = .ok (.aload_n 0, 1) := by decide +kernel
theorem d_Mo_isThing_6 : decode b_Mo_isThing 6 = .ok (.getfield 278, 3) := by decide +kernel
theorem d_Mo_isThing_9 : decode b_Mo_isThing 9 = .ok (.if_icmp .ge 7, 3) := by decide +kernel
theorem d_Mo_isThing_16 : decode b_Mo_isThing 16 = .ok (.iconst 0, 1) := by decide +kernel
theorem d_Mo_isThing_17 : decode b_Mo_isThing 17 = .ok (.ireturn, 1) := by decide +kernel
set_option maxHeartbeats 4000000 in
set_option maxRecDepth 100000 in
theorem c_Mo_isThing (l : Launch) (dC : Nat → ClassId) (dI : Nat → Nat → Nat) (cI cB cZ cJ : ClassId) (t : Int32) (h0 : Nat) (fs : List Value) (hf_things : fs[4]? = some (.int 0)) (sz : Nat) : Met l y_Mo_isThing w_Mo_isThing ({ frames := 0, cells := 0, slots := 0, locals := 0 }) (va_Pc [.ref h0, .int t] (PW dC dI cI cB cZ cJ [(h0, .inr (12, fs))] sz)) (va_Qi (fun (r : Int32) (_ : Unit) => r = 0) (fun _ _ => True) (va_A [] sz)) 0 0 (va_A [] sz) := by
  refine Met.ofW (cc := b_Mo_isThing) (maxL := 2) (ret := (some .boolean)) (by decide) rfl ?_
  intro p e s m args below meth c s₁ B hml hv
  obtain ⟨rfl, hsz, hP, hK, hD⟩ := hv
  have hx := B.exec
  have hb := B.bytes
  have hr := B.returns
  have hts := atoms_spec (ws := w_Mo_isThing) B.pre
  have hown : s.vm.findClass R_Mo = some m.cls := findClass_of_methodNamed B.named
  have hlocks := B.notSynchronized
  subst hsz
  generalize hAe : va_A [] s.heap.size = A at ⊢
  have hA : ∀ q : Nat, s.heap.size ≤ q → A q := fun q h => by rw [← hAe]; exact Or.inr h
  have hS : va_S A s.heap s.heap [] := va_S.rf
  have hP : va_P (dC, dI) classes [(h0, .inr (12, fs))] s.heap := hP
  have hl := lv_entry ([.ref h0, .int t]) (n := 2) (Nat.le_of_ble_eq_true rfl)
  rw [lg_entry_eq]
  generalize (lg_sl ([.ref h0, .int t]) ++ List.replicate (2 - (lg_sl ([.ref h0, .int t])).length) Slot.unset).toArray = ls at hl ⊢
  have hl : lv_has ls 2 [(0, .ref h0), (1, .int t)] := hl
  refine lv_iload_n hx hb d_Mo_isThing_0 rfl (lv_at hl 1 rfl) ?_
  refine lv_if_lt (tgt := 16) hx hb d_Mo_isThing_1 (by decide) (fun h1 => ?_) (fun h1 => ?_)
  · refine lv_iconst (v := 0) hx hb d_Mo_isThing_16 (by decide) ?_
    exact W.zret (v := 0) (ty := .boolean) hx hb hr (by decide) (fun t ht hW => ⟨⟨_, (), rfl, (rfl), trivial⟩, hS.F ht⟩) hS.2.2 d_Mo_isThing_17
  · refine lv_iload_n hx hb d_Mo_isThing_4 rfl (lv_at hl 1 rfl) ?_
    refine lv_aload_n hx hb d_Mo_isThing_5 rfl (lv_at hl 0 rfl) ?_
    refine va_get (D := (dC, dI)) (ci := 12) (v := .int 0) (C := R_Mo) (T := F_Mo) (N := 87) hx hb hts (fun w h => List.mem_cons_of_mem _ (in_Mo w h)) hown hK.1 hP 0 rfl rfl 4 (by decide) (hts _ (List.mem_cons_of_mem _ mw_1790)) (fun _ h9 => h9) hf_things d_Mo_isThing_6 ?_
    refine lv_icmp_ge (tgt := 16) hx hb d_Mo_isThing_9 (by decide) (fun _ => ?_) (fun h => absurd (Int32.not_lt.mp h1) h)
    refine lv_iconst (v := 0) hx hb d_Mo_isThing_16 (by decide) ?_
    exact W.zret (v := 0) (ty := .boolean) hx hb hr (by decide) (fun t ht hW => ⟨⟨_, (), rfl, (rfl), trivial⟩, hS.F ht⟩) hS.2.2 d_Mo_isThing_17
theorem d_Mo_second_0 : decode b_Mo_second 0 = .ok (.aload_n 0, 1) := by decide +kernel
theorem d_Mo_second_1 : decode b_Mo_second 1 = .ok (.getfield 326, 3) := by decide +kernel
theorem d_Mo_second_4 : decode b_Mo_second 4 = .ok (.ireturn, 1) := by decide +kernel
set_option maxHeartbeats 4000000 in
set_option maxRecDepth 100000 in
theorem c_Mo_second (l : Launch) (dC : Nat → ClassId) (dI : Nat → Nat → Nat) (cI cB cZ cJ : ClassId) (v : Int32) (h0 : Nat) (fs : List Value) (hf_now : fs[78]? = some (.int v)) (sz : Nat) : Met l y_Mo_second w_Mo_second ({ frames := 0, cells := 0, slots := 0, locals := 0 }) (va_Pc [.ref h0] (PW dC dI cI cB cZ cJ [(h0, .inr (12, fs))] sz)) (va_Qi (fun (r : Int32) (_ : Unit) => r = v) (fun _ _ => True) (va_A [] sz)) 0 0 (va_A [] sz) := by
  refine Met.ofW (cc := b_Mo_second) (maxL := 1) (ret := (some .int)) (by decide) rfl ?_
  intro p e s m args below meth c s₁ B hml hv
  obtain ⟨rfl, hsz, hP, hK, hD⟩ := hv
  have hx := B.exec
  have hb := B.bytes
  have hr := B.returns
  have hts := atoms_spec (ws := w_Mo_second) B.pre
  have hown : s.vm.findClass R_Mo = some m.cls := findClass_of_methodNamed B.named
  have hlocks := B.notSynchronized
  subst hsz
  generalize hAe : va_A [] s.heap.size = A at ⊢
  have hA : ∀ q : Nat, s.heap.size ≤ q → A q := fun q h => by rw [← hAe]; exact Or.inr h
  have hS : va_S A s.heap s.heap [] := va_S.rf
  have hP : va_P (dC, dI) classes [(h0, .inr (12, fs))] s.heap := hP
  have hl := lv_entry ([.ref h0]) (n := 1) (Nat.le_of_ble_eq_true rfl)
  rw [lg_entry_eq]
  generalize (lg_sl ([.ref h0]) ++ List.replicate (1 - (lg_sl ([.ref h0])).length) Slot.unset).toArray = ls at hl ⊢
  have hl : lv_has ls 1 [(0, .ref h0)] := hl
  refine lv_aload_n hx hb d_Mo_second_0 rfl (lv_at hl 0 rfl) ?_
  refine va_get (D := (dC, dI)) (ci := 12) (v := .int v) (C := R_Mo) (T := F_Mo) (N := 87) hx hb hts (fun w h => List.mem_cons_of_mem _ (in_Mo w h)) hown hK.1 hP 0 rfl rfl 78 (by decide) (hts _ (List.mem_cons_of_mem _ mw_1864)) (fun _ h9 => h9) hf_now d_Mo_second_1 ?_
  exact W.iret (v := v) hx hb hr (fun t ht hW => ⟨⟨_, (), rfl, (rfl), trivial⟩, hS.F ht⟩) hS.2.2 d_Mo_second_4
theorem d_Mo_isTank_0 : decode b_Mo_isTank 0 = .ok (.aload_n 0, 1) := by decide +kernel
theorem d_Mo_isTank_1 : decode b_Mo_isTank 1 = .ok (.iload_n 1, 1) := by decide +kernel
theorem d_Mo_isTank_2 : decode b_Mo_isTank 2 = .ok (.invokevirtual 314, 3) := by decide +kernel
theorem d_Mo_isTank_5 : decode b_Mo_isTank 5 = .ok (.ifCond .eq 16, 3) := by decide +kernel
theorem d_Mo_isTank_21 : decode b_Mo_isTank 21 = .ok (.iconst 0, 1) := by decide +kernel
theorem d_Mo_isTank_22 : decode b_Mo_isTank 22 = .ok (.ireturn, 1) := by decide +kernel
set_option maxHeartbeats 4000000 in
set_option maxRecDepth 100000 in
theorem c_Mo_isTank (l : Launch) (dC : Nat → ClassId) (dI : Nat → Nat → Nat) (cI cB cZ cJ : ClassId) (t : Int32) (h0 : Nat) (fs : List Value) (hf_things : fs[4]? = some (.int 0)) (sz : Nat) : Met l y_Mo_isTank w_Mo_isTank ({ frames := 1, cells := 0, slots := 0, locals := 21 }) (va_Pc [.ref h0, .int t] (PW dC dI cI cB cZ cJ [(h0, .inr (12, fs))] sz)) (va_Qi (fun (r : Int32) (_ : Unit) => r = 0) (fun _ _ => True) (va_A [] sz)) 0 0 (va_A [] sz) := by
  refine Met.ofW (cc := b_Mo_isTank) (maxL := 2) (ret := (some .boolean)) (by decide) rfl ?_
  intro p e s m args below meth c s₁ B hml hv
  obtain ⟨rfl, hsz, hP, hK, hD⟩ := hv
  have hx := B.exec
  have hb := B.bytes
  have hr := B.returns
  have hts := atoms_spec (ws := w_Mo_isTank) B.pre
  have hown : s.vm.findClass R_Mo = some m.cls := findClass_of_methodNamed B.named
  have hlocks := B.notSynchronized
  subst hsz
  generalize hAe : va_A [] s.heap.size = A at ⊢
  have hA : ∀ q : Nat, s.heap.size ≤ q → A q := fun q h => by rw [← hAe]; exact Or.inr h
  have hS : va_S A s.heap s.heap [] := va_S.rf
  have hP : va_P (dC, dI) classes [(h0, .inr (12, fs))] s.heap := hP
  have hl := lv_entry ([.ref h0, .int t]) (n := 2) (Nat.le_of_ble_eq_true rfl)
  rw [lg_entry_eq]
  generalize (lg_sl ([.ref h0, .int t]) ++ List.replicate (2 - (lg_sl ([.ref h0, .int t])).length) Slot.unset).toArray = ls at hl ⊢
  have hl : lv_has ls 2 [(0, .ref h0), (1, .int t)] := hl
  refine lv_aload_n hx hb d_Mo_isTank_0 rfl (lv_at hl 0 rfl) ?_
  refine lv_iload_n hx hb d_Mo_isTank_1 rfl (lv_at hl 1 rfl) ?_
  have hPc := hP.sub (ws' := [(h0, .inr (12, fs))]) [0] rfl
  have hDc := hD.sub (ws' := [(h0, .inr (12, fs))]) [0] (by decide) rfl
  have hFc := pu_free hS hA
  refine va_calli (va_runV (C := R_Mo) (As := [.int t]) (rest := []) ⟨hx, hb, hml, hown, hts⟩ (c_Mo_isThing l dC dI cI cB cZ cJ t h0 fs hf_things s.heap.size) (cwV 1 hts (tb_V mw_2408 mw_2410 sl_152 mw_18 mw_2411) rfl rfl rfl ⟨rfl, by decide +kernel, by decide +kernel, by decide +kernel⟩ ⟨(Nat.le_of_ble_eq_true rfl), (Nat.le_of_ble_eq_true rfl)⟩) ⟨pw_blind, va_recv (q := (R_Mo, F_Mo, 87)) hK.1 hP (ci := 12) (q0 := 0) rfl rfl, pw_pre hPc hK hDc⟩ rfl rfl hl.1 rfl (lv_room (Nat.le_of_ble_eq_true rfl)) d_Mo_isTank_2 ⟨(Nat.le_of_ble_eq_true rfl), (Nat.le_of_ble_eq_true rfl)⟩) hS (fun q _ h => hFc q h) hFc (fun r u t H locs ht hvm hw hB hz1 hk1 hS => ?_)
  have hP := pu_kept hP hk1
  obtain rfl : r = 0 := hw
  refine lv_if_eq (tgt := 21) hx hb d_Mo_isTank_5 (by decide) (fun _ => ?_) (fun h => absurd (by decide) h)
  refine lv_iconst (v := 0) hx hb d_Mo_isTank_21 (by decide) ?_
  exact W.zret (v := 0) (ty := .boolean) hx hb hr (by decide) (fun t ht hW => ⟨⟨_, (), rfl, (rfl), trivial⟩, hS.F ht⟩) hS.2.2 d_Mo_isTank_22
theorem d_Mo_isValve_0 : decode b_Mo_isValve 0 = .ok (.aload_n 0, 1) := by decide +kernel
theorem d_Mo_isValve_1 : decode b_Mo_isValve 1 = .ok (.iload_n 1, 1) := by decide +kernel
theorem d_Mo_isValve_2 : decode b_Mo_isValve 2 = .ok (.invokevirtual 314, 3) := by decide +kernel
theorem d_Mo_isValve_5 : decode b_Mo_isValve 5 = .ok (.ifCond .eq 17, 3) := by decide +kernel
theorem d_Mo_isValve_22 : decode b_Mo_isValve 22 = .ok (.iconst 0, 1) := by decide +kernel
theorem d_Mo_isValve_23 : decode b_Mo_isValve 23 = .ok (.ireturn, 1) := by decide +kernel
set_option maxHeartbeats 4000000 in
set_option maxRecDepth 100000 in
theorem c_Mo_isValve (l : Launch) (dC : Nat → ClassId) (dI : Nat → Nat → Nat) (cI cB cZ cJ : ClassId) (t : Int32) (h0 : Nat) (fs : List Value) (hf_things : fs[4]? = some (.int 0)) (sz : Nat) : Met l y_Mo_isValve w_Mo_isValve ({ frames := 1, cells := 0, slots := 0, locals := 21 }) (va_Pc [.ref h0, .int t] (PW dC dI cI cB cZ cJ [(h0, .inr (12, fs))] sz)) (va_Qi (fun (r : Int32) (_ : Unit) => r = 0) (fun _ _ => True) (va_A [] sz)) 0 0 (va_A [] sz) := by
  refine Met.ofW (cc := b_Mo_isValve) (maxL := 2) (ret := (some .boolean)) (by decide) rfl ?_
  intro p e s m args below meth c s₁ B hml hv
  obtain ⟨rfl, hsz, hP, hK, hD⟩ := hv
  have hx := B.exec
  have hb := B.bytes
  have hr := B.returns
  have hts := atoms_spec (ws := w_Mo_isValve) B.pre
  have hown : s.vm.findClass R_Mo = some m.cls := findClass_of_methodNamed B.named
  have hlocks := B.notSynchronized
  subst hsz
  generalize hAe : va_A [] s.heap.size = A at ⊢
  have hA : ∀ q : Nat, s.heap.size ≤ q → A q := fun q h => by rw [← hAe]; exact Or.inr h
  have hS : va_S A s.heap s.heap [] := va_S.rf
  have hP : va_P (dC, dI) classes [(h0, .inr (12, fs))] s.heap := hP
  have hl := lv_entry ([.ref h0, .int t]) (n := 2) (Nat.le_of_ble_eq_true rfl)
  rw [lg_entry_eq]
  generalize (lg_sl ([.ref h0, .int t]) ++ List.replicate (2 - (lg_sl ([.ref h0, .int t])).length) Slot.unset).toArray = ls at hl ⊢
  have hl : lv_has ls 2 [(0, .ref h0), (1, .int t)] := hl
  refine lv_aload_n hx hb d_Mo_isValve_0 rfl (lv_at hl 0 rfl) ?_
  refine lv_iload_n hx hb d_Mo_isValve_1 rfl (lv_at hl 1 rfl) ?_
  have hPc := hP.sub (ws' := [(h0, .inr (12, fs))]) [0] rfl
  have hDc := hD.sub (ws' := [(h0, .inr (12, fs))]) [0] (by decide) rfl
  have hFc := pu_free hS hA
  refine va_calli (va_runV (C := R_Mo) (As := [.int t]) (rest := []) ⟨hx, hb, hml, hown, hts⟩ (c_Mo_isThing l dC dI cI cB cZ cJ t h0 fs hf_things s.heap.size) (cwV 1 hts (tb_V mw_2408 mw_2410 sl_152 mw_18 mw_2411) rfl rfl rfl ⟨rfl, by decide +kernel, by decide +kernel, by decide +kernel⟩ ⟨(Nat.le_of_ble_eq_true rfl), (Nat.le_of_ble_eq_true rfl)⟩) ⟨pw_blind, va_recv (q := (R_Mo, F_Mo, 87)) hK.1 hP (ci := 12) (q0 := 0) rfl rfl, pw_pre hPc hK hDc⟩ rfl rfl hl.1 rfl (lv_room (Nat.le_of_ble_eq_true rfl)) d_Mo_isValve_2 ⟨(Nat.le_of_ble_eq_true rfl), (Nat.le_of_ble_eq_true rfl)⟩) hS (fun q _ h => hFc q h) hFc (fun r u t H locs ht hvm hw hB hz1 hk1 hS => ?_)
  have hP := pu_kept hP hk1
  obtain rfl : r = 0 := hw
  refine lv_if_eq (tgt := 22) hx hb d_Mo_isValve_5 (by decide) (fun _ => ?_) (fun h => absurd (by decide) h)
  refine lv_iconst (v := 0) hx hb d_Mo_isValve_22 (by decide) ?_
  exact W.zret (v := 0) (ty := .boolean) hx hb hr (by decide) (fun t ht hW => ⟨⟨_, (), rfl, (rfl), trivial⟩, hS.F ht⟩) hS.2.2 d_Mo_isValve_23
end
