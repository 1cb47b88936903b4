section
-- ===== PART A: goes FIRST, ahead of the names: the tables' words, and 'selects' of the private methods out of them =====
/-- a private method of a class that the tables say can be made, by its rows of tables_1 -/
def lw_okq (q : MethodName × Nat) : Prop := (q.1.cls ≠ "java/lang/invoke/MethodHandle" ∧ q.1.cls ≠ "java/lang/invoke/VarHandle") ∧ Cond.instantiable q.1.cls q.2 ∈ tables_1 ∧ Cond.privateMethod q.1 ∈ tables_1 ∧ Cond.instanceMethod q.1 ∈ tables_1
theorem lw_p0 : lw_okq (⟨"FieldBand", "held", "()LFieldBand$Show;"⟩, 8) := ⟨⟨by decide +kernel, by decide +kernel⟩, List.mem_of_getElem? (i := 17) (by decide +kernel), List.mem_of_getElem? (i := 464) (by decide +kernel), List.mem_of_getElem? (i := 465) (by decide +kernel)⟩
theorem lw_p1 : lw_okq (⟨"FieldBand", "isPlayer", "(I)Z"⟩, 8) := ⟨⟨by decide +kernel, by decide +kernel⟩, List.mem_of_getElem? (i := 17) (by decide +kernel), List.mem_of_getElem? (i := 483) (by decide +kernel), List.mem_of_getElem? (i := 484) (by decide +kernel)⟩
theorem lw_p2 : lw_okq (⟨"FieldBand", "listen", "()LFieldBand$Sound;"⟩, 8) := ⟨⟨by decide +kernel, by decide +kernel⟩, List.mem_of_getElem? (i := 17) (by decide +kernel), List.mem_of_getElem? (i := 487) (by decide +kernel), List.mem_of_getElem? (i := 488) (by decide +kernel)⟩
theorem lw_p3 : lw_okq (⟨"FieldBand", "findWay", "()I"⟩, 8) := ⟨⟨by decide +kernel, by decide +kernel⟩, List.mem_of_getElem? (i := 17) (by decide +kernel), List.mem_of_getElem? (i := 648) (by decide +kernel), List.mem_of_getElem? (i := 649) (by decide +kernel)⟩
theorem lw_p4 : lw_okq (⟨"FieldBandModel", "clauseHere", "()V"⟩, 24) := ⟨⟨by decide +kernel, by decide +kernel⟩, List.mem_of_getElem? (i := 772) (by decide +kernel), List.mem_of_getElem? (i := 863) (by decide +kernel), List.mem_of_getElem? (i := 864) (by decide +kernel)⟩
theorem lw_p5 : lw_okq (⟨"FieldBandModel", "here", "()I"⟩, 24) := ⟨⟨by decide +kernel, by decide +kernel⟩, List.mem_of_getElem? (i := 772) (by decide +kernel), List.mem_of_getElem? (i := 867) (by decide +kernel), List.mem_of_getElem? (i := 868) (by decide +kernel)⟩
theorem lw_p6 : lw_okq (⟨"FieldBandModel", "must", "(I)V"⟩, 24) := ⟨⟨by decide +kernel, by decide +kernel⟩, List.mem_of_getElem? (i := 772) (by decide +kernel), List.mem_of_getElem? (i := 871) (by decide +kernel), List.mem_of_getElem? (i := 872) (by decide +kernel)⟩
theorem lw_p7 : lw_okq (⟨"FieldBandModel", "much", "(ILjava/lang/String;)V"⟩, 24) := ⟨⟨by decide +kernel, by decide +kernel⟩, List.mem_of_getElem? (i := 772) (by decide +kernel), List.mem_of_getElem? (i := 876) (by decide +kernel), List.mem_of_getElem? (i := 877) (by decide +kernel)⟩
theorem lw_p8 : lw_okq (⟨"FieldBandModel", "spells", "(Ljava/lang/String;)V"⟩, 24) := ⟨⟨by decide +kernel, by decide +kernel⟩, List.mem_of_getElem? (i := 772) (by decide +kernel), List.mem_of_getElem? (i := 880) (by decide +kernel), List.mem_of_getElem? (i := 881) (by decide +kernel)⟩
theorem lw_p9 : lw_okq (⟨"FieldBandModel", "figures", "()I"⟩, 24) := ⟨⟨by decide +kernel, by decide +kernel⟩, List.mem_of_getElem? (i := 772) (by decide +kernel), List.mem_of_getElem? (i := 886) (by decide +kernel), List.mem_of_getElem? (i := 887) (by decide +kernel)⟩
theorem lw_p10 : lw_okq (⟨"FieldBandModel", "some", "()V"⟩, 24) := ⟨⟨by decide +kernel, by decide +kernel⟩, List.mem_of_getElem? (i := 772) (by decide +kernel), List.mem_of_getElem? (i := 890) (by decide +kernel), List.mem_of_getElem? (i := 891) (by decide +kernel)⟩
theorem lw_p11 : lw_okq (⟨"FieldBandModel", "every", "()V"⟩, 24) := ⟨⟨by decide +kernel, by decide +kernel⟩, List.mem_of_getElem? (i := 772) (by decide +kernel), List.mem_of_getElem? (i := 894) (by decide +kernel), List.mem_of_getElem? (i := 895) (by decide +kernel)⟩
theorem lw_p12 : lw_okq (⟨"FieldBandModel", "factor", "()V"⟩, 24) := ⟨⟨by decide +kernel, by decide +kernel⟩, List.mem_of_getElem? (i := 772) (by decide +kernel), List.mem_of_getElem? (i := 898) (by decide +kernel), List.mem_of_getElem? (i := 899) (by decide +kernel)⟩
theorem lw_p13 : lw_okq (⟨"FieldBandModel", "emits", "(I)V"⟩, 24) := ⟨⟨by decide +kernel, by decide +kernel⟩, List.mem_of_getElem? (i := 772) (by decide +kernel), List.mem_of_getElem? (i := 902) (by decide +kernel), List.mem_of_getElem? (i := 903) (by decide +kernel)⟩
theorem lw_p14 : lw_okq (⟨"FieldBandModel", "among", "(Ljava/lang/String;)I"⟩, 24) := ⟨⟨by decide +kernel, by decide +kernel⟩, List.mem_of_getElem? (i := 772) (by decide +kernel), List.mem_of_getElem? (i := 907) (by decide +kernel), List.mem_of_getElem? (i := 908) (by decide +kernel)⟩
theorem lw_p15 : lw_okq (⟨"FieldBandModel", "tellsHere", "(ILjava/lang/String;)V"⟩, 24) := ⟨⟨by decide +kernel, by decide +kernel⟩, List.mem_of_getElem? (i := 772) (by decide +kernel), List.mem_of_getElem? (i := 914) (by decide +kernel), List.mem_of_getElem? (i := 915) (by decide +kernel)⟩
def lw_privs_1 : List (MethodName × Nat) := [(⟨"FieldBand", "held", "()LFieldBand$Show;"⟩, 8), (⟨"FieldBand", "isPlayer", "(I)Z"⟩, 8), (⟨"FieldBand", "listen", "()LFieldBand$Sound;"⟩, 8), (⟨"FieldBand", "findWay", "()I"⟩, 8), (⟨"FieldBandModel", "clauseHere", "()V"⟩, 24), (⟨"FieldBandModel", "here", "()I"⟩, 24), (⟨"FieldBandModel", "must", "(I)V"⟩, 24), (⟨"FieldBandModel", "much", "(ILjava/lang/String;)V"⟩, 24), (⟨"FieldBandModel", "spells", "(Ljava/lang/String;)V"⟩, 24), (⟨"FieldBandModel", "figures", "()I"⟩, 24), (⟨"FieldBandModel", "some", "()V"⟩, 24), (⟨"FieldBandModel", "every", "()V"⟩, 24), (⟨"FieldBandModel", "factor", "()V"⟩, 24), (⟨"FieldBandModel", "emits", "(I)V"⟩, 24), (⟨"FieldBandModel", "among", "(Ljava/lang/String;)I"⟩, 24), (⟨"FieldBandModel", "tellsHere", "(ILjava/lang/String;)V"⟩, 24)]
theorem lw_r1 : ∀ q ∈ lw_privs_1, lw_okq q := List.forall_mem_cons.mpr ⟨lw_p0, List.forall_mem_cons.mpr ⟨lw_p1, List.forall_mem_cons.mpr ⟨lw_p2, List.forall_mem_cons.mpr ⟨lw_p3, List.forall_mem_cons.mpr ⟨lw_p4, List.forall_mem_cons.mpr ⟨lw_p5, List.forall_mem_cons.mpr ⟨lw_p6, List.forall_mem_cons.mpr ⟨lw_p7, List.forall_mem_cons.mpr ⟨lw_p8, List.forall_mem_cons.mpr ⟨lw_p9, List.forall_mem_cons.mpr ⟨lw_p10, List.forall_mem_cons.mpr ⟨lw_p11, List.forall_mem_cons.mpr ⟨lw_p12, List.forall_mem_cons.mpr ⟨lw_p13, List.forall_mem_cons.mpr ⟨lw_p14, List.forall_mem_cons.mpr ⟨lw_p15, fun _ h => absurd h List.not_mem_nil⟩⟩⟩⟩⟩⟩⟩⟩⟩⟩⟩⟩⟩⟩⟩⟩
theorem lw_p16 : lw_okq (⟨"FieldBandModel", "speed", "()I"⟩, 24) := ⟨⟨by decide +kernel, by decide +kernel⟩, List.mem_of_getElem? (i := 772) (by decide +kernel), List.mem_of_getElem? (i := 924) (by decide +kernel), List.mem_of_getElem? (i := 925) (by decide +kernel)⟩
theorem lw_p17 : lw_okq (⟨"FieldBandModel", "tellsOf", "(II)I"⟩, 24) := ⟨⟨by decide +kernel, by decide +kernel⟩, List.mem_of_getElem? (i := 772) (by decide +kernel), List.mem_of_getElem? (i := 928) (by decide +kernel), List.mem_of_getElem? (i := 929) (by decide +kernel)⟩
theorem lw_p18 : lw_okq (⟨"FieldBandModel", "atLeastOne", "(I)I"⟩, 24) := ⟨⟨by decide +kernel, by decide +kernel⟩, List.mem_of_getElem? (i := 772) (by decide +kernel), List.mem_of_getElem? (i := 932) (by decide +kernel), List.mem_of_getElem? (i := 933) (by decide +kernel)⟩
theorem lw_p19 : lw_okq (⟨"FieldBandModel", "playerOn", "(I)I"⟩, 24) := ⟨⟨by decide +kernel, by decide +kernel⟩, List.mem_of_getElem? (i := 772) (by decide +kernel), List.mem_of_getElem? (i := 943) (by decide +kernel), List.mem_of_getElem? (i := 944) (by decide +kernel)⟩
theorem lw_p20 : lw_okq (⟨"FieldBandModel", "isPlayer", "(I)Z"⟩, 24) := ⟨⟨by decide +kernel, by decide +kernel⟩, List.mem_of_getElem? (i := 772) (by decide +kernel), List.mem_of_getElem? (i := 955) (by decide +kernel), List.mem_of_getElem? (i := 956) (by decide +kernel)⟩
theorem lw_p21 : lw_okq (⟨"FieldBandModel", "looks", "(II)V"⟩, 24) := ⟨⟨by decide +kernel, by decide +kernel⟩, List.mem_of_getElem? (i := 772) (by decide +kernel), List.mem_of_getElem? (i := 963) (by decide +kernel), List.mem_of_getElem? (i := 964) (by decide +kernel)⟩
theorem lw_p22 : lw_okq (⟨"FieldBandModel", "playsOf", "(I)I"⟩, 24) := ⟨⟨by decide +kernel, by decide +kernel⟩, List.mem_of_getElem? (i := 772) (by decide +kernel), List.mem_of_getElem? (i := 967) (by decide +kernel), List.mem_of_getElem? (i := 968) (by decide +kernel)⟩
theorem lw_p23 : lw_okq (⟨"FieldBandModel", "playsAs", "(II)I"⟩, 24) := ⟨⟨by decide +kernel, by decide +kernel⟩, List.mem_of_getElem? (i := 772) (by decide +kernel), List.mem_of_getElem? (i := 971) (by decide +kernel), List.mem_of_getElem? (i := 972) (by decide +kernel)⟩
theorem lw_p24 : lw_okq (⟨"FieldBandModel", "listening", "(I)I"⟩, 24) := ⟨⟨by decide +kernel, by decide +kernel⟩, List.mem_of_getElem? (i := 772) (by decide +kernel), List.mem_of_getElem? (i := 975) (by decide +kernel), List.mem_of_getElem? (i := 976) (by decide +kernel)⟩
theorem lw_p25 : lw_okq (⟨"FieldBandModel", "backward", "(I)I"⟩, 24) := ⟨⟨by decide +kernel, by decide +kernel⟩, List.mem_of_getElem? (i := 772) (by decide +kernel), List.mem_of_getElem? (i := 985) (by decide +kernel), List.mem_of_getElem? (i := 986) (by decide +kernel)⟩
theorem lw_p26 : lw_okq (⟨"FieldBandModel", "nearestInColumn", "(IZ)I"⟩, 24) := ⟨⟨by decide +kernel, by decide +kernel⟩, List.mem_of_getElem? (i := 772) (by decide +kernel), List.mem_of_getElem? (i := 989) (by decide +kernel), List.mem_of_getElem? (i := 990) (by decide +kernel)⟩
theorem lw_p27 : lw_okq (⟨"FieldBandModel", "heardFrom", "(II)I"⟩, 24) := ⟨⟨by decide +kernel, by decide +kernel⟩, List.mem_of_getElem? (i := 772) (by decide +kernel), List.mem_of_getElem? (i := 993) (by decide +kernel), List.mem_of_getElem? (i := 994) (by decide +kernel)⟩
theorem lw_p28 : lw_okq (⟨"FieldBandModel", "forward", "(I)I"⟩, 24) := ⟨⟨by decide +kernel, by decide +kernel⟩, List.mem_of_getElem? (i := 772) (by decide +kernel), List.mem_of_getElem? (i := 997) (by decide +kernel), List.mem_of_getElem? (i := 998) (by decide +kernel)⟩
theorem lw_p29 : lw_okq (⟨"FieldBandModel", "heardAt", "(II)I"⟩, 24) := ⟨⟨by decide +kernel, by decide +kernel⟩, List.mem_of_getElem? (i := 772) (by decide +kernel), List.mem_of_getElem? (i := 1008) (by decide +kernel), List.mem_of_getElem? (i := 1009) (by decide +kernel)⟩
theorem lw_p30 : lw_okq (⟨"FieldBandModel", "spreadAt", "(I)I"⟩, 24) := ⟨⟨by decide +kernel, by decide +kernel⟩, List.mem_of_getElem? (i := 772) (by decide +kernel), List.mem_of_getElem? (i := 1016) (by decide +kernel), List.mem_of_getElem? (i := 1017) (by decide +kernel)⟩
theorem lw_p31 : lw_okq (⟨"FieldBandModel", "together", "(II)I"⟩, 24) := ⟨⟨by decide +kernel, by decide +kernel⟩, List.mem_of_getElem? (i := 772) (by decide +kernel), List.mem_of_getElem? (i := 1020) (by decide +kernel), List.mem_of_getElem? (i := 1021) (by decide +kernel)⟩
def lw_privs_2 : List (MethodName × Nat) := [(⟨"FieldBandModel", "speed", "()I"⟩, 24), (⟨"FieldBandModel", "tellsOf", "(II)I"⟩, 24), (⟨"FieldBandModel", "atLeastOne", "(I)I"⟩, 24), (⟨"FieldBandModel", "playerOn", "(I)I"⟩, 24), (⟨"FieldBandModel", "isPlayer", "(I)Z"⟩, 24), (⟨"FieldBandModel", "looks", "(II)V"⟩, 24), (⟨"FieldBandModel", "playsOf", "(I)I"⟩, 24), (⟨"FieldBandModel", "playsAs", "(II)I"⟩, 24), (⟨"FieldBandModel", "listening", "(I)I"⟩, 24), (⟨"FieldBandModel", "backward", "(I)I"⟩, 24), (⟨"FieldBandModel", "nearestInColumn", "(IZ)I"⟩, 24), (⟨"FieldBandModel", "heardFrom", "(II)I"⟩, 24), (⟨"FieldBandModel", "forward", "(I)I"⟩, 24), (⟨"FieldBandModel", "heardAt", "(II)I"⟩, 24), (⟨"FieldBandModel", "spreadAt", "(I)I"⟩, 24), (⟨"FieldBandModel", "together", "(II)I"⟩, 24)]
theorem lw_r2 : ∀ q ∈ lw_privs_2, lw_okq q := List.forall_mem_cons.mpr ⟨lw_p16, List.forall_mem_cons.mpr ⟨lw_p17, List.forall_mem_cons.mpr ⟨lw_p18, List.forall_mem_cons.mpr ⟨lw_p19, List.forall_mem_cons.mpr ⟨lw_p20, List.forall_mem_cons.mpr ⟨lw_p21, List.forall_mem_cons.mpr ⟨lw_p22, List.forall_mem_cons.mpr ⟨lw_p23, List.forall_mem_cons.mpr ⟨lw_p24, List.forall_mem_cons.mpr ⟨lw_p25, List.forall_mem_cons.mpr ⟨lw_p26, List.forall_mem_cons.mpr ⟨lw_p27, List.forall_mem_cons.mpr ⟨lw_p28, List.forall_mem_cons.mpr ⟨lw_p29, List.forall_mem_cons.mpr ⟨lw_p30, List.forall_mem_cons.mpr ⟨lw_p31, fun _ h => absurd h List.not_mem_nil⟩⟩⟩⟩⟩⟩⟩⟩⟩⟩⟩⟩⟩⟩⟩⟩
theorem lw_p32 : lw_okq (⟨"FieldBandModel", "loudOf", "(I)I"⟩, 24) := ⟨⟨by decide +kernel, by decide +kernel⟩, List.mem_of_getElem? (i := 772) (by decide +kernel), List.mem_of_getElem? (i := 1024) (by decide +kernel), List.mem_of_getElem? (i := 1025) (by decide +kernel)⟩
theorem lw_p33 : lw_okq (⟨"FieldBandModel", "allSpreads", "()I"⟩, 24) := ⟨⟨by decide +kernel, by decide +kernel⟩, List.mem_of_getElem? (i := 772) (by decide +kernel), List.mem_of_getElem? (i := 1036) (by decide +kernel), List.mem_of_getElem? (i := 1037) (by decide +kernel)⟩
theorem lw_p34 : lw_okq (⟨"FieldBandModel", "looksForWay", "()I"⟩, 24) := ⟨⟨by decide +kernel, by decide +kernel⟩, List.mem_of_getElem? (i := 772) (by decide +kernel), List.mem_of_getElem? (i := 1057) (by decide +kernel), List.mem_of_getElem? (i := 1058) (by decide +kernel)⟩
theorem lw_p35 : lw_okq (⟨"FieldBandModel", "isTooFew", "()Z"⟩, 24) := ⟨⟨by decide +kernel, by decide +kernel⟩, List.mem_of_getElem? (i := 772) (by decide +kernel), List.mem_of_getElem? (i := 1061) (by decide +kernel), List.mem_of_getElem? (i := 1062) (by decide +kernel)⟩
theorem lw_p36 : lw_okq (⟨"FieldBandModel", "rowsFrom", "(IIII)V"⟩, 24) := ⟨⟨by decide +kernel, by decide +kernel⟩, List.mem_of_getElem? (i := 772) (by decide +kernel), List.mem_of_getElem? (i := 1065) (by decide +kernel), List.mem_of_getElem? (i := 1066) (by decide +kernel)⟩
theorem lw_p37 : lw_okq (⟨"FieldBandModel", "farTo", "(II)I"⟩, 24) := ⟨⟨by decide +kernel, by decide +kernel⟩, List.mem_of_getElem? (i := 772) (by decide +kernel), List.mem_of_getElem? (i := 1069) (by decide +kernel), List.mem_of_getElem? (i := 1070) (by decide +kernel)⟩
theorem lw_p38 : lw_okq (⟨"FieldBandModel", "goesActs", "(I)I"⟩, 24) := ⟨⟨by decide +kernel, by decide +kernel⟩, List.mem_of_getElem? (i := 772) (by decide +kernel), List.mem_of_getElem? (i := 1109) (by decide +kernel), List.mem_of_getElem? (i := 1110) (by decide +kernel)⟩
theorem lw_p39 : lw_okq (⟨"FieldBandModel", "runs", "(I)V"⟩, 24) := ⟨⟨by decide +kernel, by decide +kernel⟩, List.mem_of_getElem? (i := 772) (by decide +kernel), List.mem_of_getElem? (i := 1116) (by decide +kernel), List.mem_of_getElem? (i := 1117) (by decide +kernel)⟩
theorem lw_p40 : lw_okq (⟨"FieldBandModel", "plainGoes", "(I)I"⟩, 24) := ⟨⟨by decide +kernel, by decide +kernel⟩, List.mem_of_getElem? (i := 772) (by decide +kernel), List.mem_of_getElem? (i := 1120) (by decide +kernel), List.mem_of_getElem? (i := 1121) (by decide +kernel)⟩
theorem lw_p41 : lw_okq (⟨"FieldBandModel", "playsActs", "(I)I"⟩, 24) := ⟨⟨by decide +kernel, by decide +kernel⟩, List.mem_of_getElem? (i := 772) (by decide +kernel), List.mem_of_getElem? (i := 1124) (by decide +kernel), List.mem_of_getElem? (i := 1125) (by decide +kernel)⟩
theorem lw_p42 : lw_okq (⟨"FieldBandModel", "plainPlays", "(I)I"⟩, 24) := ⟨⟨by decide +kernel, by decide +kernel⟩, List.mem_of_getElem? (i := 772) (by decide +kernel), List.mem_of_getElem? (i := 1128) (by decide +kernel), List.mem_of_getElem? (i := 1129) (by decide +kernel)⟩
theorem lw_p43 : lw_okq (⟨"FieldBandModel", "fitsActs", "(I)I"⟩, 24) := ⟨⟨by decide +kernel, by decide +kernel⟩, List.mem_of_getElem? (i := 772) (by decide +kernel), List.mem_of_getElem? (i := 1132) (by decide +kernel), List.mem_of_getElem? (i := 1133) (by decide +kernel)⟩
theorem lw_p44 : lw_okq (⟨"FieldBandModel", "plainFits", "(I)I"⟩, 24) := ⟨⟨by decide +kernel, by decide +kernel⟩, List.mem_of_getElem? (i := 772) (by decide +kernel), List.mem_of_getElem? (i := 1136) (by decide +kernel), List.mem_of_getElem? (i := 1137) (by decide +kernel)⟩
def lw_privs_3 : List (MethodName × Nat) := [(⟨"FieldBandModel", "loudOf", "(I)I"⟩, 24), (⟨"FieldBandModel", "allSpreads", "()I"⟩, 24), (⟨"FieldBandModel", "looksForWay", "()I"⟩, 24), (⟨"FieldBandModel", "isTooFew", "()Z"⟩, 24), (⟨"FieldBandModel", "rowsFrom", "(IIII)V"⟩, 24), (⟨"FieldBandModel", "farTo", "(II)I"⟩, 24), (⟨"FieldBandModel", "goesActs", "(I)I"⟩, 24), (⟨"FieldBandModel", "runs", "(I)V"⟩, 24), (⟨"FieldBandModel", "plainGoes", "(I)I"⟩, 24), (⟨"FieldBandModel", "playsActs", "(I)I"⟩, 24), (⟨"FieldBandModel", "plainPlays", "(I)I"⟩, 24), (⟨"FieldBandModel", "fitsActs", "(I)I"⟩, 24), (⟨"FieldBandModel", "plainFits", "(I)I"⟩, 24)]
theorem lw_r3 : ∀ q ∈ lw_privs_3, lw_okq q := List.forall_mem_cons.mpr ⟨lw_p32, List.forall_mem_cons.mpr ⟨lw_p33, List.forall_mem_cons.mpr ⟨lw_p34, List.forall_mem_cons.mpr ⟨lw_p35, List.forall_mem_cons.mpr ⟨lw_p36, List.forall_mem_cons.mpr ⟨lw_p37, List.forall_mem_cons.mpr ⟨lw_p38, List.forall_mem_cons.mpr ⟨lw_p39, List.forall_mem_cons.mpr ⟨lw_p40, List.forall_mem_cons.mpr ⟨lw_p41, List.forall_mem_cons.mpr ⟨lw_p42, List.forall_mem_cons.mpr ⟨lw_p43, List.forall_mem_cons.mpr ⟨lw_p44, fun _ h => absurd h List.not_mem_nil⟩⟩⟩⟩⟩⟩⟩⟩⟩⟩⟩⟩⟩
def lw_privs : List (MethodName × Nat) := lw_privs_1 ++ (lw_privs_2 ++ (lw_privs_3))
def lw_tbl : List Cond := k2_sels lw_privs ++ tables_1
theorem lw_privs_ok : ∀ q ∈ lw_privs, lw_okq q := by
  show ∀ q ∈ lw_privs_1 ++ (lw_privs_2 ++ (lw_privs_3)), lw_okq q
  exact List.forall_mem_append.mpr ⟨lw_r1, List.forall_mem_append.mpr ⟨lw_r2, lw_r3⟩⟩
theorem goodIn_r {big : List Cond} (ws : List Cond) (ps : List Nat) (hp : ws = ps.filterMap (fun i => big[i]?)) (h : ws.all goodWord = true) : GoodIn big ws := by
  intro w hw
  have h1 := List.all_eq_true.mp h w hw
  rw [hp] at hw
  obtain ⟨i, -, hi⟩ := List.mem_filterMap.mp hw
  have hm : w ∈ big := by first | exact List.mem_of_getElem? hi | exact List.getElem?_mem hi
  exact ⟨hm, good_of_word h1⟩
theorem goodIn_app {big a b : List Cond} (ha : GoodIn big a) (hb : GoodIn big b) : GoodIn big (a ++ b) := fun w h => (List.mem_append.mp h).elim (ha w) (hb w)
theorem goodIn_ca {big a b : List Cond} {c : Cond} (ha : GoodIn big (c :: a)) (hb : GoodIn big b) : GoodIn big (c :: (a ++ b)) := fun w h => (List.mem_cons.mp h).elim (fun e => ha w (List.mem_cons.mpr (Or.inl e))) (fun h => (List.mem_append.mp h).elim (fun h => ha w (List.mem_cons.mpr (Or.inr h))) (hb w))
theorem goodIn_sub {big ws : List Cond} (hm : ∀ w ∈ ws, w ∈ big) (h : ws.all goodWord = true) : GoodIn big ws := fun w hw => ⟨hm w hw, good_of_word (List.all_eq_true.mp h w hw)⟩
def RX0 : String := "FieldBand$Deed"
def TX0 : u_T := fun k => match k with
  | 0 => ("FieldBand$Deed", "kind", "I", false)
  | 1 => ("FieldBand$Deed", "number", "I", false)
  | 2 => ("FieldBand$Deed", "v", "I", false)
  | 3 => ("FieldBand$Deed", "ran", "I", false)
  | _ => ("FieldBand$Deed", "bodies", "[I", true)
def tyX0 : Nat → FieldType := fun k => match k with
  | 0 => .int
  | 1 => .int
  | 2 => .int
  | 3 => .int
  | _ => .array .int
abbrev wsX00 : List Cond := u_ws RX0 TX0 5
theorem nmX0 : ∀ a, a < 5 → ∀ b, b < 5 → a ≠ b → (TX0 a).2.1 ≠ (TX0 b).2.1 := by decide +kernel
theorem tyX0_ok : ∀ k, k < 5 → parseFieldDescriptor (TX0 k).2.2.1 = some (tyX0 k) := by decide +kernel
abbrev cX0_init : ByteArray := prog_2_method_1_code
def yX0_init : MethodName := ⟨RX0, "<init>", "()V"⟩
abbrev cX0_runFrom : ByteArray := prog_2_method_2_code
def yX0_runFrom : MethodName := ⟨RX0, "runFrom", "(IIII)I"⟩
abbrev cX0_bodyOf : ByteArray := prog_2_method_3_code
def yX0_bodyOf : MethodName := ⟨RX0, "bodyOf", "(II)I"⟩
abbrev cX0_begin : ByteArray := prog_2_method_4_code
def yX0_begin : MethodName := ⟨RX0, "begin", "(I)V"⟩
abbrev cX0_runBody : ByteArray := prog_2_method_5_code
def yX0_runBody : MethodName := ⟨RX0, "runBody", "(IIII)I"⟩
def RX1 : String := "FieldBand$Field"
def TX1 : u_T := fun k => match k with
  | 0 => ("FieldBand$Field", "players", "I", false)
  | 1 => ("FieldBand$Field", "kind", "[I", true)
  | 2 => ("FieldBand$Field", "v", "[I", true)
  | 3 => ("FieldBand$Field", "dot", "[I", true)
  | 4 => ("FieldBand$Field", "drum", "I", false)
  | 5 => ("FieldBand$Field", "formed", "I", false)
  | 6 => ("FieldBand$Field", "form", "[I", true)
  | 7 => ("FieldBand$Field", "filmed", "I", false)
  | 8 => ("FieldBand$Field", "film", "[I", true)
  | 9 => ("FieldBand$Field", "bytes", "I", false)
  | 10 => ("FieldBand$Field", "tape", "[B", true)
  | _ => ("FieldBand$Field", "shows", "I", false)
def tyX1 : Nat → FieldType := fun k => match k with
  | 0 => .int
  | 1 => .array .int
  | 2 => .array .int
  | 3 => .array .int
  | 4 => .int
  | 5 => .int
  | 6 => .array .int
  | 7 => .int
  | 8 => .array .int
  | 9 => .int
  | 10 => .array .byte
  | _ => .int
abbrev wsX10 : List Cond := u_ws RX1 TX1 12
theorem nmX1 : ∀ a, a < 12 → ∀ b, b < 12 → a ≠ b → (TX1 a).2.1 ≠ (TX1 b).2.1 := by decide +kernel
theorem tyX1_ok : ∀ k, k < 12 → parseFieldDescriptor (TX1 k).2.2.1 = some (tyX1 k) := by decide +kernel
abbrev cX1_init : ByteArray := prog_3_method_1_code
def yX1_init : MethodName := ⟨RX1, "<init>", "()V"⟩
abbrev cX1_takeOver : ByteArray := prog_3_method_2_code
def yX1_takeOver : MethodName := ⟨RX1, "takeOver", "(LFieldBand$Field;)V"⟩
abbrev cX1_playerOn : ByteArray := prog_3_method_3_code
def yX1_playerOn : MethodName := ⟨RX1, "playerOn", "(I)I"⟩
abbrev cX1_isInForm : ByteArray := prog_3_method_4_code
def yX1_isInForm : MethodName := ⟨RX1, "isInForm", "(I)Z"⟩
abbrev cX1_hasTooFewDots : ByteArray := prog_3_method_5_code
def yX1_hasTooFewDots : MethodName := ⟨RX1, "hasTooFewDots", "()Z"⟩
abbrev cX1_meetHalfWay : ByteArray := prog_3_method_6_code
def yX1_meetHalfWay : MethodName := ⟨RX1, "meetHalfWay", "(II)Z"⟩
def RX2 : String := "FieldBand$Reader"
def TX2 : u_T := fun k => match k with
  | 0 => ("FieldBand$Reader", "field", "LFieldBand$Field;", true)
  | 1 => ("FieldBand$Reader", "show", "LFieldBand$Show;", false)
  | _ => ("FieldBand$Reader", "at", "I", false)
def tyX2 : Nat → FieldType := fun k => match k with
  | 0 => .object "FieldBand$Field"
  | 1 => .object "FieldBand$Show"
  | _ => .int
abbrev wsX20 : List Cond := u_ws RX2 TX2 3
theorem nmX2 : ∀ a, a < 3 → ∀ b, b < 3 → a ≠ b → (TX2 a).2.1 ≠ (TX2 b).2.1 := by decide +kernel
theorem tyX2_ok : ∀ k, k < 3 → parseFieldDescriptor (TX2 k).2.2.1 = some (tyX2 k) := by decide +kernel
abbrev cX2_init : ByteArray := prog_4_method_1_code
def yX2_init : MethodName := ⟨RX2, "<init>", "(LFieldBand$Field;LFieldBand$Show;)V"⟩
abbrev cX2_readInto : ByteArray := prog_4_method_2_code
def yX2_readInto : MethodName := ⟨RX2, "readInto", "(LFieldBand$Show;)I"⟩
abbrev cX2_readClause : ByteArray := prog_4_method_3_code
def yX2_readClause : MethodName := ⟨RX2, "readClause", "()Z"⟩
abbrev cX2_readWord : ByteArray := prog_4_method_4_code
def yX2_readWord : MethodName := ⟨RX2, "readWord", "()I"⟩
abbrev cX2_textOf : ByteArray := prog_4_method_5_code
def yX2_textOf : MethodName := ⟨RX2, "textOf", "(I)Ljava/lang/String;"⟩
abbrev cX2_sameSigns : ByteArray := prog_4_method_6_code
def yX2_sameSigns : MethodName := ⟨RX2, "sameSigns", "(Ljava/lang/String;)I"⟩
abbrev cX2_readEither : ByteArray := prog_4_method_7_code
def yX2_readEither : MethodName := ⟨RX2, "readEither", "(I)Z"⟩
abbrev cX2_readBoth : ByteArray := prog_4_method_8_code
def yX2_readBoth : MethodName := ⟨RX2, "readBoth", "(I)Z"⟩
abbrev cX2_readFactor : ByteArray := prog_4_method_9_code
def yX2_readFactor : MethodName := ⟨RX2, "readFactor", "(I)Z"⟩
abbrev cX2_readTest : ByteArray := prog_4_method_10_code
def yX2_readTest : MethodName := ⟨RX2, "readTest", "()Z"⟩
abbrev cX2_readNumber : ByteArray := prog_4_method_11_code
def yX2_readNumber : MethodName := ⟨RX2, "readNumber", "()I"⟩
abbrev cX2_take : ByteArray := prog_4_method_12_code
def yX2_take : MethodName := ⟨RX2, "take", "(Ljava/lang/String;)Z"⟩
abbrev cX2_takeOneOf : ByteArray := prog_4_method_13_code
def yX2_takeOneOf : MethodName := ⟨RX2, "takeOneOf", "(Ljava/lang/String;)I"⟩
def RX3 : String := "FieldBand$Show"
def TX3 : u_T := fun k => match k with
  | 0 => ("FieldBand$Show", "speed", "I", false)
  | 1 => ("FieldBand$Show", "beat", "I", false)
  | 2 => ("FieldBand$Show", "step", "I", false)
  | 3 => ("FieldBand$Show", "clauses", "I", false)
  | 4 => ("FieldBand$Show", "word", "[I", true)
  | 5 => ("FieldBand$Show", "amount", "[I", true)
  | 6 => ("FieldBand$Show", "start", "[I", true)
  | 7 => ("FieldBand$Show", "end", "[I", true)
  | 8 => ("FieldBand$Show", "used", "I", false)
  | _ => ("FieldBand$Show", "code", "[I", true)
def tyX3 : Nat → FieldType := fun k => match k with
  | 0 => .int
  | 1 => .int
  | 2 => .int
  | 3 => .int
  | 4 => .array .int
  | 5 => .array .int
  | 6 => .array .int
  | 7 => .array .int
  | 8 => .int
  | _ => .array .int
abbrev wsX30 : List Cond := u_ws RX3 TX3 10
theorem nmX3 : ∀ a, a < 10 → ∀ b, b < 10 → a ≠ b → (TX3 a).2.1 ≠ (TX3 b).2.1 := by decide +kernel
theorem tyX3_ok : ∀ k, k < 10 → parseFieldDescriptor (TX3 k).2.2.1 = some (tyX3 k) := by decide +kernel
abbrev cX3_init : ByteArray := prog_5_method_1_code
def yX3_init : MethodName := ⟨RX3, "<init>", "()V"⟩
abbrev cX3_clear : ByteArray := prog_5_method_2_code
def yX3_clear : MethodName := ⟨RX3, "clear", "()V"⟩
abbrev cX3_write : ByteArray := prog_5_method_3_code
def yX3_write : MethodName := ⟨RX3, "write", "(I)V"⟩
abbrev cX3_addClause : ByteArray := prog_5_method_4_code
def yX3_addClause : MethodName := ⟨RX3, "addClause", "(III)V"⟩
abbrev cX3_sumOf : ByteArray := prog_5_method_5_code
def yX3_sumOf : MethodName := ⟨RX3, "sumOf", "(I[I)I"⟩
abbrev cX3_holds : ByteArray := prog_5_method_6_code
def yX3_holds : MethodName := ⟨RX3, "holds", "(II[I)Z"⟩
abbrev cX3_codeOfTest : ByteArray := prog_5_method_7_code
def yX3_codeOfTest : MethodName := ⟨RX3, "codeOfTest", "(III)I"⟩
abbrev cX3_passes : ByteArray := prog_5_method_8_code
def yX3_passes : MethodName := ⟨RX3, "passes", "(I[I)Z"⟩
def RX4 : String := "FieldBand$Sound"
def TX4 : u_T := fun k => match k with
  | 0 => ("FieldBand$Sound", "field", "LFieldBand$Field;", true)
  | 1 => ("FieldBand$Sound", "show", "LFieldBand$Show;", false)
  | 2 => ("FieldBand$Sound", "drum", "I", false)
  | 3 => ("FieldBand$Sound", "absent", "I", false)
  | 4 => ("FieldBand$Sound", "kind", "[I", true)
  | 5 => ("FieldBand$Sound", "slip", "[I", true)
  | 6 => ("FieldBand$Sound", "source", "[I", true)
  | 7 => ("FieldBand$Sound", "plays", "[I", true)
  | _ => ("FieldBand$Sound", "about", "[I", true)
def tyX4 : Nat → FieldType := fun k => match k with
  | 0 => .object "FieldBand$Field"
  | 1 => .object "FieldBand$Show"
  | 2 => .int
  | 3 => .int
  | 4 => .array .int
  | 5 => .array .int
  | 6 => .array .int
  | 7 => .array .int
  | _ => .array .int
abbrev wsX40 : List Cond := u_ws RX4 TX4 9
theorem nmX4 : ∀ a, a < 9 → ∀ b, b < 9 → a ≠ b → (TX4 a).2.1 ≠ (TX4 b).2.1 := by decide +kernel
theorem tyX4_ok : ∀ k, k < 9 → parseFieldDescriptor (TX4 k).2.2.1 = some (tyX4 k) := by decide +kernel
abbrev cX4_init : ByteArray := prog_6_method_1_code
def yX4_init : MethodName := ⟨RX4, "<init>", "(LFieldBand$Field;LFieldBand$Show;)V"⟩
abbrev cX4_hearAll : ByteArray := prog_6_method_2_code
def yX4_hearAll : MethodName := ⟨RX4, "hearAll", "(LFieldBand$Show;)V"⟩
abbrev cX4_slipAll : ByteArray := prog_6_method_3_code
def yX4_slipAll : MethodName := ⟨RX4, "slipAll", "()V"⟩
abbrev cX4_arrange : ByteArray := prog_6_method_4_code
def yX4_arrange : MethodName := ⟨RX4, "arrange", "()V"⟩
abbrev cX4_playAll : ByteArray := prog_6_method_5_code
def yX4_playAll : MethodName := ⟨RX4, "playAll", "()V"⟩
abbrev cX4_loudness : ByteArray := prog_6_method_6_code
def yX4_loudness : MethodName := ⟨RX4, "loudness", "(I)I"⟩
abbrev cX4_sumFor : ByteArray := prog_6_method_7_code
def yX4_sumFor : MethodName := ⟨RX4, "sumFor", "(II)I"⟩
abbrev cX4_sourceOf : ByteArray := prog_6_method_8_code
def yX4_sourceOf : MethodName := ⟨RX4, "sourceOf", "(I)I"⟩
abbrev cX4_nearestInColumn : ByteArray := prog_6_method_9_code
def yX4_nearestInColumn : MethodName := ⟨RX4, "nearestInColumn", "(II)I"⟩
abbrev cX4_playedBy : ByteArray := prog_6_method_10_code
def yX4_playedBy : MethodName := ⟨RX4, "playedBy", "(I)I"⟩
abbrev cX4_ownMore : ByteArray := prog_6_method_11_code
def yX4_ownMore : MethodName := ⟨RX4, "ownMore", "(I)I"⟩
abbrev cX4_arrival : ByteArray := prog_6_method_12_code
def yX4_arrival : MethodName := ⟨RX4, "arrival", "(II)I"⟩
abbrev cX4_earliest : ByteArray := prog_6_method_13_code
def yX4_earliest : MethodName := ⟨RX4, "earliest", "(I)I"⟩
abbrev cX4_spreadAt : ByteArray := prog_6_method_14_code
def yX4_spreadAt : MethodName := ⟨RX4, "spreadAt", "(I)I"⟩
abbrev cX4_sumOfSpreads : ByteArray := prog_6_method_15_code
def yX4_sumOfSpreads : MethodName := ⟨RX4, "sumOfSpreads", "()I"⟩
abbrev cX4_sumWithDrumOn : ByteArray := prog_6_method_16_code
def yX4_sumWithDrumOn : MethodName := ⟨RX4, "sumWithDrumOn", "(I)I"⟩
abbrev cX4_sumWithout : ByteArray := prog_6_method_17_code
def yX4_sumWithout : MethodName := ⟨RX4, "sumWithout", "(I)I"⟩
abbrev cX4_arrivalAsKind : ByteArray := prog_6_method_18_code
def yX4_arrivalAsKind : MethodName := ⟨RX4, "arrivalAsKind", "(III)I"⟩
abbrev cX4_loudTogether : ByteArray := prog_6_method_19_code
def yX4_loudTogether : MethodName := ⟨RX4, "loudTogether", "(II)I"⟩
abbrev cX4_likeDrum : ByteArray := prog_6_method_20_code
def yX4_likeDrum : MethodName := ⟨RX4, "likeDrum", "(II)I"⟩
def RX5 : String := "FieldBand$Ways"
def TX5 : u_T := fun k => match k with
  | 0 => ("FieldBand$Ways", "field", "LFieldBand$Field;", true)
  | 1 => ("FieldBand$Ways", "row", "[I", true)
  | 2 => ("FieldBand$Ways", "best", "[I", true)
  | 3 => ("FieldBand$Ways", "greatest", "I", false)
  | _ => ("FieldBand$Ways", "sum", "I", false)
def tyX5 : Nat → FieldType := fun k => match k with
  | 0 => .object "FieldBand$Field"
  | 1 => .array .int
  | 2 => .array .int
  | 3 => .int
  | _ => .int
abbrev wsX50 : List Cond := u_ws RX5 TX5 5
theorem nmX5 : ∀ a, a < 5 → ∀ b, b < 5 → a ≠ b → (TX5 a).2.1 ≠ (TX5 b).2.1 := by decide +kernel
theorem tyX5_ok : ∀ k, k < 5 → parseFieldDescriptor (TX5 k).2.2.1 = some (tyX5 k) := by decide +kernel
abbrev cX5_init : ByteArray := prog_7_method_1_code
def yX5_init : MethodName := ⟨RX5, "<init>", "(LFieldBand$Field;)V"⟩
abbrev cX5_find : ByteArray := prog_7_method_2_code
def yX5_find : MethodName := ⟨RX5, "find", "()V"⟩
abbrev cX5_tryPlaces : ByteArray := prog_7_method_3_code
def yX5_tryPlaces : MethodName := ⟨RX5, "tryPlaces", "(IIII)V"⟩
abbrev cX5_isBetter : ByteArray := prog_7_method_4_code
def yX5_isBetter : MethodName := ⟨RX5, "isBetter", "(II)Z"⟩
def RX6 : String := "FieldBand"
def TX6 : u_T := fun k => match k with
  | 0 => ("FieldBand", "now", "LFieldBand$Field;", true)
  | 1 => ("FieldBand", "kept", "LFieldBand$Field;", true)
  | 2 => ("FieldBand", "isKept", "Z", false)
  | 3 => ("FieldBand", "shows", "[LFieldBand$Show;", true)
  | 4 => ("FieldBand", "reader", "LFieldBand$Reader;", true)
  | 5 => ("FieldBand", "sound", "LFieldBand$Sound;", true)
  | 6 => ("FieldBand", "ways", "LFieldBand$Ways;", true)
  | _ => ("FieldBand", "deed", "LFieldBand$Deed;", true)
def tyX6 : Nat → FieldType := fun k => match k with
  | 0 => .object "FieldBand$Field"
  | 1 => .object "FieldBand$Field"
  | 2 => .boolean
  | 3 => .array (.object "FieldBand$Show")
  | 4 => .object "FieldBand$Reader"
  | 5 => .object "FieldBand$Sound"
  | 6 => .object "FieldBand$Ways"
  | _ => .object "FieldBand$Deed"
abbrev wsX60 : List Cond := u_ws RX6 TX6 8
theorem nmX6 : ∀ a, a < 8 → ∀ b, b < 8 → a ≠ b → (TX6 a).2.1 ≠ (TX6 b).2.1 := by decide +kernel
theorem tyX6_ok : ∀ k, k < 8 → parseFieldDescriptor (TX6 k).2.2.1 = some (tyX6 k) := by decide +kernel
abbrev cX6_init : ByteArray := prog_1_method_1_code
def yX6_init : MethodName := ⟨RX6, "<init>", "()V"⟩
abbrev cX6_feed : ByteArray := prog_1_method_2_code
def yX6_feed : MethodName := ⟨RX6, "feed", "(JI)I"⟩
abbrev cX6_show : ByteArray := prog_1_method_3_code
def yX6_show : MethodName := ⟨RX6, "show", "()I"⟩
abbrev cX6_told : ByteArray := prog_1_method_4_code
def yX6_told : MethodName := ⟨RX6, "told", "(I)I"⟩
abbrev cX6_player : ByteArray := prog_1_method_5_code
def yX6_player : MethodName := ⟨RX6, "player", "(III)I"⟩
abbrev cX6_of : ByteArray := prog_1_method_6_code
def yX6_of : MethodName := ⟨RX6, "of", "(II)I"⟩
abbrev cX6_drum : ByteArray := prog_1_method_7_code
def yX6_drum : MethodName := ⟨RX6, "drum", "(I)I"⟩
abbrev cX6_put : ByteArray := prog_1_method_8_code
def yX6_put : MethodName := ⟨RX6, "put", "(II)I"⟩
abbrev cX6_heard : ByteArray := prog_1_method_9_code
def yX6_heard : MethodName := ⟨RX6, "heard", "(II)I"⟩
abbrev cX6_spread : ByteArray := prog_1_method_10_code
def yX6_spread : MethodName := ⟨RX6, "spread", "(II)I"⟩
abbrev cX6_back : ByteArray := prog_1_method_11_code
def yX6_back : MethodName := ⟨RX6, "back", "(II)I"⟩
abbrev cX6_best : ByteArray := prog_1_method_12_code
def yX6_best : MethodName := ⟨RX6, "best", "(I)I"⟩
abbrev cX6_early : ByteArray := prog_1_method_13_code
def yX6_early : MethodName := ⟨RX6, "early", "(II)I"⟩
abbrev cX6_beats : ByteArray := prog_1_method_14_code
def yX6_beats : MethodName := ⟨RX6, "beats", "(I)I"⟩
abbrev cX6_form : ByteArray := prog_1_method_15_code
def yX6_form : MethodName := ⟨RX6, "form", "(I)I"⟩
abbrev cX6_way : ByteArray := prog_1_method_16_code
def yX6_way : MethodName := ⟨RX6, "way", "(I)I"⟩
abbrev cX6_counts : ByteArray := prog_1_method_17_code
def yX6_counts : MethodName := ⟨RX6, "counts", "()I"⟩
abbrev cX6_meet : ByteArray := prog_1_method_18_code
def yX6_meet : MethodName := ⟨RX6, "meet", "()I"⟩
abbrev cX6_hard : ByteArray := prog_1_method_19_code
def yX6_hard : MethodName := ⟨RX6, "hard", "(I)I"⟩
abbrev cX6_march : ByteArray := prog_1_method_20_code
def yX6_march : MethodName := ⟨RX6, "march", "()I"⟩
abbrev cX6_seen : ByteArray := prog_1_method_21_code
def yX6_seen : MethodName := ⟨RX6, "seen", "(I)I"⟩
abbrev cX6_off : ByteArray := prog_1_method_22_code
def yX6_off : MethodName := ⟨RX6, "off", "(I)I"⟩
abbrev cX6_whom : ByteArray := prog_1_method_23_code
def yX6_whom : MethodName := ⟨RX6, "whom", "(III)I"⟩
abbrev cX6_out : ByteArray := prog_1_method_24_code
def yX6_out : MethodName := ⟨RX6, "out", "()I"⟩
abbrev cX6_act : ByteArray := prog_1_method_25_code
def yX6_act : MethodName := ⟨RX6, "act", "(III)I"⟩
abbrev cX6_trace : ByteArray := prog_1_method_26_code
def yX6_trace : MethodName := ⟨RX6, "trace", "(I)I"⟩
abbrev cX6_as : ByteArray := prog_1_method_27_code
def yX6_as : MethodName := ⟨RX6, "as", "(II)I"⟩
abbrev cX6_image : ByteArray := prog_1_method_28_code
def yX6_image : MethodName := ⟨RX6, "image", "()I"⟩
abbrev cX6_undo : ByteArray := prog_1_method_29_code
def yX6_undo : MethodName := ⟨RX6, "undo", "()I"⟩
abbrev cX6_count : ByteArray := prog_1_method_30_code
def yX6_count : MethodName := ⟨RX6, "count", "(I)I"⟩
abbrev cX6_isPlayer : ByteArray := prog_1_method_31_code
def yX6_isPlayer : MethodName := ⟨RX6, "isPlayer", "(I)Z"⟩
abbrev cX6_held : ByteArray := prog_1_method_32_code
def yX6_held : MethodName := ⟨RX6, "held", "()LFieldBand$Show;"⟩
abbrev cX6_listen : ByteArray := prog_1_method_33_code
def yX6_listen : MethodName := ⟨RX6, "listen", "()LFieldBand$Sound;"⟩
abbrev cX6_findWay : ByteArray := prog_1_method_34_code
def yX6_findWay : MethodName := ⟨RX6, "findWay", "()I"⟩
abbrev cX6_isBelow : ByteArray := prog_1_method_35_code
def yX6_isBelow : MethodName := ⟨RX6, "isBelow", "(II)Z"⟩
abbrev cX6_rowOf : ByteArray := prog_1_method_36_code
def yX6_rowOf : MethodName := ⟨RX6, "rowOf", "(I)I"⟩
abbrev cX6_columnOf : ByteArray := prog_1_method_37_code
def yX6_columnOf : MethodName := ⟨RX6, "columnOf", "(I)I"⟩
abbrev cX6_placeOfSeat : ByteArray := prog_1_method_38_code
def yX6_placeOfSeat : MethodName := ⟨RX6, "placeOfSeat", "(I)I"⟩
abbrev cX6_far : ByteArray := prog_1_method_39_code
def yX6_far : MethodName := ⟨RX6, "far", "(II)I"⟩
abbrev cX6_isUnder : ByteArray := prog_1_method_40_code
def yX6_isUnder : MethodName := ⟨RX6, "isUnder", "(II)Z"⟩
def RX7 : String := "FieldBandModel"
def TX7 : u_T := fun k => match k with
  | 0 => ("FieldBandModel", "thrown", "I", false)
  | 1 => ("FieldBandModel", "s", "[I", true)
  | 2 => ("FieldBandModel", "image", "[I", true)
  | 3 => ("FieldBandModel", "hasImage", "Z", false)
  | 4 => ("FieldBandModel", "act", "I", false)
  | 5 => ("FieldBandModel", "spot", "I", false)
  | 6 => ("FieldBandModel", "end", "I", false)
  | 7 => ("FieldBandModel", "isWrong", "Z", false)
  | 8 => ("FieldBandModel", "open", "I", false)
  | 9 => ("FieldBandModel", "by", "[I", true)
  | 10 => ("FieldBandModel", "truths", "[Z", true)
  | 11 => ("FieldBandModel", "loud", "I", false)
  | 12 => ("FieldBandModel", "slip", "I", false)
  | 13 => ("FieldBandModel", "without", "I", false)
  | 14 => ("FieldBandModel", "earliest", "I", false)
  | 15 => ("FieldBandModel", "goes", "[I", true)
  | 16 => ("FieldBandModel", "bestGoes", "[I", true)
  | 17 => ("FieldBandModel", "greatest", "I", false)
  | 18 => ("FieldBandModel", "sum", "I", false)
  | 19 => ("FieldBandModel", "bodies", "[I", true)
  | 20 => ("FieldBandModel", "ran", "I", false)
  | 21 => ("FieldBandModel", "kindNow", "I", false)
  | 22 => ("FieldBandModel", "number", "I", false)
  | _ => ("FieldBandModel", "tellsV", "I", false)
def tyX7 : Nat → FieldType := fun k => match k with
  | 0 => .int
  | 1 => .array .int
  | 2 => .array .int
  | 3 => .boolean
  | 4 => .int
  | 5 => .int
  | 6 => .int
  | 7 => .boolean
  | 8 => .int
  | 9 => .array .int
  | 10 => .array .boolean
  | 11 => .int
  | 12 => .int
  | 13 => .int
  | 14 => .int
  | 15 => .array .int
  | 16 => .array .int
  | 17 => .int
  | 18 => .int
  | 19 => .array .int
  | 20 => .int
  | 21 => .int
  | 22 => .int
  | _ => .int
abbrev wsX70 : List Cond := u_ws RX7 TX7 24
theorem nmX7 : ∀ a, a < 24 → ∀ b, b < 24 → a ≠ b → (TX7 a).2.1 ≠ (TX7 b).2.1 := by decide +kernel
theorem tyX7_ok : ∀ k, k < 24 → parseFieldDescriptor (TX7 k).2.2.1 = some (tyX7 k) := by decide +kernel
abbrev cX7_init : ByteArray := prog_9_method_1_code
def yX7_init : MethodName := ⟨RX7, "<init>", "()V"⟩
abbrev cX7_in : ByteArray := prog_9_method_3_code
def yX7_in : MethodName := ⟨RX7, "in", "(III)Z"⟩
abbrev cX7_size : ByteArray := prog_9_method_4_code
def yX7_size : MethodName := ⟨RX7, "size", "(I)I"⟩
abbrev cX7_isDot : ByteArray := prog_9_method_5_code
def yX7_isDot : MethodName := ⟨RX7, "isDot", "(I)Z"⟩
abbrev cX7_isSeat : ByteArray := prog_9_method_6_code
def yX7_isSeat : MethodName := ⟨RX7, "isSeat", "(I)Z"⟩
abbrev cX7_isPlayer : ByteArray := prog_9_method_7_code
def yX7_isPlayer : MethodName := ⟨RX7, "isPlayer", "(I)Z"⟩
abbrev cX7_far : ByteArray := prog_9_method_8_code
def yX7_far : MethodName := ⟨RX7, "far", "(II)I"⟩
abbrev cX7_feed : ByteArray := prog_9_method_9_code
def yX7_feed : MethodName := ⟨RX7, "feed", "(JI)I"⟩
abbrev cX7_here : ByteArray := prog_9_method_10_code
def yX7_here : MethodName := ⟨RX7, "here", "()I"⟩
abbrev cX7_must : ByteArray := prog_9_method_11_code
def yX7_must : MethodName := ⟨RX7, "must", "(I)V"⟩
abbrev cX7_spells : ByteArray := prog_9_method_12_code
def yX7_spells : MethodName := ⟨RX7, "spells", "(Ljava/lang/String;)V"⟩
abbrev cX7_figures : ByteArray := prog_9_method_13_code
def yX7_figures : MethodName := ⟨RX7, "figures", "()I"⟩
abbrev cX7_among : ByteArray := prog_9_method_14_code
def yX7_among : MethodName := ⟨RX7, "among", "(Ljava/lang/String;)I"⟩
abbrev cX7_emits : ByteArray := prog_9_method_15_code
def yX7_emits : MethodName := ⟨RX7, "emits", "(I)V"⟩
abbrev cX7_factor : ByteArray := prog_9_method_16_code
def yX7_factor : MethodName := ⟨RX7, "factor", "()V"⟩
abbrev cX7_every : ByteArray := prog_9_method_17_code
def yX7_every : MethodName := ⟨RX7, "every", "()V"⟩
abbrev cX7_some : ByteArray := prog_9_method_18_code
def yX7_some : MethodName := ⟨RX7, "some", "()V"⟩
abbrev cX7_much : ByteArray := prog_9_method_19_code
def yX7_much : MethodName := ⟨RX7, "much", "(ILjava/lang/String;)V"⟩
abbrev cX7_tellsHere : ByteArray := prog_9_method_20_code
def yX7_tellsHere : MethodName := ⟨RX7, "tellsHere", "(ILjava/lang/String;)V"⟩
abbrev cX7_clauseHere : ByteArray := prog_9_method_21_code
def yX7_clauseHere : MethodName := ⟨RX7, "clauseHere", "()V"⟩
abbrev cX7_show : ByteArray := prog_9_method_22_code
def yX7_show : MethodName := ⟨RX7, "show", "()I"⟩
abbrev cX7_tellsOf : ByteArray := prog_9_method_23_code
def yX7_tellsOf : MethodName := ⟨RX7, "tellsOf", "(II)I"⟩
abbrev cX7_atLeastOne : ByteArray := prog_9_method_24_code
def yX7_atLeastOne : MethodName := ⟨RX7, "atLeastOne", "(I)I"⟩
abbrev cX7_speed : ByteArray := prog_9_method_25_code
def yX7_speed : MethodName := ⟨RX7, "speed", "()I"⟩
abbrev cX7_told : ByteArray := prog_9_method_26_code
def yX7_told : MethodName := ⟨RX7, "told", "(I)I"⟩
abbrev cX7_looks : ByteArray := prog_9_method_27_code
def yX7_looks : MethodName := ⟨RX7, "looks", "(II)V"⟩
abbrev cX7_playerOn : ByteArray := prog_9_method_28_code
def yX7_playerOn : MethodName := ⟨RX7, "playerOn", "(I)I"⟩
abbrev cX7_player : ByteArray := prog_9_method_29_code
def yX7_player : MethodName := ⟨RX7, "player", "(III)I"⟩
abbrev cX7_drum : ByteArray := prog_9_method_30_code
def yX7_drum : MethodName := ⟨RX7, "drum", "(I)I"⟩
abbrev cX7_put : ByteArray := prog_9_method_31_code
def yX7_put : MethodName := ⟨RX7, "put", "(II)I"⟩
abbrev cX7_nearestInColumn : ByteArray := prog_9_method_32_code
def yX7_nearestInColumn : MethodName := ⟨RX7, "nearestInColumn", "(IZ)I"⟩
abbrev cX7_listening : ByteArray := prog_9_method_33_code
def yX7_listening : MethodName := ⟨RX7, "listening", "(I)I"⟩
abbrev cX7_heardFrom : ByteArray := prog_9_method_34_code
def yX7_heardFrom : MethodName := ⟨RX7, "heardFrom", "(II)I"⟩
abbrev cX7_backward : ByteArray := prog_9_method_35_code
def yX7_backward : MethodName := ⟨RX7, "backward", "(I)I"⟩
abbrev cX7_forward : ByteArray := prog_9_method_36_code
def yX7_forward : MethodName := ⟨RX7, "forward", "(I)I"⟩
abbrev cX7_playsAs : ByteArray := prog_9_method_37_code
def yX7_playsAs : MethodName := ⟨RX7, "playsAs", "(II)I"⟩
abbrev cX7_playsOf : ByteArray := prog_9_method_38_code
def yX7_playsOf : MethodName := ⟨RX7, "playsOf", "(I)I"⟩
abbrev cX7_loudOf : ByteArray := prog_9_method_39_code
def yX7_loudOf : MethodName := ⟨RX7, "loudOf", "(I)I"⟩
abbrev cX7_of : ByteArray := prog_9_method_40_code
def yX7_of : MethodName := ⟨RX7, "of", "(II)I"⟩
abbrev cX7_heardAt : ByteArray := prog_9_method_41_code
def yX7_heardAt : MethodName := ⟨RX7, "heardAt", "(II)I"⟩
abbrev cX7_heard : ByteArray := prog_9_method_42_code
def yX7_heard : MethodName := ⟨RX7, "heard", "(II)I"⟩
abbrev cX7_spreadAt : ByteArray := prog_9_method_43_code
def yX7_spreadAt : MethodName := ⟨RX7, "spreadAt", "(I)I"⟩
abbrev cX7_allSpreads : ByteArray := prog_9_method_44_code
def yX7_allSpreads : MethodName := ⟨RX7, "allSpreads", "()I"⟩
abbrev cX7_together : ByteArray := prog_9_method_45_code
def yX7_together : MethodName := ⟨RX7, "together", "(II)I"⟩
abbrev cX7_spread : ByteArray := prog_9_method_46_code
def yX7_spread : MethodName := ⟨RX7, "spread", "(II)I"⟩
abbrev cX7_back : ByteArray := prog_9_method_47_code
def yX7_back : MethodName := ⟨RX7, "back", "(II)I"⟩
abbrev cX7_best : ByteArray := prog_9_method_48_code
def yX7_best : MethodName := ⟨RX7, "best", "(I)I"⟩
abbrev cX7_early : ByteArray := prog_9_method_49_code
def yX7_early : MethodName := ⟨RX7, "early", "(II)I"⟩
abbrev cX7_beats : ByteArray := prog_9_method_50_code
def yX7_beats : MethodName := ⟨RX7, "beats", "(I)I"⟩
abbrev cX7_form : ByteArray := prog_9_method_51_code
def yX7_form : MethodName := ⟨RX7, "form", "(I)I"⟩
abbrev cX7_isTooFew : ByteArray := prog_9_method_52_code
def yX7_isTooFew : MethodName := ⟨RX7, "isTooFew", "()Z"⟩
abbrev cX7_farTo : ByteArray := prog_9_method_53_code
def yX7_farTo : MethodName := ⟨RX7, "farTo", "(II)I"⟩
abbrev cX7_rowsFrom : ByteArray := prog_9_method_54_code
def yX7_rowsFrom : MethodName := ⟨RX7, "rowsFrom", "(IIII)V"⟩
abbrev cX7_looksForWay : ByteArray := prog_9_method_55_code
def yX7_looksForWay : MethodName := ⟨RX7, "looksForWay", "()I"⟩
abbrev cX7_way : ByteArray := prog_9_method_56_code
def yX7_way : MethodName := ⟨RX7, "way", "(I)I"⟩
abbrev cX7_counts : ByteArray := prog_9_method_57_code
def yX7_counts : MethodName := ⟨RX7, "counts", "()I"⟩
abbrev cX7_meet : ByteArray := prog_9_method_58_code
def yX7_meet : MethodName := ⟨RX7, "meet", "()I"⟩
abbrev cX7_hard : ByteArray := prog_9_method_59_code
def yX7_hard : MethodName := ⟨RX7, "hard", "(I)I"⟩
abbrev cX7_march : ByteArray := prog_9_method_60_code
def yX7_march : MethodName := ⟨RX7, "march", "()I"⟩
abbrev cX7_seen : ByteArray := prog_9_method_61_code
def yX7_seen : MethodName := ⟨RX7, "seen", "(I)I"⟩
abbrev cX7_off : ByteArray := prog_9_method_62_code
def yX7_off : MethodName := ⟨RX7, "off", "(I)I"⟩
abbrev cX7_whom : ByteArray := prog_9_method_63_code
def yX7_whom : MethodName := ⟨RX7, "whom", "(III)I"⟩
abbrev cX7_out : ByteArray := prog_9_method_64_code
def yX7_out : MethodName := ⟨RX7, "out", "()I"⟩
abbrev cX7_runs : ByteArray := prog_9_method_65_code
def yX7_runs : MethodName := ⟨RX7, "runs", "(I)V"⟩
abbrev cX7_isUnder : ByteArray := prog_9_method_66_code
def yX7_isUnder : MethodName := ⟨RX7, "isUnder", "(II)Z"⟩
abbrev cX7_plainGoes : ByteArray := prog_9_method_67_code
def yX7_plainGoes : MethodName := ⟨RX7, "plainGoes", "(I)I"⟩
abbrev cX7_goesActs : ByteArray := prog_9_method_68_code
def yX7_goesActs : MethodName := ⟨RX7, "goesActs", "(I)I"⟩
abbrev cX7_plainPlays : ByteArray := prog_9_method_69_code
def yX7_plainPlays : MethodName := ⟨RX7, "plainPlays", "(I)I"⟩
abbrev cX7_playsActs : ByteArray := prog_9_method_70_code
def yX7_playsActs : MethodName := ⟨RX7, "playsActs", "(I)I"⟩
abbrev cX7_plainFits : ByteArray := prog_9_method_71_code
def yX7_plainFits : MethodName := ⟨RX7, "plainFits", "(I)I"⟩
abbrev cX7_fitsActs : ByteArray := prog_9_method_72_code
def yX7_fitsActs : MethodName := ⟨RX7, "fitsActs", "(I)I"⟩
abbrev cX7_act : ByteArray := prog_9_method_73_code
def yX7_act : MethodName := ⟨RX7, "act", "(III)I"⟩
abbrev cX7_trace : ByteArray := prog_9_method_74_code
def yX7_trace : MethodName := ⟨RX7, "trace", "(I)I"⟩
abbrev cX7_as : ByteArray := prog_9_method_75_code
def yX7_as : MethodName := ⟨RX7, "as", "(II)I"⟩
abbrev cX7_image : ByteArray := prog_9_method_76_code
def yX7_image : MethodName := ⟨RX7, "image", "()I"⟩
abbrev cX7_undo : ByteArray := prog_9_method_77_code
def yX7_undo : MethodName := ⟨RX7, "undo", "()I"⟩
abbrev cX7_count : ByteArray := prog_9_method_78_code
def yX7_count : MethodName := ⟨RX7, "count", "(I)I"⟩
def RJ11 : String := "java/lang/Character"
def TJ11 : u_T := fun k => match k with
  | _ => ("", "", "", false)
def tyJ11 : Nat → FieldType := fun k => match k with
  | _ => .int
abbrev wsJ110 : List Cond := u_ws RJ11 TJ11 0
theorem nmJ11 : ∀ a, a < 0 → ∀ b, b < 0 → a ≠ b → (TJ11 a).2.1 ≠ (TJ11 b).2.1 := by decide +kernel
theorem tyJ11_ok : ∀ k, k < 0 → parseFieldDescriptor (TJ11 k).2.2.1 = some (tyJ11 k) := by decide +kernel
abbrev cJ11_isValidCodePoint_9a6ad : ByteArray := prog_10_method_11_code
def yJ11_isValidCodePoint_9a6ad : MethodName := ⟨RJ11, "isValidCodePoint", "(I)Z"⟩
abbrev cJ11_highSurrogate_5068e : ByteArray := prog_10_method_28_code
def yJ11_highSurrogate_5068e : MethodName := ⟨RJ11, "highSurrogate", "(I)C"⟩
abbrev cJ11_lowSurrogate_5068e : ByteArray := prog_10_method_29_code
def yJ11_lowSurrogate_5068e : MethodName := ⟨RJ11, "lowSurrogate", "(I)C"⟩
def RJ9 : String := "java/lang/Math"
def TJ9 : u_T := fun k => match k with
  | _ => ("", "", "", false)
def tyJ9 : Nat → FieldType := fun k => match k with
  | _ => .int
abbrev wsJ90 : List Cond := u_ws RJ9 TJ9 0
theorem nmJ9 : ∀ a, a < 0 → ∀ b, b < 0 → a ≠ b → (TJ9 a).2.1 ≠ (TJ9 b).2.1 := by decide +kernel
theorem tyJ9_ok : ∀ k, k < 0 → parseFieldDescriptor (TJ9 k).2.2.1 = some (tyJ9 k) := by decide +kernel
abbrev cJ9_abs_0f7a4 : ByteArray := prog_11_method_59_code
def yJ9_abs_0f7a4 : MethodName := ⟨RJ9, "abs", "(I)I"⟩
abbrev cJ9_max_7cf53 : ByteArray := prog_11_method_65_code
def yJ9_max_7cf53 : MethodName := ⟨RJ9, "max", "(II)I"⟩
abbrev cJ9_min_7cf53 : ByteArray := prog_11_method_69_code
def yJ9_min_7cf53 : MethodName := ⟨RJ9, "min", "(II)I"⟩
def RJ0 : String := "java/lang/String"
def TJ0 : u_T := fun k => match k with
  | _ => ("", "", "", false)
def tyJ0 : Nat → FieldType := fun k => match k with
  | _ => .int
abbrev wsJ00 : List Cond := u_ws RJ0 TJ0 0
theorem nmJ0 : ∀ a, a < 0 → ∀ b, b < 0 → a ≠ b → (TJ0 a).2.1 ≠ (TJ0 b).2.1 := by decide +kernel
theorem tyJ0_ok : ∀ k, k < 0 → parseFieldDescriptor (TJ0 k).2.2.1 = some (tyJ0 k) := by decide +kernel
abbrev cJ0_length_8abf5 : ByteArray := prog_12_method_54_code
def yJ0_length_8abf5 : MethodName := ⟨RJ0, "length", "()I"⟩
abbrev cJ0_charAt_5068e : ByteArray := prog_12_method_56_code
def yJ0_charAt_5068e : MethodName := ⟨RJ0, "charAt", "(I)C"⟩
abbrev cJ0_indexOf_0f7a4 : ByteArray := prog_12_method_79_code
def yJ0_indexOf_0f7a4 : MethodName := ⟨RJ0, "indexOf", "(I)I"⟩
abbrev cJ0_indexOf_7cf53 : ByteArray := prog_12_method_80_code
def yJ0_indexOf_7cf53 : MethodName := ⟨RJ0, "indexOf", "(II)I"⟩
abbrev cJ0_coder_7d493 : ByteArray := prog_12_method_152_code
def yJ0_coder_7d493 : MethodName := ⟨RJ0, "coder", "()B"⟩
abbrev cJ0_isLatin1_aae02 : ByteArray := prog_12_method_154_code
def yJ0_isLatin1_aae02 : MethodName := ⟨RJ0, "isLatin1", "()Z"⟩
abbrev cJ0_checkIndex_df160 : ByteArray := prog_12_method_155_code
def yJ0_checkIndex_df160 : MethodName := ⟨RJ0, "checkIndex", "(II)V"⟩
abbrev cJ0_checkBoundsBeginEnd_23922 : ByteArray := prog_12_method_158_code
def yJ0_checkBoundsBeginEnd_23922 : MethodName := ⟨RJ0, "checkBoundsBeginEnd", "(III)V"⟩
def RJ1 : String := "java/lang/StringLatin1"
def TJ1 : u_T := fun k => match k with
  | _ => ("", "", "", false)
def tyJ1 : Nat → FieldType := fun k => match k with
  | _ => .int
abbrev wsJ10 : List Cond := u_ws RJ1 TJ1 0
theorem nmJ1 : ∀ a, a < 0 → ∀ b, b < 0 → a ≠ b → (TJ1 a).2.1 ≠ (TJ1 b).2.1 := by decide +kernel
theorem tyJ1_ok : ∀ k, k < 0 → parseFieldDescriptor (TJ1 k).2.2.1 = some (tyJ1 k) := by decide +kernel
abbrev cJ1_charAt_3b067 : ByteArray := prog_13_method_2_code
def yJ1_charAt_3b067 : MethodName := ⟨RJ1, "charAt", "([BI)C"⟩
abbrev cJ1_canEncode_9a6ad : ByteArray := prog_13_method_4_code
def yJ1_canEncode_9a6ad : MethodName := ⟨RJ1, "canEncode", "(I)Z"⟩
abbrev cJ1_indexOf_4cfef : ByteArray := prog_13_method_22_code
def yJ1_indexOf_4cfef : MethodName := ⟨RJ1, "indexOf", "([BIII)I"⟩
abbrev cJ1_indexOfChar_4cfef : ByteArray := prog_13_method_23_code
def yJ1_indexOfChar_4cfef : MethodName := ⟨RJ1, "indexOfChar", "([BIII)I"⟩
def RJ2 : String := "java/lang/StringUTF16"
def TJ2 : u_T := fun k => match k with
  | _ => ("", "", "", false)
def tyJ2 : Nat → FieldType := fun k => match k with
  | _ => .int
abbrev wsJ20 : List Cond := u_ws RJ2 TJ2 0
theorem nmJ2 : ∀ a, a < 0 → ∀ b, b < 0 → a ≠ b → (TJ2 a).2.1 ≠ (TJ2 b).2.1 := by decide +kernel
theorem tyJ2_ok : ∀ k, k < 0 → parseFieldDescriptor (TJ2 k).2.2.1 = some (tyJ2 k) := by decide +kernel
abbrev cJ2_getChar_3b067 : ByteArray := prog_14_method_5_code
def yJ2_getChar_3b067 : MethodName := ⟨RJ2, "getChar", "([BI)C"⟩
abbrev cJ2_length_9d52b : ByteArray := prog_14_method_6_code
def yJ2_length_9d52b : MethodName := ⟨RJ2, "length", "([B)I"⟩
abbrev cJ2_indexOf_4cfef : ByteArray := prog_14_method_40_code
def yJ2_indexOf_4cfef : MethodName := ⟨RJ2, "indexOf", "([BIII)I"⟩
abbrev cJ2_indexOfChar_4cfef : ByteArray := prog_14_method_47_code
def yJ2_indexOfChar_4cfef : MethodName := ⟨RJ2, "indexOfChar", "([BIII)I"⟩
abbrev cJ2_indexOfCharUnsafe_4cfef : ByteArray := prog_14_method_48_code
def yJ2_indexOfCharUnsafe_4cfef : MethodName := ⟨RJ2, "indexOfCharUnsafe", "([BIII)I"⟩
abbrev cJ2_indexOfSupplementary_4cfef : ByteArray := prog_14_method_49_code
def yJ2_indexOfSupplementary_4cfef : MethodName := ⟨RJ2, "indexOfSupplementary", "([BIII)I"⟩
abbrev cJ2_charAt_3b067 : ByteArray := prog_14_method_83_code
def yJ2_charAt_3b067 : MethodName := ⟨RJ2, "charAt", "([BI)C"⟩
abbrev cJ2_checkIndex_2214a : ByteArray := prog_14_method_91_code
def yJ2_checkIndex_2214a : MethodName := ⟨RJ2, "checkIndex", "(I[B)V"⟩
abbrev cJ2_checkBoundsBeginEnd_d044e : ByteArray := prog_14_method_93_code
def yJ2_checkBoundsBeginEnd_d044e : MethodName := ⟨RJ2, "checkBoundsBeginEnd", "(II[B)V"⟩
def RJ10 : String := "java/lang/System"
def TJ10 : u_T := fun k => match k with
  | _ => ("", "", "", false)
def tyJ10 : Nat → FieldType := fun k => match k with
  | _ => .int
abbrev wsJ100 : List Cond := u_ws RJ10 TJ10 0
theorem nmJ10 : ∀ a, a < 0 → ∀ b, b < 0 → a ≠ b → (TJ10 a).2.1 ≠ (TJ10 b).2.1 := by decide +kernel
theorem tyJ10_ok : ∀ k, k < 0 → parseFieldDescriptor (TJ10 k).2.2.1 = some (tyJ10 k) := by decide +kernel
def RJ3 : String := "jdk/internal/util/Preconditions"
def TJ3 : u_T := fun k => match k with
  | _ => ("", "", "", false)
def tyJ3 : Nat → FieldType := fun k => match k with
  | _ => .int
abbrev wsJ30 : List Cond := u_ws RJ3 TJ3 0
theorem nmJ3 : ∀ a, a < 0 → ∀ b, b < 0 → a ≠ b → (TJ3 a).2.1 ≠ (TJ3 b).2.1 := by decide +kernel
theorem tyJ3_ok : ∀ k, k < 0 → parseFieldDescriptor (TJ3 k).2.2.1 = some (tyJ3 k) := by decide +kernel
abbrev cJ3_checkIndex_8e157 : ByteArray := prog_16_method_11_code
def yJ3_checkIndex_8e157 : MethodName := ⟨RJ3, "checkIndex", "(IILjava/util/function/BiFunction;)I"⟩
abbrev cJ3_checkFromToIndex_8c36e : ByteArray := prog_16_method_12_code
def yJ3_checkFromToIndex_8c36e : MethodName := ⟨RJ3, "checkFromToIndex", "(IIILjava/util/function/BiFunction;)I"⟩
def RL : String := "FieldBandLaw"
abbrev cL_law : ByteArray := code
def yL_law : MethodName := ⟨RL, "law", "([I)Z"⟩
def wsL_law_r1 : List Cond := [Cond.classLink RL 7 RX6, Cond.instantiable RX6 8, Cond.initialized RX6, Cond.classLink RL 10 RX7, Cond.instantiable RX7 24, Cond.initialized RX7, Cond.constantLong RL 13 (4294967295), Cond.methodLink RL 9 yX6_init, Cond.instanceMethod yX6_init, Cond.code yX6_init cX6_init 2 none, Cond.methodLink RX6 3 objectInit, Cond.instanceMethod objectInit, Cond.code objectInit ⟨#[0xb1]⟩ 1 none, Cond.classLink RX6 9 RX1, Cond.instantiable RX1 12, Cond.initialized RX1, Cond.fieldLink RX6 12 "FieldBand" "now" "LFieldBand$Field;", Cond.fieldLink RX6 16 "FieldBand" "kept" "LFieldBand$Field;", Cond.fieldLink RX6 19 "FieldBand" "isKept" "Z", Cond.classLink RX6 23 RX3, Cond.fieldLink RX6 25 "FieldBand" "shows" "[LFieldBand$Show;", Cond.classLink RX6 29 RX5, Cond.instantiable RX5 5, Cond.initialized RX5]
def wsL_law_r2 : List Cond := [Cond.fieldLink RX6 34 "FieldBand" "ways" "LFieldBand$Ways;", Cond.classLink RX6 38 RX0, Cond.instantiable RX0 5, Cond.initialized RX0, Cond.fieldLink RX6 41 "FieldBand" "deed" "LFieldBand$Deed;", Cond.instantiable RX3 10, Cond.initialized RX3, Cond.classLink RX6 46 RX2, Cond.instantiable RX2 3, Cond.initialized RX2, Cond.fieldLink RX6 51 "FieldBand" "reader" "LFieldBand$Reader;", Cond.classLink RX6 55 RX4, Cond.instantiable RX4 9, Cond.initialized RX4, Cond.fieldLink RX6 58 "FieldBand" "sound" "LFieldBand$Sound;", Cond.instanceMethod yX1_init, Cond.code yX1_init cX1_init 1 none, Cond.methodLink RX1 3 objectInit, Cond.fieldLink RX1 9 "FieldBand$Field" "players" "I", Cond.arrayClass .int, Cond.fieldLink RX1 15 "FieldBand$Field" "kind" "[I", Cond.fieldLink RX1 19 "FieldBand$Field" "v" "[I", Cond.fieldLink RX1 22 "FieldBand$Field" "dot" "[I", Cond.fieldLink RX1 25 "FieldBand$Field" "drum" "I"]
def wsL_law_r3 : List Cond := [Cond.fieldLink RX1 28 "FieldBand$Field" "formed" "I", Cond.fieldLink RX1 31 "FieldBand$Field" "form" "[I", Cond.fieldLink RX1 34 "FieldBand$Field" "filmed" "I", Cond.fieldLink RX1 37 "FieldBand$Field" "film" "[I", Cond.fieldLink RX1 40 "FieldBand$Field" "bytes" "I", Cond.arrayClass .byte, Cond.fieldLink RX1 43 "FieldBand$Field" "tape" "[B", Cond.fieldLink RX1 47 "FieldBand$Field" "shows" "I", Cond.methodLink RX6 31 yX5_init, Cond.instanceMethod yX5_init, Cond.code yX5_init cX5_init 2 none, Cond.methodLink RX5 3 objectInit, Cond.fieldLink RX5 9 "FieldBand$Ways" "row" "[I", Cond.fieldLink RX5 15 "FieldBand$Ways" "best" "[I", Cond.fieldLink RX5 18 "FieldBand$Ways" "greatest" "I", Cond.fieldLink RX5 22 "FieldBand$Ways" "sum" "I", Cond.fieldLink RX5 25 "FieldBand$Ways" "field" "LFieldBand$Field;", Cond.instanceMethod yX0_init, Cond.code yX0_init cX0_init 1 none, Cond.methodLink RX0 3 objectInit, Cond.fieldLink RX0 9 "FieldBand$Deed" "kind" "I", Cond.fieldLink RX0 15 "FieldBand$Deed" "number" "I", Cond.fieldLink RX0 18 "FieldBand$Deed" "v" "I", Cond.fieldLink RX0 21 "FieldBand$Deed" "ran" "I"]
def wsL_law_r4 : List Cond := [Cond.fieldLink RX0 24 "FieldBand$Deed" "bodies" "[I", Cond.instanceMethod yX3_init, Cond.code yX3_init cX3_init 1 none, Cond.methodLink RX3 3 objectInit, Cond.fieldLink RX3 9 "FieldBand$Show" "speed" "I", Cond.fieldLink RX3 15 "FieldBand$Show" "beat" "I", Cond.fieldLink RX3 18 "FieldBand$Show" "step" "I", Cond.fieldLink RX3 21 "FieldBand$Show" "clauses" "I", Cond.fieldLink RX3 24 "FieldBand$Show" "word" "[I", Cond.fieldLink RX3 28 "FieldBand$Show" "amount" "[I", Cond.fieldLink RX3 31 "FieldBand$Show" "start" "[I", Cond.fieldLink RX3 34 "FieldBand$Show" "end" "[I", Cond.fieldLink RX3 37 "FieldBand$Show" "used" "I", Cond.fieldLink RX3 40 "FieldBand$Show" "code" "[I", Cond.methodLink RX6 48 yX2_init, Cond.instanceMethod yX2_init, Cond.code yX2_init cX2_init 3 none, Cond.methodLink RX2 3 objectInit, Cond.fieldLink RX2 9 "FieldBand$Reader" "at" "I", Cond.fieldLink RX2 15 "FieldBand$Reader" "field" "LFieldBand$Field;", Cond.fieldLink RX2 19 "FieldBand$Reader" "show" "LFieldBand$Show;", Cond.methodLink RX6 57 yX4_init, Cond.instanceMethod yX4_init, Cond.code yX4_init cX4_init 3 none]
def wsL_law_r5 : List Cond := [Cond.methodLink RX4 3 objectInit, Cond.fieldLink RX4 9 "FieldBand$Sound" "drum" "I", Cond.fieldLink RX4 15 "FieldBand$Sound" "absent" "I", Cond.fieldLink RX4 18 "FieldBand$Sound" "kind" "[I", Cond.fieldLink RX4 22 "FieldBand$Sound" "slip" "[I", Cond.fieldLink RX4 25 "FieldBand$Sound" "source" "[I", Cond.fieldLink RX4 28 "FieldBand$Sound" "plays" "[I", Cond.fieldLink RX4 39 "FieldBand$Sound" "about" "[I", Cond.fieldLink RX4 42 "FieldBand$Sound" "field" "LFieldBand$Field;", Cond.fieldLink RX4 46 "FieldBand$Sound" "show" "LFieldBand$Show;", Cond.methodLink RX4 33 yJ0_length_8abf5, Cond.instanceMethod yJ0_length_8abf5, Cond.selects RJ0 yJ0_length_8abf5 yJ0_length_8abf5, Cond.initialized RJ0, Cond.code yJ0_length_8abf5 cJ0_length_8abf5 1 (some .int), Cond.fieldLink RJ0 9 "java/lang/String" "value" "[B", Cond.methodLink RJ0 335 yJ0_coder_7d493, Cond.instanceMethod yJ0_coder_7d493, Cond.selects RJ0 yJ0_coder_7d493 yJ0_coder_7d493, Cond.code yJ0_coder_7d493 cJ0_coder_7d493 1 (some .byte), Cond.fieldLink RJ0 38 "java/lang/String" "COMPACT_STRINGS" "Z", Cond.fieldLink RJ0 15 "java/lang/String" "coder" "B", Cond.methodLink RL 12 yX7_init, Cond.instanceMethod yX7_init]
def wsL_law_r6 : List Cond := [Cond.code yX7_init cX7_init 1 none, Cond.methodLink RX7 1 objectInit, Cond.fieldLink RX7 7 "FieldBandModel" "s" "[I", Cond.fieldLink RX7 13 "FieldBandModel" "image" "[I", Cond.fieldLink RX7 16 "FieldBandModel" "by" "[I", Cond.arrayClass .boolean, Cond.fieldLink RX7 19 "FieldBandModel" "truths" "[Z", Cond.fieldLink RX7 23 "FieldBandModel" "without" "I", Cond.fieldLink RX7 27 "FieldBandModel" "goes" "[I", Cond.fieldLink RX7 30 "FieldBandModel" "bestGoes" "[I", Cond.fieldLink RX7 33 "FieldBandModel" "bodies" "[I", Cond.methodLink RL 15 yX6_feed, Cond.instanceMethod yX6_feed, Cond.selects RX6 yX6_feed yX6_feed, Cond.code yX6_feed cX6_feed 5 (some .int), Cond.fieldLink RX6 62 "FieldBand$Field" "bytes" "I", Cond.fieldLink RX6 66 "FieldBand$Field" "tape" "[B", Cond.methodLink RL 19 yX7_feed, Cond.instanceMethod yX7_feed, Cond.selects RX7 yX7_feed yX7_feed, Cond.code yX7_feed cX7_feed 5 (some .int), Cond.constantLong RX7 47 (255), Cond.methodLink RX7 39 yX7_in, Cond.static yX7_in]
def wsL_law_r7 : List Cond := [Cond.code yX7_in cX7_in 3 (some .boolean), Cond.methodLink RL 20 yX6_show, Cond.instanceMethod yX6_show, Cond.selects RX6 yX6_show yX6_show, Cond.code yX6_show cX6_show 2 (some .int), Cond.fieldLink RX6 70 "FieldBand$Field" "shows" "I", Cond.methodLink RX6 72 yX2_readInto, Cond.instanceMethod yX2_readInto, Cond.selects RX2 yX2_readInto yX2_readInto, Cond.code yX2_readInto cX2_readInto 3 (some .int), Cond.fieldLink RX2 32 "FieldBand$Field" "bytes" "I", Cond.methodLink RX2 23 yX3_clear, Cond.instanceMethod yX3_clear, Cond.selects RX3 yX3_clear yX3_clear, Cond.code yX3_clear cX3_clear 1 none, Cond.methodLink RX2 28 yX2_readClause, Cond.instanceMethod yX2_readClause, Cond.selects RX2 yX2_readClause yX2_readClause, Cond.code yX2_readClause cX2_readClause 4 (some .boolean), Cond.fieldLink RX2 52 "FieldBand$Show" "used" "I", Cond.methodLink RX2 43 yX2_readWord, Cond.instanceMethod yX2_readWord, Cond.selects RX2 yX2_readWord yX2_readWord, Cond.code yX2_readWord cX2_readWord 5 (some .int)]
def wsL_law_r8 : List Cond := [Cond.methodLink RX2 76 Lib.Math.max.name, Cond.static Lib.Math.max.name, Cond.initialized "java/lang/Math", Cond.code Lib.Math.max.name Lib.Math.max.code 2 (some .int), Cond.methodLink RX2 63 yX2_textOf, Cond.static yX2_textOf, Cond.code yX2_textOf cX2_textOf 1 (some (.object "java/lang/String")), Cond.methodLink RX2 67 yX2_sameSigns, Cond.instanceMethod yX2_sameSigns, Cond.selects RX2 yX2_sameSigns yX2_sameSigns, Cond.code yX2_sameSigns cX2_sameSigns 3 (some .int), Cond.fieldLink RX2 92 "FieldBand$Field" "tape" "[B", Cond.methodLink RX2 71 yJ0_length_8abf5, Cond.methodLink RX2 96 yJ0_charAt_5068e, Cond.instanceMethod yJ0_charAt_5068e, Cond.selects RJ0 yJ0_charAt_5068e yJ0_charAt_5068e, Cond.code yJ0_charAt_5068e cJ0_charAt_5068e 2 (some .char), Cond.methodLink RJ0 492 yJ0_isLatin1_aae02, Cond.instanceMethod yJ0_isLatin1_aae02, Cond.selects RJ0 yJ0_isLatin1_aae02 yJ0_isLatin1_aae02, Cond.code yJ0_isLatin1_aae02 cJ0_isLatin1_aae02 1 (some .boolean), Cond.methodLink RJ0 495 yJ1_charAt_3b067, Cond.static yJ1_charAt_3b067, Cond.initialized RJ1]
def wsL_law_r9 : List Cond := [Cond.code yJ1_charAt_3b067 cJ1_charAt_3b067 2 (some .char), Cond.methodLink RJ1 9 yJ0_checkIndex_df160, Cond.static yJ0_checkIndex_df160, Cond.code yJ0_checkIndex_df160 cJ0_checkIndex_df160 2 none, Cond.fieldLink RJ0 1053 "jdk/internal/util/Preconditions" "SIOOBE_FORMATTER" "Ljava/util/function/BiFunction;", Cond.methodLink RJ0 1059 yJ3_checkIndex_8e157, Cond.static yJ3_checkIndex_8e157, Cond.initialized RJ3, Cond.code yJ3_checkIndex_8e157 cJ3_checkIndex_8e157 3 (some .int), Cond.methodLink RJ0 498 yJ2_charAt_3b067, Cond.static yJ2_charAt_3b067, Cond.initialized RJ2, Cond.code yJ2_charAt_3b067 cJ2_charAt_3b067 2 (some .char), Cond.methodLink RJ2 67 yJ2_checkIndex_2214a, Cond.static yJ2_checkIndex_2214a, Cond.code yJ2_checkIndex_2214a cJ2_checkIndex_2214a 2 none, Cond.methodLink RJ2 48 yJ2_length_9d52b, Cond.static yJ2_length_9d52b, Cond.code yJ2_length_9d52b cJ2_length_9d52b 1 (some .int), Cond.methodLink RJ2 414 yJ0_checkIndex_df160, Cond.methodLink RJ2 71 yJ2_getChar_3b067, Cond.static yJ2_getChar_3b067, Cond.code yJ2_getChar_3b067 cJ2_getChar_3b067 2 (some .char), Cond.fieldLink RJ2 44 "java/lang/StringUTF16" "$assertionsDisabled" "Z"]
def wsL_law_r10 : List Cond := [Cond.fieldLink RJ2 59 "java/lang/StringUTF16" "HI_BYTE_SHIFT" "I", Cond.fieldLink RJ2 63 "java/lang/StringUTF16" "LO_BYTE_SHIFT" "I", Cond.methodLink RX2 39 yX2_take, Cond.instanceMethod yX2_take, Cond.selects RX2 yX2_take yX2_take, Cond.code yX2_take cX2_take 2 (some .boolean), Cond.methodLink RX2 125 yX2_takeOneOf, Cond.instanceMethod yX2_takeOneOf, Cond.selects RX2 yX2_takeOneOf yX2_takeOneOf, Cond.code yX2_takeOneOf cX2_takeOneOf 3 (some .int), Cond.methodLink RX2 136 yJ0_indexOf_0f7a4, Cond.instanceMethod yJ0_indexOf_0f7a4, Cond.selects RJ0 yJ0_indexOf_0f7a4 yJ0_indexOf_0f7a4, Cond.code yJ0_indexOf_0f7a4 cJ0_indexOf_0f7a4 2 (some .int), Cond.methodLink RJ0 633 yJ0_indexOf_7cf53, Cond.instanceMethod yJ0_indexOf_7cf53, Cond.selects RJ0 yJ0_indexOf_7cf53 yJ0_indexOf_7cf53, Cond.code yJ0_indexOf_7cf53 cJ0_indexOf_7cf53 3 (some .int), Cond.methodLink RJ0 505 yJ0_length_8abf5, Cond.methodLink RJ0 637 yJ1_indexOf_4cfef, Cond.static yJ1_indexOf_4cfef, Cond.code yJ1_indexOf_4cfef cJ1_indexOf_4cfef 4 (some .int), Cond.methodLink RJ1 92 Lib.Math.max.name, Cond.methodLink RJ1 38 Lib.Math.min.name]
def wsL_law_r11 : List Cond := [Cond.static Lib.Math.min.name, Cond.code Lib.Math.min.name Lib.Math.min.code 2 (some .int), Cond.methodLink RJ1 88 yJ1_canEncode_9a6ad, Cond.static yJ1_canEncode_9a6ad, Cond.code yJ1_canEncode_9a6ad cJ1_canEncode_9a6ad 1 (some .boolean), Cond.methodLink RJ1 95 yJ1_indexOfChar_4cfef, Cond.static yJ1_indexOfChar_4cfef, Cond.code yJ1_indexOfChar_4cfef cJ1_indexOfChar_4cfef 6 (some .int), Cond.methodLink RJ0 640 yJ2_indexOf_4cfef, Cond.static yJ2_indexOf_4cfef, Cond.code yJ2_indexOf_4cfef cJ2_indexOf_4cfef 4 (some .int), Cond.methodLink RJ2 224 Lib.Math.max.name, Cond.methodLink RJ2 183 Lib.Math.min.name, Cond.constant RJ2 227 (65536), Cond.methodLink RJ2 228 yJ2_indexOfChar_4cfef, Cond.static yJ2_indexOfChar_4cfef, Cond.code yJ2_indexOfChar_4cfef cJ2_indexOfChar_4cfef 4 (some .int), Cond.methodLink RJ2 96 yJ2_checkBoundsBeginEnd_d044e, Cond.static yJ2_checkBoundsBeginEnd_d044e, Cond.code yJ2_checkBoundsBeginEnd_d044e cJ2_checkBoundsBeginEnd_d044e 3 none, Cond.methodLink RJ2 241 yJ0_checkBoundsBeginEnd_23922, Cond.static yJ0_checkBoundsBeginEnd_23922, Cond.code yJ0_checkBoundsBeginEnd_23922 cJ0_checkBoundsBeginEnd_23922 3 none, Cond.methodLink RJ0 1062 yJ3_checkFromToIndex_8c36e]
def wsL_law_r12 : List Cond := [Cond.static yJ3_checkFromToIndex_8c36e, Cond.code yJ3_checkFromToIndex_8c36e cJ3_checkFromToIndex_8c36e 4 (some .int), Cond.methodLink RJ2 244 yJ2_indexOfCharUnsafe_4cfef, Cond.static yJ2_indexOfCharUnsafe_4cfef, Cond.code yJ2_indexOfCharUnsafe_4cfef cJ2_indexOfCharUnsafe_4cfef 5 (some .int), Cond.methodLink RJ2 232 yJ2_indexOfSupplementary_4cfef, Cond.static yJ2_indexOfSupplementary_4cfef, Cond.code yJ2_indexOfSupplementary_4cfef cJ2_indexOfSupplementary_4cfef 7 (some .int), Cond.methodLink RJ2 164 yJ11_isValidCodePoint_9a6ad, Cond.static yJ11_isValidCodePoint_9a6ad, Cond.initialized RJ11, Cond.code yJ11_isValidCodePoint_9a6ad cJ11_isValidCodePoint_9a6ad 2 (some .boolean), Cond.methodLink RJ2 157 yJ11_highSurrogate_5068e, Cond.static yJ11_highSurrogate_5068e, Cond.code yJ11_highSurrogate_5068e cJ11_highSurrogate_5068e 1 (some .char), Cond.constant RJ11 110 (55232), Cond.methodLink RJ2 161 yJ11_lowSurrogate_5068e, Cond.static yJ11_lowSurrogate_5068e, Cond.code yJ11_lowSurrogate_5068e cJ11_lowSurrogate_5068e 1 (some .char), Cond.constant RJ11 76 (56320), Cond.methodLink RX2 49 yX2_readNumber, Cond.instanceMethod yX2_readNumber, Cond.selects RX2 yX2_readNumber yX2_readNumber, Cond.code yX2_readNumber cX2_readNumber 3 (some .int)]
def wsL_law_r13 : List Cond := [Cond.methodLink RX2 55 yX2_readEither, Cond.instanceMethod yX2_readEither, Cond.selects RX2 yX2_readEither yX2_readEither, Cond.code yX2_readEither cX2_readEither 3 (some .boolean), Cond.methodLink RX2 100 yX2_readBoth, Cond.instanceMethod yX2_readBoth, Cond.selects RX2 yX2_readBoth yX2_readBoth, Cond.methodLink RX2 105 yX3_write, Cond.instanceMethod yX3_write, Cond.selects RX3 yX3_write yX3_write, Cond.code yX3_write cX3_write 2 none, Cond.code yX2_readBoth cX2_readBoth 3 (some .boolean), Cond.methodLink RX2 109 yX2_readFactor, Cond.instanceMethod yX2_readFactor, Cond.selects RX2 yX2_readFactor yX2_readFactor, Cond.code yX2_readFactor cX2_readFactor 2 (some .boolean), Cond.methodLink RX2 120 yX2_readTest, Cond.instanceMethod yX2_readTest, Cond.selects RX2 yX2_readTest yX2_readTest, Cond.code yX2_readTest cX2_readTest 4 (some .boolean), Cond.methodLink RX2 130 yX3_codeOfTest, Cond.static yX3_codeOfTest, Cond.code yX3_codeOfTest cX3_codeOfTest 3 (some .int), Cond.methodLink RX2 59 yX3_addClause]
def wsL_law_r14 : List Cond := [Cond.instanceMethod yX3_addClause, Cond.selects RX3 yX3_addClause yX3_addClause, Cond.code yX3_addClause cX3_addClause 4 none, Cond.methodLink RX3 43 Lib.Math.max.name, Cond.methodLink RL 24 yX7_show, Cond.instanceMethod yX7_show, Cond.selects RX7 yX7_show yX7_show, Cond.code yX7_show cX7_show 2 (some .int), Cond.fieldLink RX7 76 "FieldBandModel" "act" "I", Cond.fieldLink RX7 52 "FieldBandModel" "end" "I", Cond.fieldLink RX7 49 "FieldBandModel" "spot" "I", Cond.fieldLink RX7 55 "FieldBandModel" "isWrong" "Z", Cond.fieldLink RX7 79 "FieldBandModel" "open" "I", Cond.methodLink RX7 126 yX7_clauseHere, Cond.instanceMethod yX7_clauseHere, Cond.selects RX7 yX7_clauseHere yX7_clauseHere, Cond.code yX7_clauseHere cX7_clauseHere 1 none, Cond.methodLink RX7 59 yX7_here, Cond.instanceMethod yX7_here, Cond.selects RX7 yX7_here yX7_here, Cond.code yX7_here cX7_here 1 (some .int), Cond.methodLink RX7 72 yX7_must, Cond.instanceMethod yX7_must, Cond.selects RX7 yX7_must yX7_must]
def wsL_law_r15 : List Cond := [Cond.code yX7_must cX7_must 2 none, Cond.methodLink RX7 111 yX7_much, Cond.instanceMethod yX7_much, Cond.selects RX7 yX7_much yX7_much, Cond.code yX7_much cX7_much 4 none, Cond.methodLink RX7 105 yX7_spells, Cond.instanceMethod yX7_spells, Cond.selects RX7 yX7_spells yX7_spells, Cond.code yX7_spells cX7_spells 3 none, Cond.methodLink RX7 63 yJ0_length_8abf5, Cond.methodLink RX7 68 yJ0_charAt_5068e, Cond.methodLink RX7 99 yX7_figures, Cond.instanceMethod yX7_figures, Cond.selects RX7 yX7_figures yX7_figures, Cond.code yX7_figures cX7_figures 3 (some .int), Cond.methodLink RX7 88 yX7_some, Cond.instanceMethod yX7_some, Cond.selects RX7 yX7_some yX7_some, Cond.code yX7_some cX7_some 1 none, Cond.methodLink RX7 102 yX7_every, Cond.instanceMethod yX7_every, Cond.selects RX7 yX7_every yX7_every, Cond.methodLink RX7 85 yX7_emits, Cond.instanceMethod yX7_emits]
def wsL_law_r16 : List Cond := [Cond.selects RX7 yX7_emits yX7_emits, Cond.code yX7_emits cX7_emits 2 none, Cond.code yX7_every cX7_every 1 none, Cond.methodLink RX7 82 yX7_factor, Cond.instanceMethod yX7_factor, Cond.selects RX7 yX7_factor yX7_factor, Cond.code yX7_factor cX7_factor 5 none, Cond.methodLink RX7 93 yX7_among, Cond.instanceMethod yX7_among, Cond.selects RX7 yX7_among yX7_among, Cond.code yX7_among cX7_among 3 (some .int), Cond.methodLink RX7 119 yX7_tellsHere, Cond.instanceMethod yX7_tellsHere, Cond.selects RX7 yX7_tellsHere yX7_tellsHere, Cond.code yX7_tellsHere cX7_tellsHere 4 none, Cond.methodLink RL 25 yX6_told, Cond.instanceMethod yX6_told, Cond.selects RX6 yX6_told yX6_told, Cond.code yX6_told cX6_told 2 (some .int), Cond.fieldLink RX6 80 "FieldBand$Show" "speed" "I", Cond.fieldLink RX6 83 "FieldBand$Show" "beat" "I", Cond.fieldLink RX6 86 "FieldBand$Show" "step" "I", Cond.methodLink RX6 76 yX6_held, Cond.instanceMethod yX6_held]
def wsL_law_r17 : List Cond := [Cond.selects RX6 yX6_held yX6_held, Cond.code yX6_held cX6_held 1 (some (.object "FieldBand$Show")), Cond.methodLink RL 29 yX7_told, Cond.instanceMethod yX7_told, Cond.selects RX7 yX7_told yX7_told, Cond.code yX7_told cX7_told 2 (some .int), Cond.methodLink RX7 133 yX7_speed, Cond.instanceMethod yX7_speed, Cond.selects RX7 yX7_speed yX7_speed, Cond.code yX7_speed cX7_speed 1 (some .int), Cond.methodLink RX7 129 yX7_tellsOf, Cond.instanceMethod yX7_tellsOf, Cond.selects RX7 yX7_tellsOf yX7_tellsOf, Cond.code yX7_tellsOf cX7_tellsOf 3 (some .int), Cond.methodLink RX7 136 yX7_atLeastOne, Cond.instanceMethod yX7_atLeastOne, Cond.selects RX7 yX7_atLeastOne yX7_atLeastOne, Cond.code yX7_atLeastOne cX7_atLeastOne 2 (some .int), Cond.methodLink RL 30 yX6_player, Cond.instanceMethod yX6_player, Cond.selects RX6 yX6_player yX6_player, Cond.code yX6_player cX6_player 4 (some .int), Cond.fieldLink RX6 97 "FieldBand$Field" "players" "I", Cond.fieldLink RX6 100 "FieldBand$Field" "kind" "[I"]
def wsL_law_r18 : List Cond := [Cond.fieldLink RX6 104 "FieldBand$Field" "v" "[I", Cond.fieldLink RX6 107 "FieldBand$Field" "dot" "[I", Cond.methodLink RX6 89 yX6_isBelow, Cond.static yX6_isBelow, Cond.code yX6_isBelow cX6_isBelow 2 (some .boolean), Cond.methodLink RX6 93 yX1_playerOn, Cond.instanceMethod yX1_playerOn, Cond.selects RX1 yX1_playerOn yX1_playerOn, Cond.code yX1_playerOn cX1_playerOn 3 (some .int), Cond.methodLink RL 34 yX7_player, Cond.instanceMethod yX7_player, Cond.selects RX7 yX7_player yX7_player, Cond.code yX7_player cX7_player 5 (some .int), Cond.methodLink RX7 145 yX7_isDot, Cond.static yX7_isDot, Cond.code yX7_isDot cX7_isDot 1 (some .boolean), Cond.methodLink RX7 149 yX7_playerOn, Cond.instanceMethod yX7_playerOn, Cond.selects RX7 yX7_playerOn yX7_playerOn, Cond.code yX7_playerOn cX7_playerOn 4 (some .int), Cond.methodLink RL 35 yX6_of, Cond.instanceMethod yX6_of, Cond.selects RX6 yX6_of yX6_of, Cond.code yX6_of cX6_of 3 (some .int)]
def wsL_law_r19 : List Cond := [Cond.fieldLink RX6 121 "FieldBand$Sound" "slip" "[I", Cond.fieldLink RX6 124 "FieldBand$Sound" "plays" "[I", Cond.methodLink RX6 110 yX6_isPlayer, Cond.instanceMethod yX6_isPlayer, Cond.selects RX6 yX6_isPlayer yX6_isPlayer, Cond.code yX6_isPlayer cX6_isPlayer 2 (some .boolean), Cond.methodLink RX6 114 yX6_listen, Cond.instanceMethod yX6_listen, Cond.selects RX6 yX6_listen yX6_listen, Cond.code yX6_listen cX6_listen 1 (some (.object "FieldBand$Sound")), Cond.methodLink RX6 222 yX4_hearAll, Cond.instanceMethod yX4_hearAll, Cond.selects RX4 yX4_hearAll yX4_hearAll, Cond.code yX4_hearAll cX4_hearAll 2 none, Cond.fieldLink RX4 50 "FieldBand$Field" "drum" "I", Cond.fieldLink RX4 53 "FieldBand$Field" "kind" "[I", Cond.methodLink RX4 54 arraycopyName, Cond.native arraycopyName, Cond.static arraycopyName, Cond.initialized "java/lang/System", Cond.methodLink RX4 60 yX4_slipAll, Cond.instanceMethod yX4_slipAll, Cond.selects RX4 yX4_slipAll yX4_slipAll, Cond.code yX4_slipAll cX4_slipAll 2 none]
def wsL_law_r20 : List Cond := [Cond.fieldLink RX4 69 "FieldBand$Field" "players" "I", Cond.methodLink RX4 72 yX4_sumFor, Cond.instanceMethod yX4_sumFor, Cond.selects RX4 yX4_sumFor yX4_sumFor, Cond.code yX4_sumFor cX4_sumFor 3 (some .int), Cond.fieldLink RX4 83 "FieldBand$Field" "dot" "[I", Cond.fieldLink RX4 92 "FieldBand$Field" "v" "[I", Cond.static yX6_rowOf, Cond.code yX6_rowOf cX6_rowOf 1 (some .int), Cond.static yX6_columnOf, Cond.code yX6_columnOf cX6_columnOf 1 (some .int), Cond.methodLink RX4 95 yX3_sumOf, Cond.instanceMethod yX3_sumOf, Cond.selects RX3 yX3_sumOf yX3_sumOf, Cond.code yX3_sumOf cX3_sumOf 5 (some .int), Cond.methodLink RX3 49 yX3_holds, Cond.instanceMethod yX3_holds, Cond.selects RX3 yX3_holds yX3_holds, Cond.code yX3_holds cX3_holds 7 (some .boolean), Cond.methodLink RX3 53 yX3_passes, Cond.static yX3_passes, Cond.code yX3_passes cX3_passes 6 (some .boolean), Cond.methodLink RX4 63 yX4_arrange, Cond.instanceMethod yX4_arrange]
def wsL_law_r21 : List Cond := [Cond.selects RX4 yX4_arrange yX4_arrange, Cond.code yX4_arrange cX4_arrange 2 none, Cond.methodLink RX4 76 yX4_sourceOf, Cond.instanceMethod yX4_sourceOf, Cond.selects RX4 yX4_sourceOf yX4_sourceOf, Cond.code yX4_sourceOf cX4_sourceOf 4 (some .int), Cond.methodLink RX4 101 yX4_nearestInColumn, Cond.instanceMethod yX4_nearestInColumn, Cond.selects RX4 yX4_nearestInColumn yX4_nearestInColumn, Cond.code yX4_nearestInColumn cX4_nearestInColumn 8 (some .int), Cond.static yX6_isUnder, Cond.code yX6_isUnder cX6_isUnder 4 (some .boolean), Cond.fieldLink RX6 238 "FieldBand" "ABOVE" "[I", Cond.methodLink RX4 66 yX4_playAll, Cond.instanceMethod yX4_playAll, Cond.selects RX4 yX4_playAll yX4_playAll, Cond.code yX4_playAll cX4_playAll 2 none, Cond.methodLink RX4 80 yX4_playedBy, Cond.instanceMethod yX4_playedBy, Cond.selects RX4 yX4_playedBy yX4_playedBy, Cond.code yX4_playedBy cX4_playedBy 6 (some .int), Cond.fieldLink RX4 111 "FieldBand$Show" "speed" "I", Cond.methodLink RX4 108 yX4_ownMore, Cond.instanceMethod yX4_ownMore]
def wsL_law_r22 : List Cond := [Cond.selects RX4 yX4_ownMore yX4_ownMore, Cond.code yX4_ownMore cX4_ownMore 2 (some .int), Cond.static yX6_far, Cond.code yX6_far cX6_far 2 (some .int), Cond.methodLink RX6 232 Lib.Math.abs.name, Cond.static Lib.Math.abs.name, Cond.code Lib.Math.abs.name Lib.Math.abs.code 1 (some .int), Cond.methodLink RX6 149 Lib.Math.max.name, Cond.methodLink RX6 229 yX6_rowOf, Cond.methodLink RX6 235 yX6_columnOf, Cond.methodLink RX6 118 yX4_loudness, Cond.instanceMethod yX4_loudness, Cond.selects RX4 yX4_loudness yX4_loudness, Cond.code yX4_loudness cX4_loudness 2 (some .int), Cond.methodLink RL 39 yX7_of, Cond.instanceMethod yX7_of, Cond.selects RX7 yX7_of yX7_of, Cond.code yX7_of cX7_of 3 (some .int), Cond.fieldLink RX7 139 "FieldBandModel" "loud" "I", Cond.fieldLink RX7 142 "FieldBandModel" "slip" "I", Cond.methodLink RX7 152 yX7_isPlayer, Cond.instanceMethod yX7_isPlayer, Cond.selects RX7 yX7_isPlayer yX7_isPlayer, Cond.code yX7_isPlayer cX7_isPlayer 2 (some .boolean)]
def wsL_law_r23 : List Cond := [Cond.methodLink RX7 177 yX7_looks, Cond.instanceMethod yX7_looks, Cond.selects RX7 yX7_looks yX7_looks, Cond.code yX7_looks cX7_looks 11 none, Cond.methodLink RX7 181 yX7_playsOf, Cond.instanceMethod yX7_playsOf, Cond.selects RX7 yX7_playsOf yX7_playsOf, Cond.code yX7_playsOf cX7_playsOf 2 (some .int), Cond.methodLink RX7 158 yX7_playsAs, Cond.instanceMethod yX7_playsAs, Cond.selects RX7 yX7_playsAs yX7_playsAs, Cond.code yX7_playsAs cX7_playsAs 4 (some .int), Cond.methodLink RX7 165 yX7_listening, Cond.instanceMethod yX7_listening, Cond.selects RX7 yX7_listening yX7_listening, Cond.code yX7_listening cX7_listening 2 (some .int), Cond.methodLink RX7 155 yX7_far, Cond.static yX7_far, Cond.code yX7_far cX7_far 4 (some .int), Cond.methodLink RX7 43 yX7_size, Cond.static yX7_size, Cond.code yX7_size cX7_size 1 (some .int), Cond.methodLink RX7 171 yX7_backward, Cond.instanceMethod yX7_backward]
def wsL_law_r24 : List Cond := [Cond.selects RX7 yX7_backward yX7_backward, Cond.methodLink RX7 174 yX7_forward, Cond.instanceMethod yX7_forward, Cond.selects RX7 yX7_forward yX7_forward, Cond.code yX7_backward cX7_backward 3 (some .int), Cond.methodLink RX7 161 yX7_nearestInColumn, Cond.instanceMethod yX7_nearestInColumn, Cond.selects RX7 yX7_nearestInColumn yX7_nearestInColumn, Cond.code yX7_nearestInColumn cX7_nearestInColumn 7 (some .int), Cond.methodLink RX7 168 yX7_heardFrom, Cond.instanceMethod yX7_heardFrom, Cond.selects RX7 yX7_heardFrom yX7_heardFrom, Cond.code yX7_forward cX7_forward 3 (some .int), Cond.code yX7_heardFrom cX7_heardFrom 3 (some .int), Cond.methodLink RL 40 yX6_drum, Cond.instanceMethod yX6_drum, Cond.selects RX6 yX6_drum yX6_drum, Cond.code yX6_drum cX6_drum 3 (some .int), Cond.fieldLink RX6 127 "FieldBand$Field" "drum" "I", Cond.methodLink RL 43 yX7_drum, Cond.instanceMethod yX7_drum, Cond.selects RX7 yX7_drum yX7_drum, Cond.code yX7_drum cX7_drum 3 (some .int), Cond.methodLink RL 44 yX6_put]
def wsL_law_r25 : List Cond := [Cond.instanceMethod yX6_put, Cond.selects RX6 yX6_put yX6_put, Cond.code yX6_put cX6_put 5 (some .int), Cond.methodLink RL 47 yX7_put, Cond.instanceMethod yX7_put, Cond.selects RX7 yX7_put yX7_put, Cond.code yX7_put cX7_put 4 (some .int), Cond.methodLink RL 48 yX6_heard, Cond.instanceMethod yX6_heard, Cond.selects RX6 yX6_heard yX6_heard, Cond.code yX6_heard cX6_heard 3 (some .int), Cond.methodLink RX6 130 yX4_arrival, Cond.instanceMethod yX4_arrival, Cond.selects RX4 yX4_arrival yX4_arrival, Cond.code yX4_arrival cX4_arrival 3 (some .int), Cond.static yX6_placeOfSeat, Cond.code yX6_placeOfSeat cX6_placeOfSeat 1 (some .int), Cond.methodLink RL 51 yX7_heard, Cond.instanceMethod yX7_heard, Cond.selects RX7 yX7_heard yX7_heard, Cond.code yX7_heard cX7_heard 3 (some .int), Cond.methodLink RX7 184 yX7_isSeat, Cond.static yX7_isSeat, Cond.code yX7_isSeat cX7_isSeat 1 (some .boolean)]
def wsL_law_r26 : List Cond := [Cond.methodLink RX7 187 yX7_heardAt, Cond.instanceMethod yX7_heardAt, Cond.selects RX7 yX7_heardAt yX7_heardAt, Cond.code yX7_heardAt cX7_heardAt 3 (some .int), Cond.methodLink RL 52 yX6_spread, Cond.instanceMethod yX6_spread, Cond.selects RX6 yX6_spread yX6_spread, Cond.code yX6_spread cX6_spread 3 (some .int), Cond.methodLink RX6 134 yX4_spreadAt, Cond.instanceMethod yX4_spreadAt, Cond.selects RX4 yX4_spreadAt yX4_spreadAt, Cond.code yX4_spreadAt cX4_spreadAt 6 (some .int), Cond.constant RX4 122 (2147483647), Cond.constant RX4 131 (-2147483648), Cond.methodLink RX4 126 Lib.Math.min.name, Cond.methodLink RX4 132 Lib.Math.max.name, Cond.methodLink RX4 123 yX4_arrival, Cond.methodLink RX6 137 yX4_loudTogether, Cond.instanceMethod yX4_loudTogether, Cond.selects RX4 yX4_loudTogether yX4_loudTogether, Cond.code yX4_loudTogether cX4_loudTogether 7 (some .int), Cond.methodLink RX4 144 Lib.Math.abs.name, Cond.methodLink RX4 141 yX4_loudness, Cond.methodLink RL 55 yX7_spread]
def wsL_law_r27 : List Cond := [Cond.instanceMethod yX7_spread, Cond.selects RX7 yX7_spread yX7_spread, Cond.code yX7_spread cX7_spread 3 (some .int), Cond.methodLink RX7 193 yX7_spreadAt, Cond.instanceMethod yX7_spreadAt, Cond.selects RX7 yX7_spreadAt yX7_spreadAt, Cond.code yX7_spreadAt cX7_spreadAt 6 (some .int), Cond.fieldLink RX7 190 "FieldBandModel" "earliest" "I", Cond.methodLink RX7 199 yX7_together, Cond.instanceMethod yX7_together, Cond.selects RX7 yX7_together yX7_together, Cond.code yX7_together cX7_together 6 (some .int), Cond.methodLink RX7 196 yX7_loudOf, Cond.instanceMethod yX7_loudOf, Cond.selects RX7 yX7_loudOf yX7_loudOf, Cond.code yX7_loudOf cX7_loudOf 2 (some .int), Cond.methodLink RL 56 yX6_back, Cond.instanceMethod yX6_back, Cond.selects RX6 yX6_back yX6_back, Cond.code yX6_back cX6_back 3 (some .int), Cond.methodLink RX6 140 yX4_likeDrum, Cond.instanceMethod yX4_likeDrum, Cond.selects RX4 yX4_likeDrum yX4_likeDrum, Cond.code yX4_likeDrum cX4_likeDrum 6 (some .int)]
def wsL_law_r28 : List Cond := [Cond.methodLink RL 59 yX7_back, Cond.instanceMethod yX7_back, Cond.selects RX7 yX7_back yX7_back, Cond.code yX7_back cX7_back 7 (some .int), Cond.methodLink RL 60 yX6_best, Cond.instanceMethod yX6_best, Cond.selects RX6 yX6_best yX6_best, Cond.code yX6_best cX6_best 6 (some .int), Cond.methodLink RX6 143 yX4_sumWithDrumOn, Cond.instanceMethod yX4_sumWithDrumOn, Cond.selects RX4 yX4_sumWithDrumOn yX4_sumWithDrumOn, Cond.code yX4_sumWithDrumOn cX4_sumWithDrumOn 2 (some .int), Cond.methodLink RX4 138 yX4_sumOfSpreads, Cond.instanceMethod yX4_sumOfSpreads, Cond.selects RX4 yX4_sumOfSpreads yX4_sumOfSpreads, Cond.code yX4_sumOfSpreads cX4_sumOfSpreads 3 (some .int), Cond.methodLink RX4 135 yX4_spreadAt, Cond.methodLink RL 63 yX7_best, Cond.instanceMethod yX7_best, Cond.selects RX7 yX7_best yX7_best, Cond.code yX7_best cX7_best 8 (some .int), Cond.methodLink RX7 202 yX7_allSpreads, Cond.instanceMethod yX7_allSpreads, Cond.selects RX7 yX7_allSpreads yX7_allSpreads]
def wsL_law_r29 : List Cond := [Cond.code yX7_allSpreads cX7_allSpreads 3 (some .int), Cond.methodLink RL 64 yX6_early, Cond.instanceMethod yX6_early, Cond.selects RX6 yX6_early yX6_early, Cond.code yX6_early cX6_early 3 (some .int), Cond.methodLink RX6 146 yX4_earliest, Cond.instanceMethod yX4_earliest, Cond.selects RX4 yX4_earliest yX4_earliest, Cond.code yX4_earliest cX4_earliest 4 (some .int), Cond.methodLink RL 67 yX7_early, Cond.instanceMethod yX7_early, Cond.selects RX7 yX7_early yX7_early, Cond.code yX7_early cX7_early 4 (some .int), Cond.methodLink RL 68 yX6_beats, Cond.instanceMethod yX6_beats, Cond.selects RX6 yX6_beats yX6_beats, Cond.code yX6_beats cX6_beats 2 (some .int), Cond.methodLink RL 71 yX7_beats, Cond.instanceMethod yX7_beats, Cond.selects RX7 yX7_beats yX7_beats, Cond.code yX7_beats cX7_beats 2 (some .int), Cond.methodLink RX7 205 yX7_told, Cond.methodLink RL 72 yX6_form, Cond.instanceMethod yX6_form]
def wsL_law_r30 : List Cond := [Cond.selects RX6 yX6_form yX6_form, Cond.code yX6_form cX6_form 2 (some .int), Cond.fieldLink RX6 154 "FieldBand$Field" "formed" "I", Cond.fieldLink RX6 160 "FieldBand$Field" "form" "[I", Cond.methodLink RX6 157 yX1_isInForm, Cond.instanceMethod yX1_isInForm, Cond.selects RX1 yX1_isInForm yX1_isInForm, Cond.code yX1_isInForm cX1_isInForm 3 (some .boolean), Cond.methodLink RL 75 yX7_form, Cond.instanceMethod yX7_form, Cond.selects RX7 yX7_form yX7_form, Cond.code yX7_form cX7_form 3 (some .int), Cond.methodLink RL 76 yX6_way, Cond.instanceMethod yX6_way, Cond.selects RX6 yX6_way yX6_way, Cond.code yX6_way cX6_way 3 (some .int), Cond.fieldLink RX6 167 "FieldBand$Ways" "greatest" "I", Cond.fieldLink RX6 170 "FieldBand$Ways" "sum" "I", Cond.fieldLink RX6 173 "FieldBand$Ways" "best" "[I", Cond.methodLink RX6 163 yX6_findWay, Cond.instanceMethod yX6_findWay, Cond.selects RX6 yX6_findWay yX6_findWay, Cond.code yX6_findWay cX6_findWay 1 (some .int), Cond.methodLink RX6 176 yX1_hasTooFewDots]
def wsL_law_r31 : List Cond := [Cond.instanceMethod yX1_hasTooFewDots, Cond.selects RX1 yX1_hasTooFewDots yX1_hasTooFewDots, Cond.code yX1_hasTooFewDots cX1_hasTooFewDots 1 (some .boolean), Cond.methodLink RX6 226 yX5_find, Cond.instanceMethod yX5_find, Cond.selects RX5 yX5_find yX5_find, Cond.code yX5_find cX5_find 1 none, Cond.constant RX5 31 (2147483647), Cond.methodLink RX5 32 yX5_tryPlaces, Cond.instanceMethod yX5_tryPlaces, Cond.selects RX5 yX5_tryPlaces yX5_tryPlaces, Cond.code yX5_tryPlaces cX5_tryPlaces 7 none, Cond.fieldLink RX5 40 "FieldBand$Field" "players" "I", Cond.methodLink RX5 45 arraycopyName, Cond.fieldLink RX5 51 "FieldBand$Field" "dot" "[I", Cond.fieldLink RX5 54 "FieldBand$Field" "form" "[I", Cond.methodLink RX5 61 Lib.Math.max.name, Cond.methodLink RX5 36 yX5_isBetter, Cond.instanceMethod yX5_isBetter, Cond.selects RX5 yX5_isBetter yX5_isBetter, Cond.code yX5_isBetter cX5_isBetter 3 (some .boolean), Cond.methodLink RL 79 yX7_way, Cond.instanceMethod yX7_way, Cond.selects RX7 yX7_way yX7_way]
def wsL_law_r32 : List Cond := [Cond.code yX7_way cX7_way 3 (some .int), Cond.fieldLink RX7 208 "FieldBandModel" "greatest" "I", Cond.fieldLink RX7 211 "FieldBandModel" "sum" "I", Cond.methodLink RX7 225 yX7_looksForWay, Cond.instanceMethod yX7_looksForWay, Cond.selects RX7 yX7_looksForWay yX7_looksForWay, Cond.code yX7_looksForWay cX7_looksForWay 1 (some .int), Cond.methodLink RX7 221 yX7_isTooFew, Cond.instanceMethod yX7_isTooFew, Cond.selects RX7 yX7_isTooFew yX7_isTooFew, Cond.code yX7_isTooFew cX7_isTooFew 1 (some .boolean), Cond.methodLink RX7 217 yX7_rowsFrom, Cond.instanceMethod yX7_rowsFrom, Cond.selects RX7 yX7_rowsFrom yX7_rowsFrom, Cond.code yX7_rowsFrom cX7_rowsFrom 7 none, Cond.methodLink RX7 214 yX7_farTo, Cond.instanceMethod yX7_farTo, Cond.selects RX7 yX7_farTo yX7_farTo, Cond.code yX7_farTo cX7_farTo 3 (some .int), Cond.methodLink RL 80 yX6_counts, Cond.instanceMethod yX6_counts, Cond.selects RX6 yX6_counts yX6_counts, Cond.code yX6_counts cX6_counts 3 (some .int), Cond.methodLink RL 83 yX7_counts]
def wsL_law_r33 : List Cond := [Cond.instanceMethod yX7_counts, Cond.selects RX7 yX7_counts yX7_counts, Cond.code yX7_counts cX7_counts 2 (some .int), Cond.methodLink RL 84 yX6_meet, Cond.instanceMethod yX6_meet, Cond.selects RX6 yX6_meet yX6_meet, Cond.code yX6_meet cX6_meet 4 (some .int), Cond.methodLink RX6 180 yX1_meetHalfWay, Cond.instanceMethod yX1_meetHalfWay, Cond.selects RX1 yX1_meetHalfWay yX1_meetHalfWay, Cond.code yX1_meetHalfWay cX1_meetHalfWay 3 (some .boolean), Cond.methodLink RL 87 yX7_meet, Cond.instanceMethod yX7_meet, Cond.selects RX7 yX7_meet yX7_meet, Cond.code yX7_meet cX7_meet 6 (some .int), Cond.methodLink RL 88 yX6_hard, Cond.instanceMethod yX6_hard, Cond.selects RX6 yX6_hard yX6_hard, Cond.code yX6_hard cX6_hard 6 (some .int), Cond.methodLink RX6 183 yX6_far, Cond.methodLink RL 91 yX7_hard, Cond.instanceMethod yX7_hard, Cond.selects RX7 yX7_hard yX7_hard, Cond.code yX7_hard cX7_hard 5 (some .int)]
def wsL_law_r34 : List Cond := [Cond.methodLink RL 92 yX6_march, Cond.instanceMethod yX6_march, Cond.selects RX6 yX6_march yX6_march, Cond.code yX6_march cX6_march 3 (some .int), Cond.methodLink RL 95 yX7_march, Cond.instanceMethod yX7_march, Cond.selects RX7 yX7_march yX7_march, Cond.code yX7_march cX7_march 3 (some .int), Cond.methodLink RL 96 yX6_seen, Cond.instanceMethod yX6_seen, Cond.selects RX6 yX6_seen yX6_seen, Cond.code yX6_seen cX6_seen 2 (some .int), Cond.fieldLink RX6 186 "FieldBand$Field" "filmed" "I", Cond.fieldLink RX6 189 "FieldBand$Field" "film" "[I", Cond.methodLink RL 99 yX7_seen, Cond.instanceMethod yX7_seen, Cond.selects RX7 yX7_seen yX7_seen, Cond.code yX7_seen cX7_seen 2 (some .int), Cond.methodLink RL 100 yX6_off, Cond.instanceMethod yX6_off, Cond.selects RX6 yX6_off yX6_off, Cond.code yX6_off cX6_off 7 (some .int), Cond.methodLink RL 103 yX7_off, Cond.instanceMethod yX7_off]
def wsL_law_r35 : List Cond := [Cond.selects RX7 yX7_off yX7_off, Cond.code yX7_off cX7_off 7 (some .int), Cond.methodLink RL 104 yX6_whom, Cond.instanceMethod yX6_whom, Cond.selects RX6 yX6_whom yX6_whom, Cond.code yX6_whom cX6_whom 6 (some .int), Cond.methodLink RX6 192 yX4_arrivalAsKind, Cond.instanceMethod yX4_arrivalAsKind, Cond.selects RX4 yX4_arrivalAsKind yX4_arrivalAsKind, Cond.code yX4_arrivalAsKind cX4_arrivalAsKind 4 (some .int), Cond.methodLink RL 107 yX7_whom, Cond.instanceMethod yX7_whom, Cond.selects RX7 yX7_whom yX7_whom, Cond.code yX7_whom cX7_whom 7 (some .int), Cond.methodLink RL 108 yX6_out, Cond.instanceMethod yX6_out, Cond.selects RX6 yX6_out yX6_out, Cond.code yX6_out cX6_out 5 (some .int), Cond.methodLink RX6 196 yX4_sumWithout, Cond.instanceMethod yX4_sumWithout, Cond.selects RX4 yX4_sumWithout yX4_sumWithout, Cond.code yX4_sumWithout cX4_sumWithout 2 (some .int), Cond.methodLink RL 111 yX7_out, Cond.instanceMethod yX7_out]
def wsL_law_r36 : List Cond := [Cond.selects RX7 yX7_out yX7_out, Cond.code yX7_out cX7_out 6 (some .int), Cond.methodLink RL 112 yX6_act, Cond.instanceMethod yX6_act, Cond.selects RX6 yX6_act yX6_act, Cond.code yX6_act cX6_act 4 (some .int), Cond.fieldLink RX6 199 "FieldBand$Deed" "ran" "I", Cond.fieldLink RX6 202 "FieldBand$Deed" "kind" "I", Cond.fieldLink RX6 204 "FieldBand$Deed" "number" "I", Cond.fieldLink RX6 207 "FieldBand$Deed" "v" "I", Cond.methodLink RX6 209 yX0_runFrom, Cond.instanceMethod yX0_runFrom, Cond.selects RX0 yX0_runFrom yX0_runFrom, Cond.code yX0_runFrom cX0_runFrom 7 (some .int), Cond.methodLink RX0 28 yX0_bodyOf, Cond.static yX0_bodyOf, Cond.code yX0_bodyOf cX0_bodyOf 2 (some .int), Cond.fieldLink RX0 43 "FieldBand$Deed" "GOES_BODIES" "[I", Cond.fieldLink RX0 46 "FieldBand$Deed" "PLAYS_BODIES" "[I", Cond.fieldLink RX0 49 "FieldBand$Deed" "FITS_BODIES" "[I", Cond.methodLink RX0 35 yX0_begin, Cond.instanceMethod yX0_begin, Cond.selects RX0 yX0_begin yX0_begin, Cond.code yX0_begin cX0_begin 2 none]
def wsL_law_r37 : List Cond := [Cond.methodLink RX0 39 yX0_runBody, Cond.instanceMethod yX0_runBody, Cond.selects RX0 yX0_runBody yX0_runBody, Cond.code yX0_runBody cX0_runBody 5 (some .int), Cond.methodLink RX0 52 yX0_runFrom, Cond.methodLink RL 115 yX7_act, Cond.instanceMethod yX7_act, Cond.selects RX7 yX7_act yX7_act, Cond.code yX7_act cX7_act 4 (some .int), Cond.fieldLink RX7 228 "FieldBandModel" "ran" "I", Cond.fieldLink RX7 237 "FieldBandModel" "kindNow" "I", Cond.fieldLink RX7 234 "FieldBandModel" "number" "I", Cond.fieldLink RX7 250 "FieldBandModel" "tellsV" "I", Cond.methodLink RX7 247 yX7_goesActs, Cond.instanceMethod yX7_goesActs, Cond.selects RX7 yX7_goesActs yX7_goesActs, Cond.code yX7_goesActs cX7_goesActs 2 (some .int), Cond.methodLink RX7 240 yX7_isUnder, Cond.static yX7_isUnder, Cond.code yX7_isUnder cX7_isUnder 2 (some .boolean), Cond.methodLink RX7 231 yX7_runs, Cond.instanceMethod yX7_runs, Cond.selects RX7 yX7_runs yX7_runs, Cond.code yX7_runs cX7_runs 2 none]
def wsL_law_r38 : List Cond := [Cond.methodLink RX7 244 yX7_plainGoes, Cond.instanceMethod yX7_plainGoes, Cond.selects RX7 yX7_plainGoes yX7_plainGoes, Cond.code yX7_plainGoes cX7_plainGoes 2 (some .int), Cond.methodLink RX7 256 yX7_playsActs, Cond.instanceMethod yX7_playsActs, Cond.selects RX7 yX7_playsActs yX7_playsActs, Cond.code yX7_playsActs cX7_playsActs 2 (some .int), Cond.methodLink RX7 253 yX7_plainPlays, Cond.instanceMethod yX7_plainPlays, Cond.selects RX7 yX7_plainPlays yX7_plainPlays, Cond.code yX7_plainPlays cX7_plainPlays 2 (some .int), Cond.methodLink RX7 262 yX7_fitsActs, Cond.instanceMethod yX7_fitsActs, Cond.selects RX7 yX7_fitsActs yX7_fitsActs, Cond.code yX7_fitsActs cX7_fitsActs 3 (some .int), Cond.methodLink RX7 259 yX7_plainFits, Cond.instanceMethod yX7_plainFits, Cond.selects RX7 yX7_plainFits yX7_plainFits, Cond.code yX7_plainFits cX7_plainFits 2 (some .int), Cond.methodLink RL 116 yX6_trace, Cond.instanceMethod yX6_trace, Cond.selects RX6 yX6_trace yX6_trace, Cond.code yX6_trace cX6_trace 2 (some .int)]
def wsL_law_r39 : List Cond := [Cond.fieldLink RX6 213 "FieldBand$Deed" "bodies" "[I", Cond.methodLink RL 119 yX7_trace, Cond.instanceMethod yX7_trace, Cond.selects RX7 yX7_trace yX7_trace, Cond.code yX7_trace cX7_trace 2 (some .int), Cond.methodLink RL 120 yX6_as, Cond.instanceMethod yX6_as, Cond.selects RX6 yX6_as yX6_as, Cond.code yX6_as cX6_as 3 (some .int), Cond.methodLink RX6 216 yX6_isUnder, Cond.methodLink RL 123 yX7_as, Cond.instanceMethod yX7_as, Cond.selects RX7 yX7_as yX7_as, Cond.code yX7_as cX7_as 3 (some .int), Cond.methodLink RL 124 yX6_image, Cond.instanceMethod yX6_image, Cond.selects RX6 yX6_image yX6_image, Cond.code yX6_image cX6_image 1 (some .int), Cond.methodLink RX6 219 yX1_takeOver, Cond.instanceMethod yX1_takeOver, Cond.selects RX1 yX1_takeOver yX1_takeOver, Cond.code yX1_takeOver cX1_takeOver 2 none, Cond.methodLink RX1 50 arraycopyName, Cond.methodLink RL 127 yX7_image]
def wsL_law_r40 : List Cond := [Cond.instanceMethod yX7_image, Cond.selects RX7 yX7_image yX7_image, Cond.code yX7_image cX7_image 2 (some .int), Cond.fieldLink RX7 265 "FieldBandModel" "hasImage" "Z", Cond.methodLink RL 128 yX6_undo, Cond.instanceMethod yX6_undo, Cond.selects RX6 yX6_undo yX6_undo, Cond.code yX6_undo cX6_undo 1 (some .int), Cond.methodLink RL 131 yX7_undo, Cond.instanceMethod yX7_undo, Cond.selects RX7 yX7_undo yX7_undo, Cond.code yX7_undo cX7_undo 2 (some .int), Cond.methodLink RL 132 yX6_count, Cond.instanceMethod yX6_count, Cond.selects RX6 yX6_count yX6_count, Cond.code yX6_count cX6_count 2 (some .int), Cond.methodLink RL 135 yX7_count, Cond.instanceMethod yX7_count, Cond.selects RX7 yX7_count yX7_count, Cond.code yX7_count cX7_count 2 (some .int)]
def wsL_law : List Cond := (wsL_law_r1 ++ (wsL_law_r2 ++ (wsL_law_r3 ++ (wsL_law_r4 ++ (wsL_law_r5 ++ (wsL_law_r6 ++ (wsL_law_r7 ++ (wsL_law_r8 ++ (wsL_law_r9 ++ (wsL_law_r10 ++ (wsL_law_r11 ++ (wsL_law_r12 ++ (wsL_law_r13 ++ (wsL_law_r14 ++ (wsL_law_r15 ++ (wsL_law_r16 ++ (wsL_law_r17 ++ (wsL_law_r18 ++ (wsL_law_r19 ++ (wsL_law_r20 ++ (wsL_law_r21 ++ (wsL_law_r22 ++ (wsL_law_r23 ++ (wsL_law_r24 ++ (wsL_law_r25 ++ (wsL_law_r26 ++ (wsL_law_r27 ++ (wsL_law_r28 ++ (wsL_law_r29 ++ (wsL_law_r30 ++ (wsL_law_r31 ++ (wsL_law_r32 ++ (wsL_law_r33 ++ (wsL_law_r34 ++ (wsL_law_r35 ++ (wsL_law_r36 ++ (wsL_law_r37 ++ (wsL_law_r38 ++ (wsL_law_r39 ++ wsL_law_r40))))))))))))))))))))))))))))))))))))))) ++ wsX60 ++ wsX70 ++ wsX10 ++ wsX50 ++ wsX00 ++ wsX30 ++ wsX20 ++ wsX40 ++ ([] : List Cond)
theorem inlX0 : ∀ w ∈ wsX00, w ∈ wsL_law := fun _ h => List.mem_append_left _ (List.mem_append_left _ (List.mem_append_left _ (List.mem_append_left _ (List.mem_append_right _ h))))
theorem inlX1 : ∀ w ∈ wsX10, w ∈ wsL_law := fun _ h => List.mem_append_left _ (List.mem_append_left _ (List.mem_append_left _ (List.mem_append_left _ (List.mem_append_left _ (List.mem_append_left _ (List.mem_append_right _ h))))))
theorem inlX2 : ∀ w ∈ wsX20, w ∈ wsL_law := fun _ h => List.mem_append_left _ (List.mem_append_left _ (List.mem_append_right _ h))
theorem inlX3 : ∀ w ∈ wsX30, w ∈ wsL_law := fun _ h => List.mem_append_left _ (List.mem_append_left _ (List.mem_append_left _ (List.mem_append_right _ h)))
theorem inlX4 : ∀ w ∈ wsX40, w ∈ wsL_law := fun _ h => List.mem_append_left _ (List.mem_append_right _ h)
theorem inlX5 : ∀ w ∈ wsX50, w ∈ wsL_law := fun _ h => List.mem_append_left _ (List.mem_append_left _ (List.mem_append_left _ (List.mem_append_left _ (List.mem_append_left _ (List.mem_append_right _ h)))))
theorem inlX6 : ∀ w ∈ wsX60, w ∈ wsL_law := fun _ h => List.mem_append_left _ (List.mem_append_left _ (List.mem_append_left _ (List.mem_append_left _ (List.mem_append_left _ (List.mem_append_left _ (List.mem_append_left _ (List.mem_append_left _ (List.mem_append_right _ h))))))))
theorem inlX7 : ∀ w ∈ wsX70, w ∈ wsL_law := fun _ h => List.mem_append_left _ (List.mem_append_left _ (List.mem_append_left _ (List.mem_append_left _ (List.mem_append_left _ (List.mem_append_left _ (List.mem_append_left _ (List.mem_append_right _ h)))))))
abbrev vwCl : List vw_C := [(RX0, TX0, 5), (RX1, TX1, 12), (RX2, TX2, 3), (RX3, TX3, 10), (RX4, TX4, 9), (RX5, TX5, 5), (RX6, TX6, 8), (RX7, TX7, 24)]
end
section
theorem dX0_init_0 : decode cX0_init 0 = .ok (.aload_n 0, 1) := by decide +kernel
theorem dX0_init_1 : decode cX0_init 1 = .ok (.invokespecial 3, 3) := by decide +kernel
theorem dX0_init_4 : decode cX0_init 4 = .ok (.aload_n 0, 1) := by decide +kernel
theorem dX0_init_5 : decode cX0_init 5 = .ok (.iconst 0, 1) := by decide +kernel
theorem dX0_init_6 : decode cX0_init 6 = .ok (.putfield 9, 3) := by decide +kernel
theorem dX0_init_9 : decode cX0_init 9 = .ok (.aload_n 0, 1) := by decide +kernel
theorem dX0_init_10 : decode cX0_init 10 = .ok (.iconst 0, 1) := by decide +kernel
theorem dX0_init_11 : decode cX0_init 11 = .ok (.putfield 15, 3) := by decide +kernel
theorem dX0_init_14 : decode cX0_init 14 = .ok (.aload_n 0, 1) := by decide +kernel
theorem dX0_init_15 : decode cX0_init 15 = .ok (.iconst 0, 1) := by decide +kernel
theorem dX0_init_16 : decode cX0_init 16 = .ok (.putfield 18, 3) := by decide +kernel
theorem dX0_init_19 : decode cX0_init 19 = .ok (.aload_n 0, 1) := by decide +kernel
theorem dX0_init_20 : decode cX0_init 20 = .ok (.iconst 0, 1) := by decide +kernel
theorem dX0_init_21 : decode cX0_init 21 = .ok (.putfield 21, 3) := by decide +kernel
theorem dX0_init_24 : decode cX0_init 24 = .ok (.aload_n 0, 1) := by decide +kernel
theorem dX0_init_25 : decode cX0_init 25 = .ok (.bipush 20, 2) := by decide +kernel
theorem dX0_init_27 : decode cX0_init 27 = .ok (.newarray .int, 2) := by decide +kernel
theorem dX0_init_29 : decode cX0_init 29 = .ok (.putfield 24, 3) := by decide +kernel
theorem dX0_init_32 : decode cX0_init 32 = .ok (.return_, 1) := by decide +kernel
theorem dX0_runFrom_0 : decode cX0_runFrom 0 = .ok (.iload_n 1, 1) := by decide +kernel
theorem dX0_runFrom_1 : decode cX0_runFrom 1 = .ok (.istore 5, 2) := by decide +kernel
theorem dX0_runFrom_3 : decode cX0_runFrom 3 = .ok (.iconst 0, 1) := by decide +kernel
theorem dX0_runFrom_4 : decode cX0_runFrom 4 = .ok (.istore 6, 2) := by decide +kernel
theorem dX0_runFrom_6 : decode cX0_runFrom 6 = .ok (.iload 6, 2) := by decide +kernel
theorem dX0_runFrom_8 : decode cX0_runFrom 8 = .ok (.bipush 7, 2) := by decide +kernel
theorem dX0_runFrom_10 : decode cX0_runFrom 10 = .ok (.if_icmp .ge 33, 3) := by decide +kernel
theorem dX0_runFrom_13 : decode cX0_runFrom 13 = .ok (.iload 5, 2) := by decide +kernel
theorem dX0_runFrom_15 : decode cX0_runFrom 15 = .ok (.iconst (-1), 1) := by decide +kernel
theorem dX0_runFrom_16 : decode cX0_runFrom 16 = .ok (.if_icmp .eq 27, 3) := by decide +kernel
theorem dX0_runFrom_19 : decode cX0_runFrom 19 = .ok (.iload 5, 2) := by decide +kernel
theorem dX0_runFrom_21 : decode cX0_runFrom 21 = .ok (.iload_n 2, 1) := by decide +kernel
theorem dX0_runFrom_22 : decode cX0_runFrom 22 = .ok (.invokestatic 28, 3) := by decide +kernel
theorem dX0_runFrom_25 : decode cX0_runFrom 25 = .ok (.iconst (-1), 1) := by decide +kernel
theorem dX0_runFrom_26 : decode cX0_runFrom 26 = .ok (.if_icmp .ne 17, 3) := by decide +kernel
theorem dX0_runFrom_29 : decode cX0_runFrom 29 = .ok (.getstatic 32, 3) := by decide +kernel
theorem dX0_runFrom_32 : decode cX0_runFrom 32 = .ok (.iload 5, 2) := by decide +kernel
theorem dX0_runFrom_34 : decode cX0_runFrom 34 = .ok (.iaload, 1) := by decide +kernel
theorem dX0_runFrom_35 : decode cX0_runFrom 35 = .ok (.istore 5, 2) := by decide +kernel
theorem dX0_runFrom_37 : decode cX0_runFrom 37 = .ok (.iinc 6 1, 3) := by decide +kernel
theorem dX0_runFrom_40 : decode cX0_runFrom 40 = .ok (.goto (-34), 3) := by decide +kernel
theorem dX0_runFrom_43 : decode cX0_runFrom 43 = .ok (.iload 5, 2) := by decide +kernel
theorem dX0_runFrom_45 : decode cX0_runFrom 45 = .ok (.iconst (-1), 1) := by decide +kernel
theorem dX0_runFrom_46 : decode cX0_runFrom 46 = .ok (.if_icmp .eq 10, 3) := by decide +kernel
theorem dX0_runFrom_49 : decode cX0_runFrom 49 = .ok (.iload 4, 2) := by decide +kernel
theorem dX0_runFrom_51 : decode cX0_runFrom 51 = .ok (.bipush 20, 2) := by decide +kernel
theorem dX0_runFrom_53 : decode cX0_runFrom 53 = .ok (.if_icmp .lt 5, 3) := by decide +kernel
theorem dX0_runFrom_56 : decode cX0_runFrom 56 = .ok (.iconst 0, 1) := by decide +kernel
theorem dX0_runFrom_57 : decode cX0_runFrom 57 = .ok (.ireturn, 1) := by decide +kernel
theorem dX0_runFrom_58 : decode cX0_runFrom 58 = .ok (.iload 5, 2) := by decide +kernel
theorem dX0_runFrom_60 : decode cX0_runFrom 60 = .ok (.iload_n 2, 1) := by decide +kernel
theorem dX0_runFrom_61 : decode cX0_runFrom 61 = .ok (.invokestatic 28, 3) := by decide +kernel
theorem dX0_runFrom_64 : decode cX0_runFrom 64 = .ok (.istore 6, 2) := by decide +kernel
theorem dX0_runFrom_66 : decode cX0_runFrom 66 = .ok (.aload_n 0, 1) := by decide +kernel
theorem dX0_runFrom_67 : decode cX0_runFrom 67 = .ok (.iload 6, 2) := by decide +kernel
theorem dX0_runFrom_69 : decode cX0_runFrom 69 = .ok (.invokevirtual 35, 3) := by decide +kernel
theorem dX0_runFrom_72 : decode cX0_runFrom 72 = .ok (.aload_n 0, 1) := by decide +kernel
theorem dX0_runFrom_73 : decode cX0_runFrom 73 = .ok (.iload 6, 2) := by decide +kernel
theorem dX0_runFrom_75 : decode cX0_runFrom 75 = .ok (.getstatic 32, 3) := by decide +kernel
theorem dX0_runFrom_78 : decode cX0_runFrom 78 = .ok (.iload 5, 2) := by decide +kernel
theorem dX0_runFrom_80 : decode cX0_runFrom 80 = .ok (.iaload, 1) := by decide +kernel
theorem dX0_runFrom_81 : decode cX0_runFrom 81 = .ok (.iload_n 3, 1) := by decide +kernel
theorem dX0_runFrom_82 : decode cX0_runFrom 82 = .ok (.iload 4, 2) := by decide +kernel
theorem dX0_runFrom_84 : decode cX0_runFrom 84 = .ok (.iconst 1, 1) := by decide +kernel
theorem dX0_runFrom_85 : decode cX0_runFrom 85 = .ok (.iadd, 1) := by decide +kernel
theorem dX0_runFrom_86 : decode cX0_runFrom 86 = .ok (.invokevirtual 39, 3) := by decide +kernel
theorem dX0_runFrom_89 : decode cX0_runFrom 89 = .ok (.ireturn, 1) := by decide +kernel
theorem dX0_bodyOf_0 : decode cX0_bodyOf 0 = .ok (.iload_n 1, 1) := by decide +kernel
theorem dX0_bodyOf_1 : decode cX0_bodyOf 1 = .ok (.lookupswitch 39 #[(0, 27), (1, 33)], 27) := by decide +kernel
theorem dX0_bodyOf_28 : decode cX0_bodyOf 28 = .ok (.getstatic 43, 3) := by decide +kernel
theorem dX0_bodyOf_31 : decode cX0_bodyOf 31 = .ok (.iload_n 0, 1) := by decide +kernel
theorem dX0_bodyOf_32 : decode cX0_bodyOf 32 = .ok (.iaload, 1) := by decide +kernel
theorem dX0_bodyOf_33 : decode cX0_bodyOf 33 = .ok (.ireturn, 1) := by decide +kernel
theorem dX0_bodyOf_34 : decode cX0_bodyOf 34 = .ok (.getstatic 46, 3) := by decide +kernel
theorem dX0_bodyOf_37 : decode cX0_bodyOf 37 = .ok (.iload_n 0, 1) := by decide +kernel
theorem dX0_bodyOf_38 : decode cX0_bodyOf 38 = .ok (.iaload, 1) := by decide +kernel
theorem dX0_bodyOf_39 : decode cX0_bodyOf 39 = .ok (.ireturn, 1) := by decide +kernel
theorem dX0_bodyOf_40 : decode cX0_bodyOf 40 = .ok (.getstatic 49, 3) := by decide +kernel
theorem dX0_bodyOf_43 : decode cX0_bodyOf 43 = .ok (.iload_n 0, 1) := by decide +kernel
theorem dX0_bodyOf_44 : decode cX0_bodyOf 44 = .ok (.iaload, 1) := by decide +kernel
theorem dX0_bodyOf_45 : decode cX0_bodyOf 45 = .ok (.ireturn, 1) := by decide +kernel
theorem dX0_begin_0 : decode cX0_begin 0 = .ok (.aload_n 0, 1) := by decide +kernel
theorem dX0_begin_1 : decode cX0_begin 1 = .ok (.getfield 21, 3) := by decide +kernel
theorem dX0_begin_4 : decode cX0_begin 4 = .ok (.bipush 20, 2) := by decide +kernel
theorem dX0_begin_6 : decode cX0_begin 6 = .ok (.if_icmp .ge 13, 3) := by decide +kernel
theorem dX0_begin_9 : decode cX0_begin 9 = .ok (.aload_n 0, 1) := by decide +kernel
theorem dX0_begin_10 : decode cX0_begin 10 = .ok (.getfield 24, 3) := by decide +kernel
theorem dX0_begin_13 : decode cX0_begin 13 = .ok (.aload_n 0, 1) := by decide +kernel
theorem dX0_begin_14 : decode cX0_begin 14 = .ok (.getfield 21, 3) := by decide +kernel
theorem dX0_begin_17 : decode cX0_begin 17 = .ok (.iload_n 1, 1) := by decide +kernel
theorem dX0_begin_18 : decode cX0_begin 18 = .ok (.iastore, 1) := by decide +kernel
theorem dX0_begin_19 : decode cX0_begin 19 = .ok (.aload_n 0, 1) := by decide +kernel
theorem dX0_begin_20 : decode cX0_begin 20 = .ok (.dup, 1) := by decide +kernel
theorem dX0_begin_21 : decode cX0_begin 21 = .ok (.getfield 21, 3) := by decide +kernel
theorem dX0_begin_24 : decode cX0_begin 24 = .ok (.iconst 1, 1) := by decide +kernel
theorem dX0_begin_25 : decode cX0_begin 25 = .ok (.iadd, 1) := by decide +kernel
theorem dX0_begin_26 : decode cX0_begin 26 = .ok (.putfield 21, 3) := by decide +kernel
theorem dX0_begin_29 : decode cX0_begin 29 = .ok (.return_, 1) := by decide +kernel
theorem dX0_runBody_0 : decode cX0_runBody 0 = .ok (.iload_n 1, 1) := by decide +kernel
theorem dX0_runBody_1 : decode cX0_runBody 1 = .ok (.lookupswitch 214 #[(1, 83), (2, 90), (3, 108), (11, 123), (21, 135), (31, 146), (41, 159), (51, 184), (61, 199)], 83) := by decide +kernel
theorem dX0_runBody_84 : decode cX0_runBody 84 = .ok (.iload_n 3, 1) := by decide +kernel
theorem dX0_runBody_85 : decode cX0_runBody 85 = .ok (.aload_n 0, 1) := by decide +kernel
theorem dX0_runBody_86 : decode cX0_runBody 86 = .ok (.getfield 15, 3) := by decide +kernel
theorem dX0_runBody_89 : decode cX0_runBody 89 = .ok (.iadd, 1) := by decide +kernel
theorem dX0_runBody_90 : decode cX0_runBody 90 = .ok (.ireturn, 1) := by decide +kernel
theorem dX0_runBody_91 : decode cX0_runBody 91 = .ok (.aload_n 0, 1) := by decide +kernel
theorem dX0_runBody_92 : decode cX0_runBody 92 = .ok (.aload_n 0, 1) := by decide +kernel
theorem dX0_runBody_93 : decode cX0_runBody 93 = .ok (.getfield 9, 3) := by decide +kernel
theorem dX0_runBody_96 : decode cX0_runBody 96 = .ok (.iconst 0, 1) := by decide +kernel
theorem dX0_runBody_97 : decode cX0_runBody 97 = .ok (.iload_n 3, 1) := by decide +kernel
theorem dX0_runBody_98 : decode cX0_runBody 98 = .ok (.iload 4, 2) := by decide +kernel
theorem dX0_runBody_100 : decode cX0_runBody 100 = .ok (.invokevirtual 52, 3) := by decide +kernel
theorem dX0_runBody_103 : decode cX0_runBody 103 = .ok (.aload_n 0, 1) := by decide +kernel
theorem dX0_runBody_104 : decode cX0_runBody 104 = .ok (.getfield 18, 3) := by decide +kernel
theorem dX0_runBody_107 : decode cX0_runBody 107 = .ok (.isub, 1) := by decide +kernel
theorem dX0_runBody_108 : decode cX0_runBody 108 = .ok (.ireturn, 1) := by decide +kernel
theorem dX0_runBody_109 : decode cX0_runBody 109 = .ok (.aload_n 0, 1) := by decide +kernel
theorem dX0_runBody_110 : decode cX0_runBody 110 = .ok (.aload_n 0, 1) := by decide +kernel
theorem dX0_runBody_111 : decode cX0_runBody 111 = .ok (.getfield 9, 3) := by decide +kernel
theorem dX0_runBody_114 : decode cX0_runBody 114 = .ok (.iconst 1, 1) := by decide +kernel
theorem dX0_runBody_115 : decode cX0_runBody 115 = .ok (.iload_n 3, 1) := by decide +kernel
theorem dX0_runBody_116 : decode cX0_runBody 116 = .ok (.iload 4, 2) := by decide +kernel
theorem dX0_runBody_118 : decode cX0_runBody 118 = .ok (.invokevirtual 52, 3) := by decide +kernel
theorem dX0_runBody_121 : decode cX0_runBody 121 = .ok (.iconst 2, 1) := by decide +kernel
theorem dX0_runBody_122 : decode cX0_runBody 122 = .ok (.imul, 1) := by decide +kernel
theorem dX0_runBody_123 : decode cX0_runBody 123 = .ok (.ireturn, 1) := by decide +kernel
theorem dX0_runBody_124 : decode cX0_runBody 124 = .ok (.aload_n 0, 1) := by decide +kernel
theorem dX0_runBody_125 : decode cX0_runBody 125 = .ok (.iload_n 2, 1) := by decide +kernel
theorem dX0_runBody_126 : decode cX0_runBody 126 = .ok (.iconst 0, 1) := by decide +kernel
theorem dX0_runBody_127 : decode cX0_runBody 127 = .ok (.iload_n 3, 1) := by decide +kernel
theorem dX0_runBody_128 : decode cX0_runBody 128 = .ok (.iconst 3, 1) := by decide +kernel
theorem dX0_runBody_129 : decode cX0_runBody 129 = .ok (.imul, 1) := by decide +kernel
theorem dX0_runBody_130 : decode cX0_runBody 130 = .ok (.iload 4, 2) := by decide +kernel
theorem dX0_runBody_132 : decode cX0_runBody 132 = .ok (.invokevirtual 52, 3) := by decide +kernel
theorem dX0_runBody_135 : decode cX0_runBody 135 = .ok (.ireturn, 1) := by decide +kernel
theorem dX0_runBody_136 : decode cX0_runBody 136 = .ok (.aload_n 0, 1) := by decide +kernel
theorem dX0_runBody_137 : decode cX0_runBody 137 = .ok (.iload_n 2, 1) := by decide +kernel
theorem dX0_runBody_138 : decode cX0_runBody 138 = .ok (.iconst 1, 1) := by decide +kernel
theorem dX0_runBody_139 : decode cX0_runBody 139 = .ok (.iload_n 3, 1) := by decide +kernel
theorem dX0_runBody_140 : decode cX0_runBody 140 = .ok (.iload 4, 2) := by decide +kernel
theorem dX0_runBody_142 : decode cX0_runBody 142 = .ok (.invokevirtual 52, 3) := by decide +kernel
theorem dX0_runBody_145 : decode cX0_runBody 145 = .ok (.ineg, 1) := by decide +kernel
theorem dX0_runBody_146 : decode cX0_runBody 146 = .ok (.ireturn, 1) := by decide +kernel
theorem dX0_runBody_147 : decode cX0_runBody 147 = .ok (.aload_n 0, 1) := by decide +kernel
theorem dX0_runBody_148 : decode cX0_runBody 148 = .ok (.iload_n 2, 1) := by decide +kernel
theorem dX0_runBody_149 : decode cX0_runBody 149 = .ok (.iconst 2, 1) := by decide +kernel
theorem dX0_runBody_150 : decode cX0_runBody 150 = .ok (.iload_n 3, 1) := by decide +kernel
theorem dX0_runBody_151 : decode cX0_runBody 151 = .ok (.iload 4, 2) := by decide +kernel
theorem dX0_runBody_153 : decode cX0_runBody 153 = .ok (.invokevirtual 52, 3) := by decide +kernel
theorem dX0_runBody_156 : decode cX0_runBody 156 = .ok (.bipush 7, 2) := by decide +kernel
theorem dX0_runBody_158 : decode cX0_runBody 158 = .ok (.ixor, 1) := by decide +kernel
theorem dX0_runBody_159 : decode cX0_runBody 159 = .ok (.ireturn, 1) := by decide +kernel
theorem dX0_runBody_160 : decode cX0_runBody 160 = .ok (.aload_n 0, 1) := by decide +kernel
theorem dX0_runBody_161 : decode cX0_runBody 161 = .ok (.iload_n 2, 1) := by decide +kernel
theorem dX0_runBody_162 : decode cX0_runBody 162 = .ok (.iconst 2, 1) := by decide +kernel
theorem dX0_runBody_163 : decode cX0_runBody 163 = .ok (.iload_n 3, 1) := by decide +kernel
theorem dX0_runBody_164 : decode cX0_runBody 164 = .ok (.iconst 1, 1) := by decide +kernel
theorem dX0_runBody_165 : decode cX0_runBody 165 = .ok (.isub, 1) := by decide +kernel
theorem dX0_runBody_166 : decode cX0_runBody 166 = .ok (.iload 4, 2) := by decide +kernel
theorem dX0_runBody_168 : decode cX0_runBody 168 = .ok (.invokevirtual 52, 3) := by decide +kernel
theorem dX0_runBody_171 : decode cX0_runBody 171 = .ok (.aload_n 0, 1) := by decide +kernel
theorem dX0_runBody_172 : decode cX0_runBody 172 = .ok (.aload_n 0, 1) := by decide +kernel
theorem dX0_runBody_173 : decode cX0_runBody 173 = .ok (.getfield 9, 3) := by decide +kernel
theorem dX0_runBody_176 : decode cX0_runBody 176 = .ok (.iconst 0, 1) := by decide +kernel
theorem dX0_runBody_177 : decode cX0_runBody 177 = .ok (.iconst 2, 1) := by decide +kernel
theorem dX0_runBody_178 : decode cX0_runBody 178 = .ok (.iload 4, 2) := by decide +kernel
theorem dX0_runBody_180 : decode cX0_runBody 180 = .ok (.invokevirtual 52, 3) := by decide +kernel
theorem dX0_runBody_183 : decode cX0_runBody 183 = .ok (.iadd, 1) := by decide +kernel
theorem dX0_runBody_184 : decode cX0_runBody 184 = .ok (.ireturn, 1) := by decide +kernel
theorem dX0_runBody_185 : decode cX0_runBody 185 = .ok (.aload_n 0, 1) := by decide +kernel
theorem dX0_runBody_186 : decode cX0_runBody 186 = .ok (.iload_n 2, 1) := by decide +kernel
theorem dX0_runBody_187 : decode cX0_runBody 187 = .ok (.iconst 0, 1) := by decide +kernel
theorem dX0_runBody_188 : decode cX0_runBody 188 = .ok (.iload_n 3, 1) := by decide +kernel
theorem dX0_runBody_189 : decode cX0_runBody 189 = .ok (.iload 4, 2) := by decide +kernel
theorem dX0_runBody_191 : decode cX0_runBody 191 = .ok (.invokevirtual 52, 3) := by decide +kernel
theorem dX0_runBody_194 : decode cX0_runBody 194 = .ok (.aload_n 0, 1) := by decide +kernel
theorem dX0_runBody_195 : decode cX0_runBody 195 = .ok (.getfield 15, 3) := by decide +kernel
theorem dX0_runBody_198 : decode cX0_runBody 198 = .ok (.ixor, 1) := by decide +kernel
theorem dX0_runBody_199 : decode cX0_runBody 199 = .ok (.ireturn, 1) := by decide +kernel
theorem dX0_runBody_200 : decode cX0_runBody 200 = .ok (.aload_n 0, 1) := by decide +kernel
theorem dX0_runBody_201 : decode cX0_runBody 201 = .ok (.iload_n 2, 1) := by decide +kernel
theorem dX0_runBody_202 : decode cX0_runBody 202 = .ok (.iconst 1, 1) := by decide +kernel
theorem dX0_runBody_203 : decode cX0_runBody 203 = .ok (.iload_n 3, 1) := by decide +kernel
theorem dX0_runBody_204 : decode cX0_runBody 204 = .ok (.iload 4, 2) := by decide +kernel
theorem dX0_runBody_206 : decode cX0_runBody 206 = .ok (.invokevirtual 52, 3) := by decide +kernel
theorem dX0_runBody_209 : decode cX0_runBody 209 = .ok (.aload_n 0, 1) := by decide +kernel
theorem dX0_runBody_210 : decode cX0_runBody 210 = .ok (.getfield 18, 3) := by decide +kernel
theorem dX0_runBody_213 : decode cX0_runBody 213 = .ok (.iadd, 1) := by decide +kernel
theorem dX0_runBody_214 : decode cX0_runBody 214 = .ok (.ireturn, 1) := by decide +kernel
theorem dX0_runBody_215 : decode cX0_runBody 215 = .ok (.iconst 0, 1) := by decide +kernel
theorem dX0_runBody_216 : decode cX0_runBody 216 = .ok (.ireturn, 1) := by decide +kernel
theorem dX1_init_0 : decode cX1_init 0 = .ok (.aload_n 0, 1) := by decide +kernel
theorem dX1_init_1 : decode cX1_init 1 = .ok (.invokespecial 3, 3) := by decide +kernel
theorem dX1_init_4 : decode cX1_init 4 = .ok (.aload_n 0, 1) := by decide +kernel
theorem dX1_init_5 : decode cX1_init 5 = .ok (.iconst 0, 1) := by decide +kernel
theorem dX1_init_6 : decode cX1_init 6 = .ok (.putfield 9, 3) := by decide +kernel
theorem dX1_init_9 : decode cX1_init 9 = .ok (.aload_n 0, 1) := by decide +kernel
theorem dX1_init_10 : decode cX1_init 10 = .ok (.bipush 10, 2) := by decide +kernel
theorem dX1_init_12 : decode cX1_init 12 = .ok (.newarray .int, 2) := by decide +kernel
theorem dX1_init_14 : decode cX1_init 14 = .ok (.putfield 15, 3) := by decide +kernel
theorem dX1_init_17 : decode cX1_init 17 = .ok (.aload_n 0, 1) := by decide +kernel
theorem dX1_init_18 : decode cX1_init 18 = .ok (.bipush 10, 2) := by decide +kernel
theorem dX1_init_20 : decode cX1_init 20 = .ok (.newarray .int, 2) := by decide +kernel
theorem dX1_init_22 : decode cX1_init 22 = .ok (.putfield 19, 3) := by decide +kernel
theorem dX1_init_25 : decode cX1_init 25 = .ok (.aload_n 0, 1) := by decide +kernel
theorem dX1_init_26 : decode cX1_init 26 = .ok (.bipush 10, 2) := by decide +kernel
theorem dX1_init_28 : decode cX1_init 28 = .ok (.newarray .int, 2) := by decide +kernel
theorem dX1_init_30 : decode cX1_init 30 = .ok (.putfield 22, 3) := by decide +kernel
theorem dX1_init_33 : decode cX1_init 33 = .ok (.aload_n 0, 1) := by decide +kernel
theorem dX1_init_34 : decode cX1_init 34 = .ok (.bipush 60, 2) := by decide +kernel
theorem dX1_init_36 : decode cX1_init 36 = .ok (.putfield 25, 3) := by decide +kernel
theorem dX1_init_39 : decode cX1_init 39 = .ok (.aload_n 0, 1) := by decide +kernel
theorem dX1_init_40 : decode cX1_init 40 = .ok (.iconst 0, 1) := by decide +kernel
theorem dX1_init_41 : decode cX1_init 41 = .ok (.putfield 28, 3) := by decide +kernel
theorem dX1_init_44 : decode cX1_init 44 = .ok (.aload_n 0, 1) := by decide +kernel
theorem dX1_init_45 : decode cX1_init 45 = .ok (.bipush 10, 2) := by decide +kernel
theorem dX1_init_47 : decode cX1_init 47 = .ok (.newarray .int, 2) := by decide +kernel
theorem dX1_init_49 : decode cX1_init 49 = .ok (.putfield 31, 3) := by decide +kernel
theorem dX1_init_52 : decode cX1_init 52 = .ok (.aload_n 0, 1) := by decide +kernel
theorem dX1_init_53 : decode cX1_init 53 = .ok (.iconst 0, 1) := by decide +kernel
theorem dX1_init_54 : decode cX1_init 54 = .ok (.putfield 34, 3) := by decide +kernel
theorem dX1_init_57 : decode cX1_init 57 = .ok (.aload_n 0, 1) := by decide +kernel
theorem dX1_init_58 : decode cX1_init 58 = .ok (.bipush 10, 2) := by decide +kernel
theorem dX1_init_60 : decode cX1_init 60 = .ok (.newarray .int, 2) := by decide +kernel
theorem dX1_init_62 : decode cX1_init 62 = .ok (.putfield 37, 3) := by decide +kernel
theorem dX1_init_65 : decode cX1_init 65 = .ok (.aload_n 0, 1) := by decide +kernel
theorem dX1_init_66 : decode cX1_init 66 = .ok (.iconst 0, 1) := by decide +kernel
theorem dX1_init_67 : decode cX1_init 67 = .ok (.putfield 40, 3) := by decide +kernel
theorem dX1_init_70 : decode cX1_init 70 = .ok (.aload_n 0, 1) := by decide +kernel
theorem dX1_init_71 : decode cX1_init 71 = .ok (.bipush 120, 2) := by decide +kernel
theorem dX1_init_73 : decode cX1_init 73 = .ok (.newarray .byte, 2) := by decide +kernel
theorem dX1_init_75 : decode cX1_init 75 = .ok (.putfield 43, 3) := by decide +kernel
theorem dX1_init_78 : decode cX1_init 78 = .ok (.aload_n 0, 1) := by decide +kernel
theorem dX1_init_79 : decode cX1_init 79 = .ok (.iconst 0, 1) := by decide +kernel
theorem dX1_init_80 : decode cX1_init 80 = .ok (.putfield 47, 3) := by decide +kernel
theorem dX1_init_83 : decode cX1_init 83 = .ok (.return_, 1) := by decide +kernel
theorem dX1_takeOver_0 : decode cX1_takeOver 0 = .ok (.aload_n 0, 1) := by decide +kernel
theorem dX1_takeOver_1 : decode cX1_takeOver 1 = .ok (.aload_n 1, 1) := by decide +kernel
theorem dX1_takeOver_2 : decode cX1_takeOver 2 = .ok (.getfield 9, 3) := by decide +kernel
theorem dX1_takeOver_5 : decode cX1_takeOver 5 = .ok (.putfield 9, 3) := by decide +kernel
theorem dX1_takeOver_8 : decode cX1_takeOver 8 = .ok (.aload_n 1, 1) := by decide +kernel
theorem dX1_takeOver_9 : decode cX1_takeOver 9 = .ok (.getfield 15, 3) := by decide +kernel
theorem dX1_takeOver_12 : decode cX1_takeOver 12 = .ok (.iconst 0, 1) := by decide +kernel
theorem dX1_takeOver_13 : decode cX1_takeOver 13 = .ok (.aload_n 0, 1) := by decide +kernel
theorem dX1_takeOver_14 : decode cX1_takeOver 14 = .ok (.getfield 15, 3) := by decide +kernel
theorem dX1_takeOver_17 : decode cX1_takeOver 17 = .ok (.iconst 0, 1) := by decide +kernel
theorem dX1_takeOver_18 : decode cX1_takeOver 18 = .ok (.bipush 10, 2) := by decide +kernel
theorem dX1_takeOver_20 : decode cX1_takeOver 20 = .ok (.invokestatic 50, 3) := by decide +kernel
theorem dX1_takeOver_23 : decode cX1_takeOver 23 = .ok (.aload_n 1, 1) := by decide +kernel
theorem dX1_takeOver_24 : decode cX1_takeOver 24 = .ok (.getfield 19, 3) := by decide +kernel
theorem dX1_takeOver_27 : decode cX1_takeOver 27 = .ok (.iconst 0, 1) := by decide +kernel
theorem dX1_takeOver_28 : decode cX1_takeOver 28 = .ok (.aload_n 0, 1) := by decide +kernel
theorem dX1_takeOver_29 : decode cX1_takeOver 29 = .ok (.getfield 19, 3) := by decide +kernel
theorem dX1_takeOver_32 : decode cX1_takeOver 32 = .ok (.iconst 0, 1) := by decide +kernel
theorem dX1_takeOver_33 : decode cX1_takeOver 33 = .ok (.bipush 10, 2) := by decide +kernel
theorem dX1_takeOver_35 : decode cX1_takeOver 35 = .ok (.invokestatic 50, 3) := by decide +kernel
theorem dX1_takeOver_38 : decode cX1_takeOver 38 = .ok (.aload_n 1, 1) := by decide +kernel
theorem dX1_takeOver_39 : decode cX1_takeOver 39 = .ok (.getfield 22, 3) := by decide +kernel
theorem dX1_takeOver_42 : decode cX1_takeOver 42 = .ok (.iconst 0, 1) := by decide +kernel
theorem dX1_takeOver_43 : decode cX1_takeOver 43 = .ok (.aload_n 0, 1) := by decide +kernel
theorem dX1_takeOver_44 : decode cX1_takeOver 44 = .ok (.getfield 22, 3) := by decide +kernel
theorem dX1_takeOver_47 : decode cX1_takeOver 47 = .ok (.iconst 0, 1) := by decide +kernel
theorem dX1_takeOver_48 : decode cX1_takeOver 48 = .ok (.bipush 10, 2) := by decide +kernel
theorem dX1_takeOver_50 : decode cX1_takeOver 50 = .ok (.invokestatic 50, 3) := by decide +kernel
theorem dX1_takeOver_53 : decode cX1_takeOver 53 = .ok (.aload_n 0, 1) := by decide +kernel
theorem dX1_takeOver_54 : decode cX1_takeOver 54 = .ok (.aload_n 1, 1) := by decide +kernel
theorem dX1_takeOver_55 : decode cX1_takeOver 55 = .ok (.getfield 25, 3) := by decide +kernel
theorem dX1_takeOver_58 : decode cX1_takeOver 58 = .ok (.putfield 25, 3) := by decide +kernel
theorem dX1_takeOver_61 : decode cX1_takeOver 61 = .ok (.aload_n 0, 1) := by decide +kernel
theorem dX1_takeOver_62 : decode cX1_takeOver 62 = .ok (.aload_n 1, 1) := by decide +kernel
theorem dX1_takeOver_63 : decode cX1_takeOver 63 = .ok (.getfield 28, 3) := by decide +kernel
theorem dX1_takeOver_66 : decode cX1_takeOver 66 = .ok (.putfield 28, 3) := by decide +kernel
theorem dX1_takeOver_69 : decode cX1_takeOver 69 = .ok (.aload_n 1, 1) := by decide +kernel
theorem dX1_takeOver_70 : decode cX1_takeOver 70 = .ok (.getfield 31, 3) := by decide +kernel
theorem dX1_takeOver_73 : decode cX1_takeOver 73 = .ok (.iconst 0, 1) := by decide +kernel
theorem dX1_takeOver_74 : decode cX1_takeOver 74 = .ok (.aload_n 0, 1) := by decide +kernel
theorem dX1_takeOver_75 : decode cX1_takeOver 75 = .ok (.getfield 31, 3) := by decide +kernel
theorem dX1_takeOver_78 : decode cX1_takeOver 78 = .ok (.iconst 0, 1) := by decide +kernel
theorem dX1_takeOver_79 : decode cX1_takeOver 79 = .ok (.bipush 10, 2) := by decide +kernel
theorem dX1_takeOver_81 : decode cX1_takeOver 81 = .ok (.invokestatic 50, 3) := by decide +kernel
theorem dX1_takeOver_84 : decode cX1_takeOver 84 = .ok (.aload_n 0, 1) := by decide +kernel
theorem dX1_takeOver_85 : decode cX1_takeOver 85 = .ok (.aload_n 1, 1) := by decide +kernel
theorem dX1_takeOver_86 : decode cX1_takeOver 86 = .ok (.getfield 34, 3) := by decide +kernel
theorem dX1_takeOver_89 : decode cX1_takeOver 89 = .ok (.putfield 34, 3) := by decide +kernel
theorem dX1_takeOver_92 : decode cX1_takeOver 92 = .ok (.aload_n 1, 1) := by decide +kernel
theorem dX1_takeOver_93 : decode cX1_takeOver 93 = .ok (.getfield 37, 3) := by decide +kernel
theorem dX1_takeOver_96 : decode cX1_takeOver 96 = .ok (.iconst 0, 1) := by decide +kernel
theorem dX1_takeOver_97 : decode cX1_takeOver 97 = .ok (.aload_n 0, 1) := by decide +kernel
theorem dX1_takeOver_98 : decode cX1_takeOver 98 = .ok (.getfield 37, 3) := by decide +kernel
theorem dX1_takeOver_101 : decode cX1_takeOver 101 = .ok (.iconst 0, 1) := by decide +kernel
theorem dX1_takeOver_102 : decode cX1_takeOver 102 = .ok (.bipush 10, 2) := by decide +kernel
theorem dX1_takeOver_104 : decode cX1_takeOver 104 = .ok (.invokestatic 50, 3) := by decide +kernel
theorem dX1_takeOver_107 : decode cX1_takeOver 107 = .ok (.aload_n 0, 1) := by decide +kernel
theorem dX1_takeOver_108 : decode cX1_takeOver 108 = .ok (.aload_n 1, 1) := by decide +kernel
theorem dX1_takeOver_109 : decode cX1_takeOver 109 = .ok (.getfield 40, 3) := by decide +kernel
theorem dX1_takeOver_112 : decode cX1_takeOver 112 = .ok (.putfield 40, 3) := by decide +kernel
theorem dX1_takeOver_115 : decode cX1_takeOver 115 = .ok (.aload_n 1, 1) := by decide +kernel
theorem dX1_takeOver_116 : decode cX1_takeOver 116 = .ok (.getfield 43, 3) := by decide +kernel
theorem dX1_takeOver_119 : decode cX1_takeOver 119 = .ok (.iconst 0, 1) := by decide +kernel
theorem dX1_takeOver_120 : decode cX1_takeOver 120 = .ok (.aload_n 0, 1) := by decide +kernel
theorem dX1_takeOver_121 : decode cX1_takeOver 121 = .ok (.getfield 43, 3) := by decide +kernel
theorem dX1_takeOver_124 : decode cX1_takeOver 124 = .ok (.iconst 0, 1) := by decide +kernel
theorem dX1_takeOver_125 : decode cX1_takeOver 125 = .ok (.bipush 120, 2) := by decide +kernel
theorem dX1_takeOver_127 : decode cX1_takeOver 127 = .ok (.invokestatic 50, 3) := by decide +kernel
theorem dX1_takeOver_130 : decode cX1_takeOver 130 = .ok (.aload_n 0, 1) := by decide +kernel
theorem dX1_takeOver_131 : decode cX1_takeOver 131 = .ok (.aload_n 1, 1) := by decide +kernel
theorem dX1_takeOver_132 : decode cX1_takeOver 132 = .ok (.getfield 47, 3) := by decide +kernel
theorem dX1_takeOver_135 : decode cX1_takeOver 135 = .ok (.putfield 47, 3) := by decide +kernel
theorem dX1_takeOver_138 : decode cX1_takeOver 138 = .ok (.return_, 1) := by decide +kernel
theorem dX1_playerOn_0 : decode cX1_playerOn 0 = .ok (.iconst 0, 1) := by decide +kernel
theorem dX1_playerOn_1 : decode cX1_playerOn 1 = .ok (.istore_n 2, 1) := by decide +kernel
theorem dX1_playerOn_2 : decode cX1_playerOn 2 = .ok (.iload_n 2, 1) := by decide +kernel
theorem dX1_playerOn_3 : decode cX1_playerOn 3 = .ok (.aload_n 0, 1) := by decide +kernel
theorem dX1_playerOn_4 : decode cX1_playerOn 4 = .ok (.getfield 9, 3) := by decide +kernel
theorem dX1_playerOn_7 : decode cX1_playerOn 7 = .ok (.if_icmp .ge 21, 3) := by decide +kernel
theorem dX1_playerOn_10 : decode cX1_playerOn 10 = .ok (.aload_n 0, 1) := by decide +kernel
theorem dX1_playerOn_11 : decode cX1_playerOn 11 = .ok (.getfield 22, 3) := by decide +kernel
theorem dX1_playerOn_14 : decode cX1_playerOn 14 = .ok (.iload_n 2, 1) := by decide +kernel
theorem dX1_playerOn_15 : decode cX1_playerOn 15 = .ok (.iaload, 1) := by decide +kernel
theorem dX1_playerOn_16 : decode cX1_playerOn 16 = .ok (.iload_n 1, 1) := by decide +kernel
theorem dX1_playerOn_17 : decode cX1_playerOn 17 = .ok (.if_icmp .ne 5, 3) := by decide +kernel
theorem dX1_playerOn_20 : decode cX1_playerOn 20 = .ok (.iload_n 2, 1) := by decide +kernel
theorem dX1_playerOn_21 : decode cX1_playerOn 21 = .ok (.ireturn, 1) := by decide +kernel
theorem dX1_playerOn_22 : decode cX1_playerOn 22 = .ok (.iinc 2 1, 3) := by decide +kernel
theorem dX1_playerOn_25 : decode cX1_playerOn 25 = .ok (.goto (-23), 3) := by decide +kernel
theorem dX1_playerOn_28 : decode cX1_playerOn 28 = .ok (.iconst (-1), 1) := by decide +kernel
theorem dX1_playerOn_29 : decode cX1_playerOn 29 = .ok (.ireturn, 1) := by decide +kernel
theorem dX1_isInForm_0 : decode cX1_isInForm 0 = .ok (.iconst 0, 1) := by decide +kernel
theorem dX1_isInForm_1 : decode cX1_isInForm 1 = .ok (.istore_n 2, 1) := by decide +kernel
theorem dX1_isInForm_2 : decode cX1_isInForm 2 = .ok (.iload_n 2, 1) := by decide +kernel
theorem dX1_isInForm_3 : decode cX1_isInForm 3 = .ok (.aload_n 0, 1) := by decide +kernel
theorem dX1_isInForm_4 : decode cX1_isInForm 4 = .ok (.getfield 28, 3) := by decide +kernel
theorem dX1_isInForm_7 : decode cX1_isInForm 7 = .ok (.if_icmp .ge 21, 3) := by decide +kernel
theorem dX1_isInForm_10 : decode cX1_isInForm 10 = .ok (.aload_n 0, 1) := by decide +kernel
theorem dX1_isInForm_11 : decode cX1_isInForm 11 = .ok (.getfield 31, 3) := by decide +kernel
theorem dX1_isInForm_14 : decode cX1_isInForm 14 = .ok (.iload_n 2, 1) := by decide +kernel
theorem dX1_isInForm_15 : decode cX1_isInForm 15 = .ok (.iaload, 1) := by decide +kernel
theorem dX1_isInForm_16 : decode cX1_isInForm 16 = .ok (.iload_n 1, 1) := by decide +kernel
theorem dX1_isInForm_17 : decode cX1_isInForm 17 = .ok (.if_icmp .ne 5, 3) := by decide +kernel
theorem dX1_isInForm_20 : decode cX1_isInForm 20 = .ok (.iconst 1, 1) := by decide +kernel
theorem dX1_isInForm_21 : decode cX1_isInForm 21 = .ok (.ireturn, 1) := by decide +kernel
theorem dX1_isInForm_22 : decode cX1_isInForm 22 = .ok (.iinc 2 1, 3) := by decide +kernel
theorem dX1_isInForm_25 : decode cX1_isInForm 25 = .ok (.goto (-23), 3) := by decide +kernel
theorem dX1_isInForm_28 : decode cX1_isInForm 28 = .ok (.iconst 0, 1) := by decide +kernel
theorem dX1_isInForm_29 : decode cX1_isInForm 29 = .ok (.ireturn, 1) := by decide +kernel
theorem dX1_hasTooFewDots_0 : decode cX1_hasTooFewDots 0 = .ok (.aload_n 0, 1) := by decide +kernel
theorem dX1_hasTooFewDots_1 : decode cX1_hasTooFewDots 1 = .ok (.getfield 28, 3) := by decide +kernel
theorem dX1_hasTooFewDots_4 : decode cX1_hasTooFewDots 4 = .ok (.aload_n 0, 1) := by decide +kernel
theorem dX1_hasTooFewDots_5 : decode cX1_hasTooFewDots 5 = .ok (.getfield 9, 3) := by decide +kernel
theorem dX1_hasTooFewDots_8 : decode cX1_hasTooFewDots 8 = .ok (.if_icmp .ge 7, 3) := by decide +kernel
theorem dX1_hasTooFewDots_11 : decode cX1_hasTooFewDots 11 = .ok (.iconst 1, 1) := by decide +kernel
theorem dX1_hasTooFewDots_12 : decode cX1_hasTooFewDots 12 = .ok (.goto 4, 3) := by decide +kernel
theorem dX1_hasTooFewDots_15 : decode cX1_hasTooFewDots 15 = .ok (.iconst 0, 1) := by decide +kernel
theorem dX1_hasTooFewDots_16 : decode cX1_hasTooFewDots 16 = .ok (.ireturn, 1) := by decide +kernel
theorem dX1_meetHalfWay_0 : decode cX1_meetHalfWay 0 = .ok (.aload_n 0, 1) := by decide +kernel
theorem dX1_meetHalfWay_1 : decode cX1_meetHalfWay 1 = .ok (.getfield 22, 3) := by decide +kernel
theorem dX1_meetHalfWay_4 : decode cX1_meetHalfWay 4 = .ok (.iload_n 1, 1) := by decide +kernel
theorem dX1_meetHalfWay_5 : decode cX1_meetHalfWay 5 = .ok (.iaload, 1) := by decide +kernel
theorem dX1_meetHalfWay_6 : decode cX1_meetHalfWay 6 = .ok (.invokestatic 56, 3) := by decide +kernel
theorem dX1_meetHalfWay_9 : decode cX1_meetHalfWay 9 = .ok (.aload_n 0, 1) := by decide +kernel
theorem dX1_meetHalfWay_10 : decode cX1_meetHalfWay 10 = .ok (.getfield 31, 3) := by decide +kernel
theorem dX1_meetHalfWay_13 : decode cX1_meetHalfWay 13 = .ok (.iload_n 1, 1) := by decide +kernel
theorem dX1_meetHalfWay_14 : decode cX1_meetHalfWay 14 = .ok (.iaload, 1) := by decide +kernel
theorem dX1_meetHalfWay_15 : decode cX1_meetHalfWay 15 = .ok (.invokestatic 56, 3) := by decide +kernel
theorem dX1_meetHalfWay_18 : decode cX1_meetHalfWay 18 = .ok (.iadd, 1) := by decide +kernel
theorem dX1_meetHalfWay_19 : decode cX1_meetHalfWay 19 = .ok (.aload_n 0, 1) := by decide +kernel
theorem dX1_meetHalfWay_20 : decode cX1_meetHalfWay 20 = .ok (.getfield 22, 3) := by decide +kernel
theorem dX1_meetHalfWay_23 : decode cX1_meetHalfWay 23 = .ok (.iload_n 2, 1) := by decide +kernel
theorem dX1_meetHalfWay_24 : decode cX1_meetHalfWay 24 = .ok (.iaload, 1) := by decide +kernel
theorem dX1_meetHalfWay_25 : decode cX1_meetHalfWay 25 = .ok (.invokestatic 56, 3) := by decide +kernel
theorem dX1_meetHalfWay_28 : decode cX1_meetHalfWay 28 = .ok (.aload_n 0, 1) := by decide +kernel
theorem dX1_meetHalfWay_29 : decode cX1_meetHalfWay 29 = .ok (.getfield 31, 3) := by decide +kernel
theorem dX1_meetHalfWay_32 : decode cX1_meetHalfWay 32 = .ok (.iload_n 2, 1) := by decide +kernel
theorem dX1_meetHalfWay_33 : decode cX1_meetHalfWay 33 = .ok (.iaload, 1) := by decide +kernel
theorem dX1_meetHalfWay_34 : decode cX1_meetHalfWay 34 = .ok (.invokestatic 56, 3) := by decide +kernel
theorem dX1_meetHalfWay_37 : decode cX1_meetHalfWay 37 = .ok (.iadd, 1) := by decide +kernel
theorem dX1_meetHalfWay_38 : decode cX1_meetHalfWay 38 = .ok (.if_icmp .ne 48, 3) := by decide +kernel
theorem dX1_meetHalfWay_41 : decode cX1_meetHalfWay 41 = .ok (.aload_n 0, 1) := by decide +kernel
theorem dX1_meetHalfWay_42 : decode cX1_meetHalfWay 42 = .ok (.getfield 22, 3) := by decide +kernel
theorem dX1_meetHalfWay_45 : decode cX1_meetHalfWay 45 = .ok (.iload_n 1, 1) := by decide +kernel
theorem dX1_meetHalfWay_46 : decode cX1_meetHalfWay 46 = .ok (.iaload, 1) := by decide +kernel
theorem dX1_meetHalfWay_47 : decode cX1_meetHalfWay 47 = .ok (.invokestatic 60, 3) := by decide +kernel
theorem dX1_meetHalfWay_50 : decode cX1_meetHalfWay 50 = .ok (.aload_n 0, 1) := by decide +kernel
theorem dX1_meetHalfWay_51 : decode cX1_meetHalfWay 51 = .ok (.getfield 31, 3) := by decide +kernel
theorem dX1_meetHalfWay_54 : decode cX1_meetHalfWay 54 = .ok (.iload_n 1, 1) := by decide +kernel
theorem dX1_meetHalfWay_55 : decode cX1_meetHalfWay 55 = .ok (.iaload, 1) := by decide +kernel
theorem dX1_meetHalfWay_56 : decode cX1_meetHalfWay 56 = .ok (.invokestatic 60, 3) := by decide +kernel
theorem dX1_meetHalfWay_59 : decode cX1_meetHalfWay 59 = .ok (.iadd, 1) := by decide +kernel
theorem dX1_meetHalfWay_60 : decode cX1_meetHalfWay 60 = .ok (.aload_n 0, 1) := by decide +kernel
theorem dX1_meetHalfWay_61 : decode cX1_meetHalfWay 61 = .ok (.getfield 22, 3) := by decide +kernel
theorem dX1_meetHalfWay_64 : decode cX1_meetHalfWay 64 = .ok (.iload_n 2, 1) := by decide +kernel
theorem dX1_meetHalfWay_65 : decode cX1_meetHalfWay 65 = .ok (.iaload, 1) := by decide +kernel
theorem dX1_meetHalfWay_66 : decode cX1_meetHalfWay 66 = .ok (.invokestatic 60, 3) := by decide +kernel
theorem dX1_meetHalfWay_69 : decode cX1_meetHalfWay 69 = .ok (.aload_n 0, 1) := by decide +kernel
theorem dX1_meetHalfWay_70 : decode cX1_meetHalfWay 70 = .ok (.getfield 31, 3) := by decide +kernel
theorem dX1_meetHalfWay_73 : decode cX1_meetHalfWay 73 = .ok (.iload_n 2, 1) := by decide +kernel
theorem dX1_meetHalfWay_74 : decode cX1_meetHalfWay 74 = .ok (.iaload, 1) := by decide +kernel
theorem dX1_meetHalfWay_75 : decode cX1_meetHalfWay 75 = .ok (.invokestatic 60, 3) := by decide +kernel
theorem dX1_meetHalfWay_78 : decode cX1_meetHalfWay 78 = .ok (.iadd, 1) := by decide +kernel
theorem dX1_meetHalfWay_79 : decode cX1_meetHalfWay 79 = .ok (.if_icmp .ne 7, 3) := by decide +kernel
theorem dX1_meetHalfWay_82 : decode cX1_meetHalfWay 82 = .ok (.iconst 1, 1) := by decide +kernel
theorem dX1_meetHalfWay_83 : decode cX1_meetHalfWay 83 = .ok (.goto 4, 3) := by decide +kernel
theorem dX1_meetHalfWay_86 : decode cX1_meetHalfWay 86 = .ok (.iconst 0, 1) := by decide +kernel
theorem dX1_meetHalfWay_87 : decode cX1_meetHalfWay 87 = .ok (.ireturn, 1) := by decide +kernel
theorem dX2_init_0 : decode cX2_init 0 = .ok (.aload_n 0, 1) := by decide +kernel
theorem dX2_init_1 : decode cX2_init 1 = .ok (.invokespecial 3, 3) := by decide +kernel
theorem dX2_init_4 : decode cX2_init 4 = .ok (.aload_n 0, 1) := by decide +kernel
theorem dX2_init_5 : decode cX2_init 5 = .ok (.iconst 0, 1) := by decide +kernel
theorem dX2_init_6 : decode cX2_init 6 = .ok (.putfield 9, 3) := by decide +kernel
theorem dX2_init_9 : decode cX2_init 9 = .ok (.aload_n 0, 1) := by decide +kernel
theorem dX2_init_10 : decode cX2_init 10 = .ok (.aload_n 1, 1) := by decide +kernel
theorem dX2_init_11 : decode cX2_init 11 = .ok (.putfield 15, 3) := by decide +kernel
theorem dX2_init_14 : decode cX2_init 14 = .ok (.aload_n 0, 1) := by decide +kernel
theorem dX2_init_15 : decode cX2_init 15 = .ok (.aload_n 2, 1) := by decide +kernel
theorem dX2_init_16 : decode cX2_init 16 = .ok (.putfield 19, 3) := by decide +kernel
theorem dX2_init_19 : decode cX2_init 19 = .ok (.return_, 1) := by decide +kernel
theorem dX2_readInto_0 : decode cX2_readInto 0 = .ok (.aload_n 0, 1) := by decide +kernel
theorem dX2_readInto_1 : decode cX2_readInto 1 = .ok (.aload_n 1, 1) := by decide +kernel
theorem dX2_readInto_2 : decode cX2_readInto 2 = .ok (.putfield 19, 3) := by decide +kernel
theorem dX2_readInto_5 : decode cX2_readInto 5 = .ok (.aload_n 0, 1) := by decide +kernel
theorem dX2_readInto_6 : decode cX2_readInto 6 = .ok (.getfield 19, 3) := by decide +kernel
theorem dX2_readInto_9 : decode cX2_readInto 9 = .ok (.invokevirtual 23, 3) := by decide +kernel
theorem dX2_readInto_12 : decode cX2_readInto 12 = .ok (.aload_n 0, 1) := by decide +kernel
theorem dX2_readInto_13 : decode cX2_readInto 13 = .ok (.iconst 0, 1) := by decide +kernel
theorem dX2_readInto_14 : decode cX2_readInto 14 = .ok (.putfield 9, 3) := by decide +kernel
theorem dX2_readInto_17 : decode cX2_readInto 17 = .ok (.iconst 1, 1) := by decide +kernel
theorem dX2_readInto_18 : decode cX2_readInto 18 = .ok (.istore_n 2, 1) := by decide +kernel
theorem dX2_readInto_19 : decode cX2_readInto 19 = .ok (.iload_n 2, 1) := by decide +kernel
theorem dX2_readInto_20 : decode cX2_readInto 20 = .ok (.bipush 10, 2) := by decide +kernel
theorem dX2_readInto_22 : decode cX2_readInto 22 = .ok (.if_icmp .gt 57, 3) := by decide +kernel
theorem dX2_readInto_25 : decode cX2_readInto 25 = .ok (.aload_n 0, 1) := by decide +kernel
theorem dX2_readInto_26 : decode cX2_readInto 26 = .ok (.invokevirtual 28, 3) := by decide +kernel
theorem dX2_readInto_29 : decode cX2_readInto 29 = .ok (.ifCond .ne 8, 3) := by decide +kernel
theorem dX2_readInto_32 : decode cX2_readInto 32 = .ok (.aload_n 0, 1) := by decide +kernel
theorem dX2_readInto_33 : decode cX2_readInto 33 = .ok (.getfield 9, 3) := by decide +kernel
theorem dX2_readInto_36 : decode cX2_readInto 36 = .ok (.ireturn, 1) := by decide +kernel
theorem dX2_readInto_37 : decode cX2_readInto 37 = .ok (.aload_n 0, 1) := by decide +kernel
theorem dX2_readInto_38 : decode cX2_readInto 38 = .ok (.getfield 9, 3) := by decide +kernel
theorem dX2_readInto_41 : decode cX2_readInto 41 = .ok (.aload_n 0, 1) := by decide +kernel
theorem dX2_readInto_42 : decode cX2_readInto 42 = .ok (.getfield 15, 3) := by decide +kernel
theorem dX2_readInto_45 : decode cX2_readInto 45 = .ok (.getfield 32, 3) := by decide +kernel
theorem dX2_readInto_48 : decode cX2_readInto 48 = .ok (.if_icmp .ne 5, 3) := by decide +kernel
theorem dX2_readInto_51 : decode cX2_readInto 51 = .ok (.iconst (-1), 1) := by decide +kernel
theorem dX2_readInto_52 : decode cX2_readInto 52 = .ok (.ireturn, 1) := by decide +kernel
theorem dX2_readInto_53 : decode cX2_readInto 53 = .ok (.iload_n 2, 1) := by decide +kernel
theorem dX2_readInto_54 : decode cX2_readInto 54 = .ok (.bipush 10, 2) := by decide +kernel
theorem dX2_readInto_56 : decode cX2_readInto 56 = .ok (.if_icmp .eq 12, 3) := by decide +kernel
theorem dX2_readInto_59 : decode cX2_readInto 59 = .ok (.aload_n 0, 1) := by decide +kernel
theorem dX2_readInto_60 : decode cX2_readInto 60 = .ok (.ldc 37, 2) := by decide +kernel
theorem dX2_readInto_62 : decode cX2_readInto 62 = .ok (.invokevirtual 39, 3) := by decide +kernel
theorem dX2_readInto_65 : decode cX2_readInto 65 = .ok (.ifCond .ne 8, 3) := by decide +kernel
theorem dX2_readInto_68 : decode cX2_readInto 68 = .ok (.aload_n 0, 1) := by decide +kernel
theorem dX2_readInto_69 : decode cX2_readInto 69 = .ok (.getfield 9, 3) := by decide +kernel
theorem dX2_readInto_72 : decode cX2_readInto 72 = .ok (.ireturn, 1) := by decide +kernel
theorem dX2_readInto_73 : decode cX2_readInto 73 = .ok (.iinc 2 1, 3) := by decide +kernel
theorem dX2_readInto_76 : decode cX2_readInto 76 = .ok (.goto (-57), 3) := by decide +kernel
theorem dX2_readInto_79 : decode cX2_readInto 79 = .ok (.aload_n 0, 1) := by decide +kernel
theorem dX2_readInto_80 : decode cX2_readInto 80 = .ok (.getfield 9, 3) := by decide +kernel
theorem dX2_readInto_83 : decode cX2_readInto 83 = .ok (.ireturn, 1) := by decide +kernel
theorem dX2_readClause_0 : decode cX2_readClause 0 = .ok (.aload_n 0, 1) := by decide +kernel
theorem dX2_readClause_1 : decode cX2_readClause 1 = .ok (.invokevirtual 43, 3) := by decide +kernel
theorem dX2_readClause_4 : decode cX2_readClause 4 = .ok (.istore_n 1, 1) := by decide +kernel
theorem dX2_readClause_5 : decode cX2_readClause 5 = .ok (.iload_n 1, 1) := by decide +kernel
theorem dX2_readClause_6 : decode cX2_readClause 6 = .ok (.iconst (-1), 1) := by decide +kernel
theorem dX2_readClause_7 : decode cX2_readClause 7 = .ok (.if_icmp .eq 12, 3) := by decide +kernel
theorem dX2_readClause_10 : decode cX2_readClause 10 = .ok (.aload_n 0, 1) := by decide +kernel
theorem dX2_readClause_11 : decode cX2_readClause 11 = .ok (.ldc 47, 2) := by decide +kernel
theorem dX2_readClause_13 : decode cX2_readClause 13 = .ok (.invokevirtual 39, 3) := by decide +kernel
theorem dX2_readClause_16 : decode cX2_readClause 16 = .ok (.ifCond .ne 5, 3) := by decide +kernel
theorem dX2_readClause_19 : decode cX2_readClause 19 = .ok (.iconst 0, 1) := by decide +kernel
theorem dX2_readClause_20 : decode cX2_readClause 20 = .ok (.ireturn, 1) := by decide +kernel
theorem dX2_readClause_21 : decode cX2_readClause 21 = .ok (.aload_n 0, 1) := by decide +kernel
theorem dX2_readClause_22 : decode cX2_readClause 22 = .ok (.invokevirtual 49, 3) := by decide +kernel
theorem dX2_readClause_25 : decode cX2_readClause 25 = .ok (.istore_n 2, 1) := by decide +kernel
theorem dX2_readClause_26 : decode cX2_readClause 26 = .ok (.iload_n 2, 1) := by decide +kernel
theorem dX2_readClause_27 : decode cX2_readClause 27 = .ok (.iconst (-1), 1) := by decide +kernel
theorem dX2_readClause_28 : decode cX2_readClause 28 = .ok (.if_icmp .ne 5, 3) := by decide +kernel
theorem dX2_readClause_31 : decode cX2_readClause 31 = .ok (.iconst 0, 1) := by decide +kernel
theorem dX2_readClause_32 : decode cX2_readClause 32 = .ok (.ireturn, 1) := by decide +kernel
theorem dX2_readClause_33 : decode cX2_readClause 33 = .ok (.aload_n 0, 1) := by decide +kernel
theorem dX2_readClause_34 : decode cX2_readClause 34 = .ok (.getfield 19, 3) := by decide +kernel
theorem dX2_readClause_37 : decode cX2_readClause 37 = .ok (.getfield 52, 3) := by decide +kernel
theorem dX2_readClause_40 : decode cX2_readClause 40 = .ok (.istore_n 3, 1) := by decide +kernel
theorem dX2_readClause_41 : decode cX2_readClause 41 = .ok (.iload_n 1, 1) := by decide +kernel
theorem dX2_readClause_42 : decode cX2_readClause 42 = .ok (.ifCond .eq 8, 3) := by decide +kernel
theorem dX2_readClause_45 : decode cX2_readClause 45 = .ok (.iload_n 1, 1) := by decide +kernel
theorem dX2_readClause_46 : decode cX2_readClause 46 = .ok (.iconst 1, 1) := by decide +kernel
theorem dX2_readClause_47 : decode cX2_readClause 47 = .ok (.if_icmp .ne 22, 3) := by decide +kernel
theorem dX2_readClause_50 : decode cX2_readClause 50 = .ok (.aload_n 0, 1) := by decide +kernel
theorem dX2_readClause_51 : decode cX2_readClause 51 = .ok (.ldc 47, 2) := by decide +kernel
theorem dX2_readClause_53 : decode cX2_readClause 53 = .ok (.invokevirtual 39, 3) := by decide +kernel
theorem dX2_readClause_56 : decode cX2_readClause 56 = .ok (.ifCond .eq 11, 3) := by decide +kernel
theorem dX2_readClause_59 : decode cX2_readClause 59 = .ok (.aload_n 0, 1) := by decide +kernel
theorem dX2_readClause_60 : decode cX2_readClause 60 = .ok (.iconst 0, 1) := by decide +kernel
theorem dX2_readClause_61 : decode cX2_readClause 61 = .ok (.invokevirtual 55, 3) := by decide +kernel
theorem dX2_readClause_64 : decode cX2_readClause 64 = .ok (.ifCond .ne 5, 3) := by decide +kernel
theorem dX2_readClause_67 : decode cX2_readClause 67 = .ok (.iconst 0, 1) := by decide +kernel
theorem dX2_readClause_68 : decode cX2_readClause 68 = .ok (.ireturn, 1) := by decide +kernel
theorem dX2_readClause_69 : decode cX2_readClause 69 = .ok (.aload_n 0, 1) := by decide +kernel
theorem dX2_readClause_70 : decode cX2_readClause 70 = .ok (.getfield 19, 3) := by decide +kernel
theorem dX2_readClause_73 : decode cX2_readClause 73 = .ok (.iload_n 1, 1) := by decide +kernel
theorem dX2_readClause_74 : decode cX2_readClause 74 = .ok (.iload_n 2, 1) := by decide +kernel
theorem dX2_readClause_75 : decode cX2_readClause 75 = .ok (.iload_n 3, 1) := by decide +kernel
theorem dX2_readClause_76 : decode cX2_readClause 76 = .ok (.invokevirtual 59, 3) := by decide +kernel
theorem dX2_readClause_79 : decode cX2_readClause 79 = .ok (.iconst 1, 1) := by decide +kernel
theorem dX2_readClause_80 : decode cX2_readClause 80 = .ok (.ireturn, 1) := by decide +kernel
theorem dX2_readWord_0 : decode cX2_readWord 0 = .ok (.iconst 0, 1) := by decide +kernel
theorem dX2_readWord_1 : decode cX2_readWord 1 = .ok (.istore_n 1, 1) := by decide +kernel
theorem dX2_readWord_2 : decode cX2_readWord 2 = .ok (.iconst 0, 1) := by decide +kernel
theorem dX2_readWord_3 : decode cX2_readWord 3 = .ok (.istore_n 2, 1) := by decide +kernel
theorem dX2_readWord_4 : decode cX2_readWord 4 = .ok (.iload_n 2, 1) := by decide +kernel
theorem dX2_readWord_5 : decode cX2_readWord 5 = .ok (.iconst 5, 1) := by decide +kernel
theorem dX2_readWord_6 : decode cX2_readWord 6 = .ok (.if_icmp .ge 50, 3) := by decide +kernel
theorem dX2_readWord_9 : decode cX2_readWord 9 = .ok (.iload_n 2, 1) := by decide +kernel
theorem dX2_readWord_10 : decode cX2_readWord 10 = .ok (.invokestatic 63, 3) := by decide +kernel
theorem dX2_readWord_13 : decode cX2_readWord 13 = .ok (.astore_n 3, 1) := by decide +kernel
theorem dX2_readWord_14 : decode cX2_readWord 14 = .ok (.aload_n 0, 1) := by decide +kernel
theorem dX2_readWord_15 : decode cX2_readWord 15 = .ok (.aload_n 3, 1) := by decide +kernel
theorem dX2_readWord_16 : decode cX2_readWord 16 = .ok (.invokevirtual 67, 3) := by decide +kernel
theorem dX2_readWord_19 : decode cX2_readWord 19 = .ok (.istore 4, 2) := by decide +kernel
theorem dX2_readWord_21 : decode cX2_readWord 21 = .ok (.iload 4, 2) := by decide +kernel
theorem dX2_readWord_23 : decode cX2_readWord 23 = .ok (.aload_n 3, 1) := by decide +kernel
theorem dX2_readWord_24 : decode cX2_readWord 24 = .ok (.invokevirtual 71, 3) := by decide +kernel
theorem dX2_readWord_27 : decode cX2_readWord 27 = .ok (.if_icmp .ne 16, 3) := by decide +kernel
theorem dX2_readWord_30 : decode cX2_readWord 30 = .ok (.aload_n 0, 1) := by decide +kernel
theorem dX2_readWord_31 : decode cX2_readWord 31 = .ok (.dup, 1) := by decide +kernel
theorem dX2_readWord_32 : decode cX2_readWord 32 = .ok (.getfield 9, 3) := by decide +kernel
theorem dX2_readWord_35 : decode cX2_readWord 35 = .ok (.iload 4, 2) := by decide +kernel
theorem dX2_readWord_37 : decode cX2_readWord 37 = .ok (.iadd, 1) := by decide +kernel
theorem dX2_readWord_38 : decode cX2_readWord 38 = .ok (.putfield 9, 3) := by decide +kernel
theorem dX2_readWord_41 : decode cX2_readWord 41 = .ok (.iload_n 2, 1) := by decide +kernel
theorem dX2_readWord_42 : decode cX2_readWord 42 = .ok (.ireturn, 1) := by decide +kernel
theorem dX2_readWord_43 : decode cX2_readWord 43 = .ok (.iload_n 1, 1) := by decide +kernel
theorem dX2_readWord_44 : decode cX2_readWord 44 = .ok (.iload 4, 2) := by decide +kernel
theorem dX2_readWord_46 : decode cX2_readWord 46 = .ok (.invokestatic 76, 3) := by decide +kernel
theorem dX2_readWord_49 : decode cX2_readWord 49 = .ok (.istore_n 1, 1) := by decide +kernel
theorem dX2_readWord_50 : decode cX2_readWord 50 = .ok (.iinc 2 1, 3) := by decide +kernel
theorem dX2_readWord_53 : decode cX2_readWord 53 = .ok (.goto (-49), 3) := by decide +kernel
theorem dX2_readWord_56 : decode cX2_readWord 56 = .ok (.aload_n 0, 1) := by decide +kernel
theorem dX2_readWord_57 : decode cX2_readWord 57 = .ok (.dup, 1) := by decide +kernel
theorem dX2_readWord_58 : decode cX2_readWord 58 = .ok (.getfield 9, 3) := by decide +kernel
theorem dX2_readWord_61 : decode cX2_readWord 61 = .ok (.iload_n 1, 1) := by decide +kernel
theorem dX2_readWord_62 : decode cX2_readWord 62 = .ok (.iadd, 1) := by decide +kernel
theorem dX2_readWord_63 : decode cX2_readWord 63 = .ok (.putfield 9, 3) := by decide +kernel
theorem dX2_readWord_66 : decode cX2_readWord 66 = .ok (.iconst (-1), 1) := by decide +kernel
theorem dX2_readWord_67 : decode cX2_readWord 67 = .ok (.ireturn, 1) := by decide +kernel
theorem dX2_textOf_0 : decode cX2_textOf 0 = .ok (.iload_n 0, 1) := by decide +kernel
theorem dX2_textOf_1 : decode cX2_textOf 1 = .ok (.tableswitch 43 0 3 #[31, 34, 37, 40], 31) := by decide +kernel
theorem dX2_textOf_32 : decode cX2_textOf 32 = .ok (.ldc 82, 2) := by decide +kernel
theorem dX2_textOf_34 : decode cX2_textOf 34 = .ok (.areturn, 1) := by decide +kernel
theorem dX2_textOf_35 : decode cX2_textOf 35 = .ok (.ldc 84, 2) := by decide +kernel
theorem dX2_textOf_37 : decode cX2_textOf 37 = .ok (.areturn, 1) := by decide +kernel
theorem dX2_textOf_38 : decode cX2_textOf 38 = .ok (.ldc 86, 2) := by decide +kernel
theorem dX2_textOf_40 : decode cX2_textOf 40 = .ok (.areturn, 1) := by decide +kernel
theorem dX2_textOf_41 : decode cX2_textOf 41 = .ok (.ldc 88, 2) := by decide +kernel
theorem dX2_textOf_43 : decode cX2_textOf 43 = .ok (.areturn, 1) := by decide +kernel
theorem dX2_textOf_44 : decode cX2_textOf 44 = .ok (.ldc 90, 2) := by decide +kernel
theorem dX2_textOf_46 : decode cX2_textOf 46 = .ok (.areturn, 1) := by decide +kernel
theorem dX2_sameSigns_0 : decode cX2_sameSigns 0 = .ok (.iconst 0, 1) := by decide +kernel
theorem dX2_sameSigns_1 : decode cX2_sameSigns 1 = .ok (.istore_n 2, 1) := by decide +kernel
theorem dX2_sameSigns_2 : decode cX2_sameSigns 2 = .ok (.iload_n 2, 1) := by decide +kernel
theorem dX2_sameSigns_3 : decode cX2_sameSigns 3 = .ok (.aload_n 1, 1) := by decide +kernel
theorem dX2_sameSigns_4 : decode cX2_sameSigns 4 = .ok (.invokevirtual 71, 3) := by decide +kernel
theorem dX2_sameSigns_7 : decode cX2_sameSigns 7 = .ok (.if_icmp .ge 47, 3) := by decide +kernel
theorem dX2_sameSigns_10 : decode cX2_sameSigns 10 = .ok (.aload_n 0, 1) := by decide +kernel
theorem dX2_sameSigns_11 : decode cX2_sameSigns 11 = .ok (.getfield 9, 3) := by decide +kernel
theorem dX2_sameSigns_14 : decode cX2_sameSigns 14 = .ok (.iload_n 2, 1) := by decide +kernel
theorem dX2_sameSigns_15 : decode cX2_sameSigns 15 = .ok (.iadd, 1) := by decide +kernel
theorem dX2_sameSigns_16 : decode cX2_sameSigns 16 = .ok (.aload_n 0, 1) := by decide +kernel
theorem dX2_sameSigns_17 : decode cX2_sameSigns 17 = .ok (.getfield 15, 3) := by decide +kernel
theorem dX2_sameSigns_20 : decode cX2_sameSigns 20 = .ok (.getfield 32, 3) := by decide +kernel
theorem dX2_sameSigns_23 : decode cX2_sameSigns 23 = .ok (.if_icmp .ge 31, 3) := by decide +kernel
theorem dX2_sameSigns_26 : decode cX2_sameSigns 26 = .ok (.aload_n 0, 1) := by decide +kernel
theorem dX2_sameSigns_27 : decode cX2_sameSigns 27 = .ok (.getfield 15, 3) := by decide +kernel
theorem dX2_sameSigns_30 : decode cX2_sameSigns 30 = .ok (.getfield 92, 3) := by decide +kernel
theorem dX2_sameSigns_33 : decode cX2_sameSigns 33 = .ok (.aload_n 0, 1) := by decide +kernel
theorem dX2_sameSigns_34 : decode cX2_sameSigns 34 = .ok (.getfield 9, 3) := by decide +kernel
theorem dX2_sameSigns_37 : decode cX2_sameSigns 37 = .ok (.iload_n 2, 1) := by decide +kernel
theorem dX2_sameSigns_38 : decode cX2_sameSigns 38 = .ok (.iadd, 1) := by decide +kernel
theorem dX2_sameSigns_39 : decode cX2_sameSigns 39 = .ok (.baload, 1) := by decide +kernel
theorem dX2_sameSigns_40 : decode cX2_sameSigns 40 = .ok (.aload_n 1, 1) := by decide +kernel
theorem dX2_sameSigns_41 : decode cX2_sameSigns 41 = .ok (.iload_n 2, 1) := by decide +kernel
theorem dX2_sameSigns_42 : decode cX2_sameSigns 42 = .ok (.invokevirtual 96, 3) := by decide +kernel
theorem dX2_sameSigns_45 : decode cX2_sameSigns 45 = .ok (.if_icmp .ne 9, 3) := by decide +kernel
theorem dX2_sameSigns_48 : decode cX2_sameSigns 48 = .ok (.iinc 2 1, 3) := by decide +kernel
theorem dX2_sameSigns_51 : decode cX2_sameSigns 51 = .ok (.goto (-49), 3) := by decide +kernel
theorem dX2_sameSigns_54 : decode cX2_sameSigns 54 = .ok (.iload_n 2, 1) := by decide +kernel
theorem dX2_sameSigns_55 : decode cX2_sameSigns 55 = .ok (.ireturn, 1) := by decide +kernel
theorem dX2_readEither_0 : decode cX2_readEither 0 = .ok (.aload_n 0, 1) := by decide +kernel
theorem dX2_readEither_1 : decode cX2_readEither 1 = .ok (.iload_n 1, 1) := by decide +kernel
theorem dX2_readEither_2 : decode cX2_readEither 2 = .ok (.invokevirtual 100, 3) := by decide +kernel
theorem dX2_readEither_5 : decode cX2_readEither 5 = .ok (.ifCond .ne 5, 3) := by decide +kernel
theorem dX2_readEither_8 : decode cX2_readEither 8 = .ok (.iconst 0, 1) := by decide +kernel
theorem dX2_readEither_9 : decode cX2_readEither 9 = .ok (.ireturn, 1) := by decide +kernel
theorem dX2_readEither_10 : decode cX2_readEither 10 = .ok (.iconst 0, 1) := by decide +kernel
theorem dX2_readEither_11 : decode cX2_readEither 11 = .ok (.istore_n 2, 1) := by decide +kernel
theorem dX2_readEither_12 : decode cX2_readEither 12 = .ok (.iload_n 2, 1) := by decide +kernel
theorem dX2_readEither_13 : decode cX2_readEither 13 = .ok (.bipush 120, 2) := by decide +kernel
theorem dX2_readEither_15 : decode cX2_readEither 15 = .ok (.if_icmp .ge 37, 3) := by decide +kernel
theorem dX2_readEither_18 : decode cX2_readEither 18 = .ok (.aload_n 0, 1) := by decide +kernel
theorem dX2_readEither_19 : decode cX2_readEither 19 = .ok (.ldc 103, 2) := by decide +kernel
theorem dX2_readEither_21 : decode cX2_readEither 21 = .ok (.invokevirtual 39, 3) := by decide +kernel
theorem dX2_readEither_24 : decode cX2_readEither 24 = .ok (.ifCond .eq 28, 3) := by decide +kernel
theorem dX2_readEither_27 : decode cX2_readEither 27 = .ok (.aload_n 0, 1) := by decide +kernel
theorem dX2_readEither_28 : decode cX2_readEither 28 = .ok (.iload_n 1, 1) := by decide +kernel
theorem dX2_readEither_29 : decode cX2_readEither 29 = .ok (.invokevirtual 100, 3) := by decide +kernel
theorem dX2_readEither_32 : decode cX2_readEither 32 = .ok (.ifCond .ne 5, 3) := by decide +kernel
theorem dX2_readEither_35 : decode cX2_readEither 35 = .ok (.iconst 0, 1) := by decide +kernel
theorem dX2_readEither_36 : decode cX2_readEither 36 = .ok (.ireturn, 1) := by decide +kernel
theorem dX2_readEither_37 : decode cX2_readEither 37 = .ok (.aload_n 0, 1) := by decide +kernel
theorem dX2_readEither_38 : decode cX2_readEither 38 = .ok (.getfield 19, 3) := by decide +kernel
theorem dX2_readEither_41 : decode cX2_readEither 41 = .ok (.bipush (-3), 2) := by decide +kernel
theorem dX2_readEither_43 : decode cX2_readEither 43 = .ok (.invokevirtual 105, 3) := by decide +kernel
theorem dX2_readEither_46 : decode cX2_readEither 46 = .ok (.iinc 2 1, 3) := by decide +kernel
theorem dX2_readEither_49 : decode cX2_readEither 49 = .ok (.goto (-37), 3) := by decide +kernel
theorem dX2_readEither_52 : decode cX2_readEither 52 = .ok (.iconst 1, 1) := by decide +kernel
theorem dX2_readEither_53 : decode cX2_readEither 53 = .ok (.ireturn, 1) := by decide +kernel
theorem dX2_readBoth_0 : decode cX2_readBoth 0 = .ok (.aload_n 0, 1) := by decide +kernel
theorem dX2_readBoth_1 : decode cX2_readBoth 1 = .ok (.iload_n 1, 1) := by decide +kernel
theorem dX2_readBoth_2 : decode cX2_readBoth 2 = .ok (.invokevirtual 109, 3) := by decide +kernel
theorem dX2_readBoth_5 : decode cX2_readBoth 5 = .ok (.ifCond .ne 5, 3) := by decide +kernel
theorem dX2_readBoth_8 : decode cX2_readBoth 8 = .ok (.iconst 0, 1) := by decide +kernel
theorem dX2_readBoth_9 : decode cX2_readBoth 9 = .ok (.ireturn, 1) := by decide +kernel
theorem dX2_readBoth_10 : decode cX2_readBoth 10 = .ok (.iconst 0, 1) := by decide +kernel
theorem dX2_readBoth_11 : decode cX2_readBoth 11 = .ok (.istore_n 2, 1) := by decide +kernel
theorem dX2_readBoth_12 : decode cX2_readBoth 12 = .ok (.iload_n 2, 1) := by decide +kernel
theorem dX2_readBoth_13 : decode cX2_readBoth 13 = .ok (.bipush 120, 2) := by decide +kernel
theorem dX2_readBoth_15 : decode cX2_readBoth 15 = .ok (.if_icmp .ge 37, 3) := by decide +kernel
theorem dX2_readBoth_18 : decode cX2_readBoth 18 = .ok (.aload_n 0, 1) := by decide +kernel
theorem dX2_readBoth_19 : decode cX2_readBoth 19 = .ok (.ldc 112, 2) := by decide +kernel
theorem dX2_readBoth_21 : decode cX2_readBoth 21 = .ok (.invokevirtual 39, 3) := by decide +kernel
theorem dX2_readBoth_24 : decode cX2_readBoth 24 = .ok (.ifCond .eq 28, 3) := by decide +kernel
theorem dX2_readBoth_27 : decode cX2_readBoth 27 = .ok (.aload_n 0, 1) := by decide +kernel
theorem dX2_readBoth_28 : decode cX2_readBoth 28 = .ok (.iload_n 1, 1) := by decide +kernel
theorem dX2_readBoth_29 : decode cX2_readBoth 29 = .ok (.invokevirtual 109, 3) := by decide +kernel
theorem dX2_readBoth_32 : decode cX2_readBoth 32 = .ok (.ifCond .ne 5, 3) := by decide +kernel
theorem dX2_readBoth_35 : decode cX2_readBoth 35 = .ok (.iconst 0, 1) := by decide +kernel
theorem dX2_readBoth_36 : decode cX2_readBoth 36 = .ok (.ireturn, 1) := by decide +kernel
theorem dX2_readBoth_37 : decode cX2_readBoth 37 = .ok (.aload_n 0, 1) := by decide +kernel
theorem dX2_readBoth_38 : decode cX2_readBoth 38 = .ok (.getfield 19, 3) := by decide +kernel
theorem dX2_readBoth_41 : decode cX2_readBoth 41 = .ok (.bipush (-2), 2) := by decide +kernel
theorem dX2_readBoth_43 : decode cX2_readBoth 43 = .ok (.invokevirtual 105, 3) := by decide +kernel
theorem dX2_readBoth_46 : decode cX2_readBoth 46 = .ok (.iinc 2 1, 3) := by decide +kernel
theorem dX2_readBoth_49 : decode cX2_readBoth 49 = .ok (.goto (-37), 3) := by decide +kernel
theorem dX2_readBoth_52 : decode cX2_readBoth 52 = .ok (.iconst 1, 1) := by decide +kernel
theorem dX2_readBoth_53 : decode cX2_readBoth 53 = .ok (.ireturn, 1) := by decide +kernel
theorem dX2_readFactor_0 : decode cX2_readFactor 0 = .ok (.iload_n 1, 1) := by decide +kernel
theorem dX2_readFactor_1 : decode cX2_readFactor 1 = .ok (.iconst 5, 1) := by decide +kernel
theorem dX2_readFactor_2 : decode cX2_readFactor 2 = .ok (.if_icmp .ge 34, 3) := by decide +kernel
theorem dX2_readFactor_5 : decode cX2_readFactor 5 = .ok (.aload_n 0, 1) := by decide +kernel
theorem dX2_readFactor_6 : decode cX2_readFactor 6 = .ok (.ldc 114, 2) := by decide +kernel
theorem dX2_readFactor_8 : decode cX2_readFactor 8 = .ok (.invokevirtual 39, 3) := by decide +kernel
theorem dX2_readFactor_11 : decode cX2_readFactor 11 = .ok (.ifCond .eq 25, 3) := by decide +kernel
theorem dX2_readFactor_14 : decode cX2_readFactor 14 = .ok (.aload_n 0, 1) := by decide +kernel
theorem dX2_readFactor_15 : decode cX2_readFactor 15 = .ok (.iload_n 1, 1) := by decide +kernel
theorem dX2_readFactor_16 : decode cX2_readFactor 16 = .ok (.iconst 1, 1) := by decide +kernel
theorem dX2_readFactor_17 : decode cX2_readFactor 17 = .ok (.iadd, 1) := by decide +kernel
theorem dX2_readFactor_18 : decode cX2_readFactor 18 = .ok (.invokevirtual 109, 3) := by decide +kernel
theorem dX2_readFactor_21 : decode cX2_readFactor 21 = .ok (.ifCond .ne 5, 3) := by decide +kernel
theorem dX2_readFactor_24 : decode cX2_readFactor 24 = .ok (.iconst 0, 1) := by decide +kernel
theorem dX2_readFactor_25 : decode cX2_readFactor 25 = .ok (.ireturn, 1) := by decide +kernel
theorem dX2_readFactor_26 : decode cX2_readFactor 26 = .ok (.aload_n 0, 1) := by decide +kernel
theorem dX2_readFactor_27 : decode cX2_readFactor 27 = .ok (.getfield 19, 3) := by decide +kernel
theorem dX2_readFactor_30 : decode cX2_readFactor 30 = .ok (.iconst (-1), 1) := by decide +kernel
theorem dX2_readFactor_31 : decode cX2_readFactor 31 = .ok (.invokevirtual 105, 3) := by decide +kernel
theorem dX2_readFactor_34 : decode cX2_readFactor 34 = .ok (.iconst 1, 1) := by decide +kernel
theorem dX2_readFactor_35 : decode cX2_readFactor 35 = .ok (.ireturn, 1) := by decide +kernel
theorem dX2_readFactor_36 : decode cX2_readFactor 36 = .ok (.iload_n 1, 1) := by decide +kernel
theorem dX2_readFactor_37 : decode cX2_readFactor 37 = .ok (.iconst 5, 1) := by decide +kernel
theorem dX2_readFactor_38 : decode cX2_readFactor 38 = .ok (.if_icmp .ge 37, 3) := by decide +kernel
theorem dX2_readFactor_41 : decode cX2_readFactor 41 = .ok (.aload_n 0, 1) := by decide +kernel
theorem dX2_readFactor_42 : decode cX2_readFactor 42 = .ok (.ldc 116, 2) := by decide +kernel
theorem dX2_readFactor_44 : decode cX2_readFactor 44 = .ok (.invokevirtual 39, 3) := by decide +kernel
theorem dX2_readFactor_47 : decode cX2_readFactor 47 = .ok (.ifCond .eq 28, 3) := by decide +kernel
theorem dX2_readFactor_50 : decode cX2_readFactor 50 = .ok (.aload_n 0, 1) := by decide +kernel
theorem dX2_readFactor_51 : decode cX2_readFactor 51 = .ok (.iload_n 1, 1) := by decide +kernel
theorem dX2_readFactor_52 : decode cX2_readFactor 52 = .ok (.iconst 1, 1) := by decide +kernel
theorem dX2_readFactor_53 : decode cX2_readFactor 53 = .ok (.iadd, 1) := by decide +kernel
theorem dX2_readFactor_54 : decode cX2_readFactor 54 = .ok (.invokevirtual 55, 3) := by decide +kernel
theorem dX2_readFactor_57 : decode cX2_readFactor 57 = .ok (.ifCond .eq 16, 3) := by decide +kernel
theorem dX2_readFactor_60 : decode cX2_readFactor 60 = .ok (.aload_n 0, 1) := by decide +kernel
theorem dX2_readFactor_61 : decode cX2_readFactor 61 = .ok (.ldc 118, 2) := by decide +kernel
theorem dX2_readFactor_63 : decode cX2_readFactor 63 = .ok (.invokevirtual 39, 3) := by decide +kernel
theorem dX2_readFactor_66 : decode cX2_readFactor 66 = .ok (.ifCond .eq 7, 3) := by decide +kernel
theorem dX2_readFactor_69 : decode cX2_readFactor 69 = .ok (.iconst 1, 1) := by decide +kernel
theorem dX2_readFactor_70 : decode cX2_readFactor 70 = .ok (.goto 4, 3) := by decide +kernel
theorem dX2_readFactor_73 : decode cX2_readFactor 73 = .ok (.iconst 0, 1) := by decide +kernel
theorem dX2_readFactor_74 : decode cX2_readFactor 74 = .ok (.ireturn, 1) := by decide +kernel
theorem dX2_readFactor_75 : decode cX2_readFactor 75 = .ok (.aload_n 0, 1) := by decide +kernel
theorem dX2_readFactor_76 : decode cX2_readFactor 76 = .ok (.invokevirtual 120, 3) := by decide +kernel
theorem dX2_readFactor_79 : decode cX2_readFactor 79 = .ok (.ireturn, 1) := by decide +kernel
theorem dX2_readTest_0 : decode cX2_readTest 0 = .ok (.aload_n 0, 1) := by decide +kernel
theorem dX2_readTest_1 : decode cX2_readTest 1 = .ok (.ldc 123, 2) := by decide +kernel
theorem dX2_readTest_3 : decode cX2_readTest 3 = .ok (.invokevirtual 125, 3) := by decide +kernel
theorem dX2_readTest_6 : decode cX2_readTest 6 = .ok (.istore_n 1, 1) := by decide +kernel
theorem dX2_readTest_7 : decode cX2_readTest 7 = .ok (.iload_n 1, 1) := by decide +kernel
theorem dX2_readTest_8 : decode cX2_readTest 8 = .ok (.iconst (-1), 1) := by decide +kernel
theorem dX2_readTest_9 : decode cX2_readTest 9 = .ok (.if_icmp .ne 5, 3) := by decide +kernel
theorem dX2_readTest_12 : decode cX2_readTest 12 = .ok (.iconst 0, 1) := by decide +kernel
theorem dX2_readTest_13 : decode cX2_readTest 13 = .ok (.ireturn, 1) := by decide +kernel
theorem dX2_readTest_14 : decode cX2_readTest 14 = .ok (.aload_n 0, 1) := by decide +kernel
theorem dX2_readTest_15 : decode cX2_readTest 15 = .ok (.ldc 128, 2) := by decide +kernel
theorem dX2_readTest_17 : decode cX2_readTest 17 = .ok (.invokevirtual 125, 3) := by decide +kernel
theorem dX2_readTest_20 : decode cX2_readTest 20 = .ok (.istore_n 2, 1) := by decide +kernel
theorem dX2_readTest_21 : decode cX2_readTest 21 = .ok (.iload_n 2, 1) := by decide +kernel
theorem dX2_readTest_22 : decode cX2_readTest 22 = .ok (.iconst (-1), 1) := by decide +kernel
theorem dX2_readTest_23 : decode cX2_readTest 23 = .ok (.if_icmp .ne 5, 3) := by decide +kernel
theorem dX2_readTest_26 : decode cX2_readTest 26 = .ok (.iconst 0, 1) := by decide +kernel
theorem dX2_readTest_27 : decode cX2_readTest 27 = .ok (.ireturn, 1) := by decide +kernel
theorem dX2_readTest_28 : decode cX2_readTest 28 = .ok (.aload_n 0, 1) := by decide +kernel
theorem dX2_readTest_29 : decode cX2_readTest 29 = .ok (.invokevirtual 49, 3) := by decide +kernel
theorem dX2_readTest_32 : decode cX2_readTest 32 = .ok (.istore_n 3, 1) := by decide +kernel
theorem dX2_readTest_33 : decode cX2_readTest 33 = .ok (.iload_n 3, 1) := by decide +kernel
theorem dX2_readTest_34 : decode cX2_readTest 34 = .ok (.iconst (-1), 1) := by decide +kernel
theorem dX2_readTest_35 : decode cX2_readTest 35 = .ok (.if_icmp .ne 5, 3) := by decide +kernel
theorem dX2_readTest_38 : decode cX2_readTest 38 = .ok (.iconst 0, 1) := by decide +kernel
theorem dX2_readTest_39 : decode cX2_readTest 39 = .ok (.ireturn, 1) := by decide +kernel
theorem dX2_readTest_40 : decode cX2_readTest 40 = .ok (.aload_n 0, 1) := by decide +kernel
theorem dX2_readTest_41 : decode cX2_readTest 41 = .ok (.getfield 19, 3) := by decide +kernel
theorem dX2_readTest_44 : decode cX2_readTest 44 = .ok (.iload_n 1, 1) := by decide +kernel
theorem dX2_readTest_45 : decode cX2_readTest 45 = .ok (.iload_n 2, 1) := by decide +kernel
theorem dX2_readTest_46 : decode cX2_readTest 46 = .ok (.iload_n 3, 1) := by decide +kernel
theorem dX2_readTest_47 : decode cX2_readTest 47 = .ok (.invokestatic 130, 3) := by decide +kernel
theorem dX2_readTest_50 : decode cX2_readTest 50 = .ok (.invokevirtual 105, 3) := by decide +kernel
theorem dX2_readTest_53 : decode cX2_readTest 53 = .ok (.iconst 1, 1) := by decide +kernel
theorem dX2_readTest_54 : decode cX2_readTest 54 = .ok (.ireturn, 1) := by decide +kernel
theorem dX2_readNumber_0 : decode cX2_readNumber 0 = .ok (.aload_n 0, 1) := by decide +kernel
theorem dX2_readNumber_1 : decode cX2_readNumber 1 = .ok (.ldc 134, 2) := by decide +kernel
theorem dX2_readNumber_3 : decode cX2_readNumber 3 = .ok (.invokevirtual 125, 3) := by decide +kernel
theorem dX2_readNumber_6 : decode cX2_readNumber 6 = .ok (.istore_n 1, 1) := by decide +kernel
theorem dX2_readNumber_7 : decode cX2_readNumber 7 = .ok (.iload_n 1, 1) := by decide +kernel
theorem dX2_readNumber_8 : decode cX2_readNumber 8 = .ok (.iconst (-1), 1) := by decide +kernel
theorem dX2_readNumber_9 : decode cX2_readNumber 9 = .ok (.if_icmp .eq 7, 3) := by decide +kernel
theorem dX2_readNumber_12 : decode cX2_readNumber 12 = .ok (.iload_n 1, 1) := by decide +kernel
theorem dX2_readNumber_13 : decode cX2_readNumber 13 = .ok (.ifCond .ne 5, 3) := by decide +kernel
theorem dX2_readNumber_16 : decode cX2_readNumber 16 = .ok (.iload_n 1, 1) := by decide +kernel
theorem dX2_readNumber_17 : decode cX2_readNumber 17 = .ok (.ireturn, 1) := by decide +kernel
theorem dX2_readNumber_18 : decode cX2_readNumber 18 = .ok (.aload_n 0, 1) := by decide +kernel
theorem dX2_readNumber_19 : decode cX2_readNumber 19 = .ok (.ldc 134, 2) := by decide +kernel
theorem dX2_readNumber_21 : decode cX2_readNumber 21 = .ok (.invokevirtual 125, 3) := by decide +kernel
theorem dX2_readNumber_24 : decode cX2_readNumber 24 = .ok (.istore_n 2, 1) := by decide +kernel
theorem dX2_readNumber_25 : decode cX2_readNumber 25 = .ok (.iload_n 2, 1) := by decide +kernel
theorem dX2_readNumber_26 : decode cX2_readNumber 26 = .ok (.iconst (-1), 1) := by decide +kernel
theorem dX2_readNumber_27 : decode cX2_readNumber 27 = .ok (.if_icmp .ne 7, 3) := by decide +kernel
theorem dX2_readNumber_30 : decode cX2_readNumber 30 = .ok (.iload_n 1, 1) := by decide +kernel
theorem dX2_readNumber_31 : decode cX2_readNumber 31 = .ok (.goto 9, 3) := by decide +kernel
theorem dX2_readNumber_34 : decode cX2_readNumber 34 = .ok (.bipush 10, 2) := by decide +kernel
theorem dX2_readNumber_36 : decode cX2_readNumber 36 = .ok (.iload_n 1, 1) := by decide +kernel
theorem dX2_readNumber_37 : decode cX2_readNumber 37 = .ok (.imul, 1) := by decide +kernel
theorem dX2_readNumber_38 : decode cX2_readNumber 38 = .ok (.iload_n 2, 1) := by decide +kernel
theorem dX2_readNumber_39 : decode cX2_readNumber 39 = .ok (.iadd, 1) := by decide +kernel
theorem dX2_readNumber_40 : decode cX2_readNumber 40 = .ok (.ireturn, 1) := by decide +kernel
theorem dX2_take_0 : decode cX2_take 0 = .ok (.aload_n 0, 1) := by decide +kernel
theorem dX2_take_1 : decode cX2_take 1 = .ok (.aload_n 1, 1) := by decide +kernel
theorem dX2_take_2 : decode cX2_take 2 = .ok (.invokevirtual 125, 3) := by decide +kernel
theorem dX2_take_5 : decode cX2_take 5 = .ok (.iconst (-1), 1) := by decide +kernel
theorem dX2_take_6 : decode cX2_take 6 = .ok (.if_icmp .eq 7, 3) := by decide +kernel
theorem dX2_take_9 : decode cX2_take 9 = .ok (.iconst 1, 1) := by decide +kernel
theorem dX2_take_10 : decode cX2_take 10 = .ok (.goto 4, 3) := by decide +kernel
theorem dX2_take_13 : decode cX2_take 13 = .ok (.iconst 0, 1) := by decide +kernel
theorem dX2_take_14 : decode cX2_take 14 = .ok (.ireturn, 1) := by decide +kernel
theorem dX2_takeOneOf_0 : decode cX2_takeOneOf 0 = .ok (.aload_n 0, 1) := by decide +kernel
theorem dX2_takeOneOf_1 : decode cX2_takeOneOf 1 = .ok (.getfield 9, 3) := by decide +kernel
theorem dX2_takeOneOf_4 : decode cX2_takeOneOf 4 = .ok (.aload_n 0, 1) := by decide +kernel
theorem dX2_takeOneOf_5 : decode cX2_takeOneOf 5 = .ok (.getfield 15, 3) := by decide +kernel
theorem dX2_takeOneOf_8 : decode cX2_takeOneOf 8 = .ok (.getfield 32, 3) := by decide +kernel
theorem dX2_takeOneOf_11 : decode cX2_takeOneOf 11 = .ok (.if_icmp .lt 5, 3) := by decide +kernel
theorem dX2_takeOneOf_14 : decode cX2_takeOneOf 14 = .ok (.iconst (-1), 1) := by decide +kernel
theorem dX2_takeOneOf_15 : decode cX2_takeOneOf 15 = .ok (.ireturn, 1) := by decide +kernel
theorem dX2_takeOneOf_16 : decode cX2_takeOneOf 16 = .ok (.aload_n 1, 1) := by decide +kernel
theorem dX2_takeOneOf_17 : decode cX2_takeOneOf 17 = .ok (.aload_n 0, 1) := by decide +kernel
theorem dX2_takeOneOf_18 : decode cX2_takeOneOf 18 = .ok (.getfield 15, 3) := by decide +kernel
theorem dX2_takeOneOf_21 : decode cX2_takeOneOf 21 = .ok (.getfield 92, 3) := by decide +kernel
theorem dX2_takeOneOf_24 : decode cX2_takeOneOf 24 = .ok (.aload_n 0, 1) := by decide +kernel
theorem dX2_takeOneOf_25 : decode cX2_takeOneOf 25 = .ok (.getfield 9, 3) := by decide +kernel
theorem dX2_takeOneOf_28 : decode cX2_takeOneOf 28 = .ok (.baload, 1) := by decide +kernel
theorem dX2_takeOneOf_29 : decode cX2_takeOneOf 29 = .ok (.sipush 255, 3) := by decide +kernel
theorem dX2_takeOneOf_32 : decode cX2_takeOneOf 32 = .ok (.iand, 1) := by decide +kernel
theorem dX2_takeOneOf_33 : decode cX2_takeOneOf 33 = .ok (.i2c, 1) := by decide +kernel
theorem dX2_takeOneOf_34 : decode cX2_takeOneOf 34 = .ok (.invokevirtual 136, 3) := by decide +kernel
theorem dX2_takeOneOf_37 : decode cX2_takeOneOf 37 = .ok (.istore_n 2, 1) := by decide +kernel
theorem dX2_takeOneOf_38 : decode cX2_takeOneOf 38 = .ok (.iload_n 2, 1) := by decide +kernel
theorem dX2_takeOneOf_39 : decode cX2_takeOneOf 39 = .ok (.ifCond .ge 5, 3) := by decide +kernel
theorem dX2_takeOneOf_42 : decode cX2_takeOneOf 42 = .ok (.iconst (-1), 1) := by decide +kernel
theorem dX2_takeOneOf_43 : decode cX2_takeOneOf 43 = .ok (.ireturn, 1) := by decide +kernel
theorem dX2_takeOneOf_44 : decode cX2_takeOneOf 44 = .ok (.aload_n 0, 1) := by decide +kernel
theorem dX2_takeOneOf_45 : decode cX2_takeOneOf 45 = .ok (.dup, 1) := by decide +kernel
theorem dX2_takeOneOf_46 : decode cX2_takeOneOf 46 = .ok (.getfield 9, 3) := by decide +kernel
theorem dX2_takeOneOf_49 : decode cX2_takeOneOf 49 = .ok (.iconst 1, 1) := by decide +kernel
theorem dX2_takeOneOf_50 : decode cX2_takeOneOf 50 = .ok (.iadd, 1) := by decide +kernel
theorem dX2_takeOneOf_51 : decode cX2_takeOneOf 51 = .ok (.putfield 9, 3) := by decide +kernel
theorem dX2_takeOneOf_54 : decode cX2_takeOneOf 54 = .ok (.iload_n 2, 1) := by decide +kernel
theorem dX2_takeOneOf_55 : decode cX2_takeOneOf 55 = .ok (.ireturn, 1) := by decide +kernel
theorem dX3_init_0 : decode cX3_init 0 = .ok (.aload_n 0, 1) := by decide +kernel
theorem dX3_init_1 : decode cX3_init 1 = .ok (.invokespecial 3, 3) := by decide +kernel
theorem dX3_init_4 : decode cX3_init 4 = .ok (.aload_n 0, 1) := by decide +kernel
theorem dX3_init_5 : decode cX3_init 5 = .ok (.iconst 3, 1) := by decide +kernel
theorem dX3_init_6 : decode cX3_init 6 = .ok (.putfield 9, 3) := by decide +kernel
theorem dX3_init_9 : decode cX3_init 9 = .ok (.aload_n 0, 1) := by decide +kernel
theorem dX3_init_10 : decode cX3_init 10 = .ok (.bipush 50, 2) := by decide +kernel
theorem dX3_init_12 : decode cX3_init 12 = .ok (.putfield 15, 3) := by decide +kernel
theorem dX3_init_15 : decode cX3_init 15 = .ok (.aload_n 0, 1) := by decide +kernel
theorem dX3_init_16 : decode cX3_init 16 = .ok (.iconst 2, 1) := by decide +kernel
theorem dX3_init_17 : decode cX3_init 17 = .ok (.putfield 18, 3) := by decide +kernel
theorem dX3_init_20 : decode cX3_init 20 = .ok (.aload_n 0, 1) := by decide +kernel
theorem dX3_init_21 : decode cX3_init 21 = .ok (.iconst 0, 1) := by decide +kernel
theorem dX3_init_22 : decode cX3_init 22 = .ok (.putfield 21, 3) := by decide +kernel
theorem dX3_init_25 : decode cX3_init 25 = .ok (.aload_n 0, 1) := by decide +kernel
theorem dX3_init_26 : decode cX3_init 26 = .ok (.bipush 10, 2) := by decide +kernel
theorem dX3_init_28 : decode cX3_init 28 = .ok (.newarray .int, 2) := by decide +kernel
theorem dX3_init_30 : decode cX3_init 30 = .ok (.putfield 24, 3) := by decide +kernel
theorem dX3_init_33 : decode cX3_init 33 = .ok (.aload_n 0, 1) := by decide +kernel
theorem dX3_init_34 : decode cX3_init 34 = .ok (.bipush 10, 2) := by decide +kernel
theorem dX3_init_36 : decode cX3_init 36 = .ok (.newarray .int, 2) := by decide +kernel
theorem dX3_init_38 : decode cX3_init 38 = .ok (.putfield 28, 3) := by decide +kernel
theorem dX3_init_41 : decode cX3_init 41 = .ok (.aload_n 0, 1) := by decide +kernel
theorem dX3_init_42 : decode cX3_init 42 = .ok (.bipush 10, 2) := by decide +kernel
theorem dX3_init_44 : decode cX3_init 44 = .ok (.newarray .int, 2) := by decide +kernel
theorem dX3_init_46 : decode cX3_init 46 = .ok (.putfield 31, 3) := by decide +kernel
theorem dX3_init_49 : decode cX3_init 49 = .ok (.aload_n 0, 1) := by decide +kernel
theorem dX3_init_50 : decode cX3_init 50 = .ok (.bipush 10, 2) := by decide +kernel
theorem dX3_init_52 : decode cX3_init 52 = .ok (.newarray .int, 2) := by decide +kernel
theorem dX3_init_54 : decode cX3_init 54 = .ok (.putfield 34, 3) := by decide +kernel
theorem dX3_init_57 : decode cX3_init 57 = .ok (.aload_n 0, 1) := by decide +kernel
theorem dX3_init_58 : decode cX3_init 58 = .ok (.iconst 0, 1) := by decide +kernel
theorem dX3_init_59 : decode cX3_init 59 = .ok (.putfield 37, 3) := by decide +kernel
theorem dX3_init_62 : decode cX3_init 62 = .ok (.aload_n 0, 1) := by decide +kernel
theorem dX3_init_63 : decode cX3_init 63 = .ok (.bipush 120, 2) := by decide +kernel
theorem dX3_init_65 : decode cX3_init 65 = .ok (.newarray .int, 2) := by decide +kernel
theorem dX3_init_67 : decode cX3_init 67 = .ok (.putfield 40, 3) := by decide +kernel
theorem dX3_init_70 : decode cX3_init 70 = .ok (.return_, 1) := by decide +kernel
theorem dX3_clear_0 : decode cX3_clear 0 = .ok (.aload_n 0, 1) := by decide +kernel
theorem dX3_clear_1 : decode cX3_clear 1 = .ok (.iconst 3, 1) := by decide +kernel
theorem dX3_clear_2 : decode cX3_clear 2 = .ok (.putfield 9, 3) := by decide +kernel
theorem dX3_clear_5 : decode cX3_clear 5 = .ok (.aload_n 0, 1) := by decide +kernel
theorem dX3_clear_6 : decode cX3_clear 6 = .ok (.bipush 50, 2) := by decide +kernel
theorem dX3_clear_8 : decode cX3_clear 8 = .ok (.putfield 15, 3) := by decide +kernel
theorem dX3_clear_11 : decode cX3_clear 11 = .ok (.aload_n 0, 1) := by decide +kernel
theorem dX3_clear_12 : decode cX3_clear 12 = .ok (.iconst 2, 1) := by decide +kernel
theorem dX3_clear_13 : decode cX3_clear 13 = .ok (.putfield 18, 3) := by decide +kernel
theorem dX3_clear_16 : decode cX3_clear 16 = .ok (.aload_n 0, 1) := by decide +kernel
theorem dX3_clear_17 : decode cX3_clear 17 = .ok (.iconst 0, 1) := by decide +kernel
theorem dX3_clear_18 : decode cX3_clear 18 = .ok (.putfield 21, 3) := by decide +kernel
theorem dX3_clear_21 : decode cX3_clear 21 = .ok (.aload_n 0, 1) := by decide +kernel
theorem dX3_clear_22 : decode cX3_clear 22 = .ok (.iconst 0, 1) := by decide +kernel
theorem dX3_clear_23 : decode cX3_clear 23 = .ok (.putfield 37, 3) := by decide +kernel
theorem dX3_clear_26 : decode cX3_clear 26 = .ok (.return_, 1) := by decide +kernel
theorem dX3_write_0 : decode cX3_write 0 = .ok (.aload_n 0, 1) := by decide +kernel
theorem dX3_write_1 : decode cX3_write 1 = .ok (.getfield 37, 3) := by decide +kernel
theorem dX3_write_4 : decode cX3_write 4 = .ok (.bipush 120, 2) := by decide +kernel
theorem dX3_write_6 : decode cX3_write 6 = .ok (.if_icmp .ge 23, 3) := by decide +kernel
theorem dX3_write_9 : decode cX3_write 9 = .ok (.aload_n 0, 1) := by decide +kernel
theorem dX3_write_10 : decode cX3_write 10 = .ok (.getfield 40, 3) := by decide +kernel
theorem dX3_write_13 : decode cX3_write 13 = .ok (.aload_n 0, 1) := by decide +kernel
theorem dX3_write_14 : decode cX3_write 14 = .ok (.getfield 37, 3) := by decide +kernel
theorem dX3_write_17 : decode cX3_write 17 = .ok (.iload_n 1, 1) := by decide +kernel
theorem dX3_write_18 : decode cX3_write 18 = .ok (.iastore, 1) := by decide +kernel
theorem dX3_write_19 : decode cX3_write 19 = .ok (.aload_n 0, 1) := by decide +kernel
theorem dX3_write_20 : decode cX3_write 20 = .ok (.dup, 1) := by decide +kernel
theorem dX3_write_21 : decode cX3_write 21 = .ok (.getfield 37, 3) := by decide +kernel
theorem dX3_write_24 : decode cX3_write 24 = .ok (.iconst 1, 1) := by decide +kernel
theorem dX3_write_25 : decode cX3_write 25 = .ok (.iadd, 1) := by decide +kernel
theorem dX3_write_26 : decode cX3_write 26 = .ok (.putfield 37, 3) := by decide +kernel
theorem dX3_write_29 : decode cX3_write 29 = .ok (.return_, 1) := by decide +kernel
theorem dX3_addClause_0 : decode cX3_addClause 0 = .ok (.iload_n 1, 1) := by decide +kernel
theorem dX3_addClause_1 : decode cX3_addClause 1 = .ok (.tableswitch 59 2 4 #[27, 35, 47], 27) := by decide +kernel
theorem dX3_addClause_28 : decode cX3_addClause 28 = .ok (.aload_n 0, 1) := by decide +kernel
theorem dX3_addClause_29 : decode cX3_addClause 29 = .ok (.iload_n 2, 1) := by decide +kernel
theorem dX3_addClause_30 : decode cX3_addClause 30 = .ok (.putfield 9, 3) := by decide +kernel
theorem dX3_addClause_33 : decode cX3_addClause 33 = .ok (.goto 27, 3) := by decide +kernel
theorem dX3_addClause_36 : decode cX3_addClause 36 = .ok (.aload_n 0, 1) := by decide +kernel
theorem dX3_addClause_37 : decode cX3_addClause 37 = .ok (.iconst 1, 1) := by decide +kernel
theorem dX3_addClause_38 : decode cX3_addClause 38 = .ok (.iload_n 2, 1) := by decide +kernel
theorem dX3_addClause_39 : decode cX3_addClause 39 = .ok (.invokestatic 43, 3) := by decide +kernel
theorem dX3_addClause_42 : decode cX3_addClause 42 = .ok (.putfield 15, 3) := by decide +kernel
theorem dX3_addClause_45 : decode cX3_addClause 45 = .ok (.goto 15, 3) := by decide +kernel
theorem dX3_addClause_48 : decode cX3_addClause 48 = .ok (.aload_n 0, 1) := by decide +kernel
theorem dX3_addClause_49 : decode cX3_addClause 49 = .ok (.iconst 1, 1) := by decide +kernel
theorem dX3_addClause_50 : decode cX3_addClause 50 = .ok (.iload_n 2, 1) := by decide +kernel
theorem dX3_addClause_51 : decode cX3_addClause 51 = .ok (.invokestatic 43, 3) := by decide +kernel
theorem dX3_addClause_54 : decode cX3_addClause 54 = .ok (.putfield 18, 3) := by decide +kernel
theorem dX3_addClause_57 : decode cX3_addClause 57 = .ok (.goto 3, 3) := by decide +kernel
theorem dX3_addClause_60 : decode cX3_addClause 60 = .ok (.aload_n 0, 1) := by decide +kernel
theorem dX3_addClause_61 : decode cX3_addClause 61 = .ok (.getfield 21, 3) := by decide +kernel
theorem dX3_addClause_64 : decode cX3_addClause 64 = .ok (.bipush 10, 2) := by decide +kernel
theorem dX3_addClause_66 : decode cX3_addClause 66 = .ok (.if_icmp .ge 56, 3) := by decide +kernel
theorem dX3_addClause_69 : decode cX3_addClause 69 = .ok (.aload_n 0, 1) := by decide +kernel
theorem dX3_addClause_70 : decode cX3_addClause 70 = .ok (.getfield 24, 3) := by decide +kernel
theorem dX3_addClause_73 : decode cX3_addClause 73 = .ok (.aload_n 0, 1) := by decide +kernel
theorem dX3_addClause_74 : decode cX3_addClause 74 = .ok (.getfield 21, 3) := by decide +kernel
theorem dX3_addClause_77 : decode cX3_addClause 77 = .ok (.iload_n 1, 1) := by decide +kernel
theorem dX3_addClause_78 : decode cX3_addClause 78 = .ok (.iastore, 1) := by decide +kernel
theorem dX3_addClause_79 : decode cX3_addClause 79 = .ok (.aload_n 0, 1) := by decide +kernel
theorem dX3_addClause_80 : decode cX3_addClause 80 = .ok (.getfield 28, 3) := by decide +kernel
theorem dX3_addClause_83 : decode cX3_addClause 83 = .ok (.aload_n 0, 1) := by decide +kernel
theorem dX3_addClause_84 : decode cX3_addClause 84 = .ok (.getfield 21, 3) := by decide +kernel
theorem dX3_addClause_87 : decode cX3_addClause 87 = .ok (.iload_n 2, 1) := by decide +kernel
theorem dX3_addClause_88 : decode cX3_addClause 88 = .ok (.iastore, 1) := by decide +kernel
theorem dX3_addClause_89 : decode cX3_addClause 89 = .ok (.aload_n 0, 1) := by decide +kernel
theorem dX3_addClause_90 : decode cX3_addClause 90 = .ok (.getfield 31, 3) := by decide +kernel
theorem dX3_addClause_93 : decode cX3_addClause 93 = .ok (.aload_n 0, 1) := by decide +kernel
theorem dX3_addClause_94 : decode cX3_addClause 94 = .ok (.getfield 21, 3) := by decide +kernel
theorem dX3_addClause_97 : decode cX3_addClause 97 = .ok (.iload_n 3, 1) := by decide +kernel
theorem dX3_addClause_98 : decode cX3_addClause 98 = .ok (.iastore, 1) := by decide +kernel
theorem dX3_addClause_99 : decode cX3_addClause 99 = .ok (.aload_n 0, 1) := by decide +kernel
theorem dX3_addClause_100 : decode cX3_addClause 100 = .ok (.getfield 34, 3) := by decide +kernel
theorem dX3_addClause_103 : decode cX3_addClause 103 = .ok (.aload_n 0, 1) := by decide +kernel
theorem dX3_addClause_104 : decode cX3_addClause 104 = .ok (.getfield 21, 3) := by decide +kernel
theorem dX3_addClause_107 : decode cX3_addClause 107 = .ok (.aload_n 0, 1) := by decide +kernel
theorem dX3_addClause_108 : decode cX3_addClause 108 = .ok (.getfield 37, 3) := by decide +kernel
theorem dX3_addClause_111 : decode cX3_addClause 111 = .ok (.iastore, 1) := by decide +kernel
theorem dX3_addClause_112 : decode cX3_addClause 112 = .ok (.aload_n 0, 1) := by decide +kernel
theorem dX3_addClause_113 : decode cX3_addClause 113 = .ok (.dup, 1) := by decide +kernel
theorem dX3_addClause_114 : decode cX3_addClause 114 = .ok (.getfield 21, 3) := by decide +kernel
theorem dX3_addClause_117 : decode cX3_addClause 117 = .ok (.iconst 1, 1) := by decide +kernel
theorem dX3_addClause_118 : decode cX3_addClause 118 = .ok (.iadd, 1) := by decide +kernel
theorem dX3_addClause_119 : decode cX3_addClause 119 = .ok (.putfield 21, 3) := by decide +kernel
theorem dX3_addClause_122 : decode cX3_addClause 122 = .ok (.return_, 1) := by decide +kernel
theorem dX3_sumOf_0 : decode cX3_sumOf 0 = .ok (.iconst 0, 1) := by decide +kernel
theorem dX3_sumOf_1 : decode cX3_sumOf 1 = .ok (.istore_n 3, 1) := by decide +kernel
theorem dX3_sumOf_2 : decode cX3_sumOf 2 = .ok (.iconst 0, 1) := by decide +kernel
theorem dX3_sumOf_3 : decode cX3_sumOf 3 = .ok (.istore 4, 2) := by decide +kernel
theorem dX3_sumOf_5 : decode cX3_sumOf 5 = .ok (.iload 4, 2) := by decide +kernel
theorem dX3_sumOf_7 : decode cX3_sumOf 7 = .ok (.aload_n 0, 1) := by decide +kernel
theorem dX3_sumOf_8 : decode cX3_sumOf 8 = .ok (.getfield 21, 3) := by decide +kernel
theorem dX3_sumOf_11 : decode cX3_sumOf 11 = .ok (.if_icmp .ge 52, 3) := by decide +kernel
theorem dX3_sumOf_14 : decode cX3_sumOf 14 = .ok (.aload_n 0, 1) := by decide +kernel
theorem dX3_sumOf_15 : decode cX3_sumOf 15 = .ok (.getfield 24, 3) := by decide +kernel
theorem dX3_sumOf_18 : decode cX3_sumOf 18 = .ok (.iload 4, 2) := by decide +kernel
theorem dX3_sumOf_20 : decode cX3_sumOf 20 = .ok (.iaload, 1) := by decide +kernel
theorem dX3_sumOf_21 : decode cX3_sumOf 21 = .ok (.iload_n 1, 1) := by decide +kernel
theorem dX3_sumOf_22 : decode cX3_sumOf 22 = .ok (.if_icmp .ne 35, 3) := by decide +kernel
theorem dX3_sumOf_25 : decode cX3_sumOf 25 = .ok (.aload_n 0, 1) := by decide +kernel
theorem dX3_sumOf_26 : decode cX3_sumOf 26 = .ok (.aload_n 0, 1) := by decide +kernel
theorem dX3_sumOf_27 : decode cX3_sumOf 27 = .ok (.getfield 31, 3) := by decide +kernel
theorem dX3_sumOf_30 : decode cX3_sumOf 30 = .ok (.iload 4, 2) := by decide +kernel
theorem dX3_sumOf_32 : decode cX3_sumOf 32 = .ok (.iaload, 1) := by decide +kernel
theorem dX3_sumOf_33 : decode cX3_sumOf 33 = .ok (.aload_n 0, 1) := by decide +kernel
theorem dX3_sumOf_34 : decode cX3_sumOf 34 = .ok (.getfield 34, 3) := by decide +kernel
theorem dX3_sumOf_37 : decode cX3_sumOf 37 = .ok (.iload 4, 2) := by decide +kernel
theorem dX3_sumOf_39 : decode cX3_sumOf 39 = .ok (.iaload, 1) := by decide +kernel
theorem dX3_sumOf_40 : decode cX3_sumOf 40 = .ok (.aload_n 2, 1) := by decide +kernel
theorem dX3_sumOf_41 : decode cX3_sumOf 41 = .ok (.invokevirtual 49, 3) := by decide +kernel
theorem dX3_sumOf_44 : decode cX3_sumOf 44 = .ok (.ifCond .eq 13, 3) := by decide +kernel
theorem dX3_sumOf_47 : decode cX3_sumOf 47 = .ok (.iload_n 3, 1) := by decide +kernel
theorem dX3_sumOf_48 : decode cX3_sumOf 48 = .ok (.aload_n 0, 1) := by decide +kernel
theorem dX3_sumOf_49 : decode cX3_sumOf 49 = .ok (.getfield 28, 3) := by decide +kernel
theorem dX3_sumOf_52 : decode cX3_sumOf 52 = .ok (.iload 4, 2) := by decide +kernel
theorem dX3_sumOf_54 : decode cX3_sumOf 54 = .ok (.iaload, 1) := by decide +kernel
theorem dX3_sumOf_55 : decode cX3_sumOf 55 = .ok (.iadd, 1) := by decide +kernel
theorem dX3_sumOf_56 : decode cX3_sumOf 56 = .ok (.istore_n 3, 1) := by decide +kernel
theorem dX3_sumOf_57 : decode cX3_sumOf 57 = .ok (.iinc 4 1, 3) := by decide +kernel
theorem dX3_sumOf_60 : decode cX3_sumOf 60 = .ok (.goto (-55), 3) := by decide +kernel
theorem dX3_sumOf_63 : decode cX3_sumOf 63 = .ok (.iload_n 3, 1) := by decide +kernel
theorem dX3_sumOf_64 : decode cX3_sumOf 64 = .ok (.ireturn, 1) := by decide +kernel
theorem dX3_holds_0 : decode cX3_holds 0 = .ok (.iconst 0, 1) := by decide +kernel
theorem dX3_holds_1 : decode cX3_holds 1 = .ok (.istore 4, 2) := by decide +kernel
theorem dX3_holds_3 : decode cX3_holds 3 = .ok (.iload_n 1, 1) := by decide +kernel
theorem dX3_holds_4 : decode cX3_holds 4 = .ok (.istore 5, 2) := by decide +kernel
theorem dX3_holds_6 : decode cX3_holds 6 = .ok (.iload 5, 2) := by decide +kernel
theorem dX3_holds_8 : decode cX3_holds 8 = .ok (.iload_n 2, 1) := by decide +kernel
theorem dX3_holds_9 : decode cX3_holds 9 = .ok (.if_icmp .ge 111, 3) := by decide +kernel
theorem dX3_holds_12 : decode cX3_holds 12 = .ok (.iload 4, 2) := by decide +kernel
theorem dX3_holds_14 : decode cX3_holds 14 = .ok (.iconst 1, 1) := by decide +kernel
theorem dX3_holds_15 : decode cX3_holds 15 = .ok (.iand, 1) := by decide +kernel
theorem dX3_holds_16 : decode cX3_holds 16 = .ok (.istore 6, 2) := by decide +kernel
theorem dX3_holds_18 : decode cX3_holds 18 = .ok (.aload_n 0, 1) := by decide +kernel
theorem dX3_holds_19 : decode cX3_holds 19 = .ok (.getfield 40, 3) := by decide +kernel
theorem dX3_holds_22 : decode cX3_holds 22 = .ok (.iload 5, 2) := by decide +kernel
theorem dX3_holds_24 : decode cX3_holds 24 = .ok (.iaload, 1) := by decide +kernel
theorem dX3_holds_25 : decode cX3_holds 25 = .ok (.tableswitch 63 (-3) (-1) #[51, 36, 27], 27) := by decide +kernel
theorem dX3_holds_52 : decode cX3_holds 52 = .ok (.iload 4, 2) := by decide +kernel
theorem dX3_holds_54 : decode cX3_holds 54 = .ok (.iconst 1, 1) := by decide +kernel
theorem dX3_holds_55 : decode cX3_holds 55 = .ok (.ixor, 1) := by decide +kernel
theorem dX3_holds_56 : decode cX3_holds 56 = .ok (.istore 4, 2) := by decide +kernel
theorem dX3_holds_58 : decode cX3_holds 58 = .ok (.goto 56, 3) := by decide +kernel
theorem dX3_holds_61 : decode cX3_holds 61 = .ok (.iload 4, 2) := by decide +kernel
theorem dX3_holds_63 : decode cX3_holds 63 = .ok (.iconst 1, 1) := by decide +kernel
theorem dX3_holds_64 : decode cX3_holds 64 = .ok (.iushr, 1) := by decide +kernel
theorem dX3_holds_65 : decode cX3_holds 65 = .ok (.iload 6, 2) := by decide +kernel
theorem dX3_holds_67 : decode cX3_holds 67 = .ok (.bipush (-2), 2) := by decide +kernel
theorem dX3_holds_69 : decode cX3_holds 69 = .ok (.ior, 1) := by decide +kernel
theorem dX3_holds_70 : decode cX3_holds 70 = .ok (.iand, 1) := by decide +kernel
theorem dX3_holds_71 : decode cX3_holds 71 = .ok (.istore 4, 2) := by decide +kernel
theorem dX3_holds_73 : decode cX3_holds 73 = .ok (.goto 41, 3) := by decide +kernel
theorem dX3_holds_76 : decode cX3_holds 76 = .ok (.iload 4, 2) := by decide +kernel
theorem dX3_holds_78 : decode cX3_holds 78 = .ok (.iconst 1, 1) := by decide +kernel
theorem dX3_holds_79 : decode cX3_holds 79 = .ok (.iushr, 1) := by decide +kernel
theorem dX3_holds_80 : decode cX3_holds 80 = .ok (.iload 6, 2) := by decide +kernel
theorem dX3_holds_82 : decode cX3_holds 82 = .ok (.ior, 1) := by decide +kernel
theorem dX3_holds_83 : decode cX3_holds 83 = .ok (.istore 4, 2) := by decide +kernel
theorem dX3_holds_85 : decode cX3_holds 85 = .ok (.goto 29, 3) := by decide +kernel
theorem dX3_holds_88 : decode cX3_holds 88 = .ok (.iload 4, 2) := by decide +kernel
theorem dX3_holds_90 : decode cX3_holds 90 = .ok (.iconst 1, 1) := by decide +kernel
theorem dX3_holds_91 : decode cX3_holds 91 = .ok (.ishl, 1) := by decide +kernel
theorem dX3_holds_92 : decode cX3_holds 92 = .ok (.aload_n 0, 1) := by decide +kernel
theorem dX3_holds_93 : decode cX3_holds 93 = .ok (.getfield 40, 3) := by decide +kernel
theorem dX3_holds_96 : decode cX3_holds 96 = .ok (.iload 5, 2) := by decide +kernel
theorem dX3_holds_98 : decode cX3_holds 98 = .ok (.iaload, 1) := by decide +kernel
theorem dX3_holds_99 : decode cX3_holds 99 = .ok (.aload_n 3, 1) := by decide +kernel
theorem dX3_holds_100 : decode cX3_holds 100 = .ok (.invokestatic 53, 3) := by decide +kernel
theorem dX3_holds_103 : decode cX3_holds 103 = .ok (.ifCond .eq 7, 3) := by decide +kernel
theorem dX3_holds_106 : decode cX3_holds 106 = .ok (.iconst 1, 1) := by decide +kernel
theorem dX3_holds_107 : decode cX3_holds 107 = .ok (.goto 4, 3) := by decide +kernel
theorem dX3_holds_110 : decode cX3_holds 110 = .ok (.iconst 0, 1) := by decide +kernel
theorem dX3_holds_111 : decode cX3_holds 111 = .ok (.ior, 1) := by decide +kernel
theorem dX3_holds_112 : decode cX3_holds 112 = .ok (.istore 4, 2) := by decide +kernel
theorem dX3_holds_114 : decode cX3_holds 114 = .ok (.iinc 5 1, 3) := by decide +kernel
theorem dX3_holds_117 : decode cX3_holds 117 = .ok (.goto (-111), 3) := by decide +kernel
theorem dX3_holds_120 : decode cX3_holds 120 = .ok (.iload 4, 2) := by decide +kernel
theorem dX3_holds_122 : decode cX3_holds 122 = .ok (.iconst 1, 1) := by decide +kernel
theorem dX3_holds_123 : decode cX3_holds 123 = .ok (.iand, 1) := by decide +kernel
theorem dX3_holds_124 : decode cX3_holds 124 = .ok (.iconst 1, 1) := by decide +kernel
theorem dX3_holds_125 : decode cX3_holds 125 = .ok (.if_icmp .ne 7, 3) := by decide +kernel
theorem dX3_holds_128 : decode cX3_holds 128 = .ok (.iconst 1, 1) := by decide +kernel
theorem dX3_holds_129 : decode cX3_holds 129 = .ok (.goto 4, 3) := by decide +kernel
theorem dX3_holds_132 : decode cX3_holds 132 = .ok (.iconst 0, 1) := by decide +kernel
theorem dX3_holds_133 : decode cX3_holds 133 = .ok (.ireturn, 1) := by decide +kernel
theorem dX3_codeOfTest_0 : decode cX3_codeOfTest 0 = .ok (.iload_n 0, 1) := by decide +kernel
theorem dX3_codeOfTest_1 : decode cX3_codeOfTest 1 = .ok (.iconst 3, 1) := by decide +kernel
theorem dX3_codeOfTest_2 : decode cX3_codeOfTest 2 = .ok (.imul, 1) := by decide +kernel
theorem dX3_codeOfTest_3 : decode cX3_codeOfTest 3 = .ok (.iload_n 1, 1) := by decide +kernel
theorem dX3_codeOfTest_4 : decode cX3_codeOfTest 4 = .ok (.iadd, 1) := by decide +kernel
theorem dX3_codeOfTest_5 : decode cX3_codeOfTest 5 = .ok (.bipush 100, 2) := by decide +kernel
theorem dX3_codeOfTest_7 : decode cX3_codeOfTest 7 = .ok (.imul, 1) := by decide +kernel
theorem dX3_codeOfTest_8 : decode cX3_codeOfTest 8 = .ok (.iload_n 2, 1) := by decide +kernel
theorem dX3_codeOfTest_9 : decode cX3_codeOfTest 9 = .ok (.iadd, 1) := by decide +kernel
theorem dX3_codeOfTest_10 : decode cX3_codeOfTest 10 = .ok (.ireturn, 1) := by decide +kernel
theorem dX3_passes_0 : decode cX3_passes 0 = .ok (.iload_n 0, 1) := by decide +kernel
theorem dX3_passes_1 : decode cX3_passes 1 = .ok (.bipush 100, 2) := by decide +kernel
theorem dX3_passes_3 : decode cX3_passes 3 = .ok (.irem, 1) := by decide +kernel
theorem dX3_passes_4 : decode cX3_passes 4 = .ok (.istore_n 2, 1) := by decide +kernel
theorem dX3_passes_5 : decode cX3_passes 5 = .ok (.iload_n 0, 1) := by decide +kernel
theorem dX3_passes_6 : decode cX3_passes 6 = .ok (.bipush 100, 2) := by decide +kernel
theorem dX3_passes_8 : decode cX3_passes 8 = .ok (.idiv, 1) := by decide +kernel
theorem dX3_passes_9 : decode cX3_passes 9 = .ok (.iconst 3, 1) := by decide +kernel
theorem dX3_passes_10 : decode cX3_passes 10 = .ok (.irem, 1) := by decide +kernel
theorem dX3_passes_11 : decode cX3_passes 11 = .ok (.istore_n 3, 1) := by decide +kernel
theorem dX3_passes_12 : decode cX3_passes 12 = .ok (.iload_n 0, 1) := by decide +kernel
theorem dX3_passes_13 : decode cX3_passes 13 = .ok (.bipush 100, 2) := by decide +kernel
theorem dX3_passes_15 : decode cX3_passes 15 = .ok (.idiv, 1) := by decide +kernel
theorem dX3_passes_16 : decode cX3_passes 16 = .ok (.iconst 3, 1) := by decide +kernel
theorem dX3_passes_17 : decode cX3_passes 17 = .ok (.idiv, 1) := by decide +kernel
theorem dX3_passes_18 : decode cX3_passes 18 = .ok (.istore 4, 2) := by decide +kernel
theorem dX3_passes_20 : decode cX3_passes 20 = .ok (.iload 4, 2) := by decide +kernel
theorem dX3_passes_22 : decode cX3_passes 22 = .ok (.ifCond .lt 17, 3) := by decide +kernel
theorem dX3_passes_25 : decode cX3_passes 25 = .ok (.iload 4, 2) := by decide +kernel
theorem dX3_passes_27 : decode cX3_passes 27 = .ok (.aload_n 1, 1) := by decide +kernel
theorem dX3_passes_28 : decode cX3_passes 28 = .ok (.arraylength, 1) := by decide +kernel
theorem dX3_passes_29 : decode cX3_passes 29 = .ok (.if_icmp .ge 10, 3) := by decide +kernel
theorem dX3_passes_32 : decode cX3_passes 32 = .ok (.aload_n 1, 1) := by decide +kernel
theorem dX3_passes_33 : decode cX3_passes 33 = .ok (.iload 4, 2) := by decide +kernel
theorem dX3_passes_35 : decode cX3_passes 35 = .ok (.iaload, 1) := by decide +kernel
theorem dX3_passes_36 : decode cX3_passes 36 = .ok (.goto 4, 3) := by decide +kernel
theorem dX3_passes_39 : decode cX3_passes 39 = .ok (.iconst 0, 1) := by decide +kernel
theorem dX3_passes_40 : decode cX3_passes 40 = .ok (.istore 5, 2) := by decide +kernel
theorem dX3_passes_42 : decode cX3_passes 42 = .ok (.iload_n 3, 1) := by decide +kernel
theorem dX3_passes_43 : decode cX3_passes 43 = .ok (.lookupswitch 49 #[(0, 25), (1, 37)], 25) := by decide +kernel
theorem dX3_passes_68 : decode cX3_passes 68 = .ok (.iload 5, 2) := by decide +kernel
theorem dX3_passes_70 : decode cX3_passes 70 = .ok (.iload_n 2, 1) := by decide +kernel
theorem dX3_passes_71 : decode cX3_passes 71 = .ok (.if_icmp .ge 7, 3) := by decide +kernel
theorem dX3_passes_74 : decode cX3_passes 74 = .ok (.iconst 1, 1) := by decide +kernel
theorem dX3_passes_75 : decode cX3_passes 75 = .ok (.goto 4, 3) := by decide +kernel
theorem dX3_passes_78 : decode cX3_passes 78 = .ok (.iconst 0, 1) := by decide +kernel
theorem dX3_passes_79 : decode cX3_passes 79 = .ok (.ireturn, 1) := by decide +kernel
theorem dX3_passes_80 : decode cX3_passes 80 = .ok (.iload 5, 2) := by decide +kernel
theorem dX3_passes_82 : decode cX3_passes 82 = .ok (.iload_n 2, 1) := by decide +kernel
theorem dX3_passes_83 : decode cX3_passes 83 = .ok (.if_icmp .ne 7, 3) := by decide +kernel
theorem dX3_passes_86 : decode cX3_passes 86 = .ok (.iconst 1, 1) := by decide +kernel
theorem dX3_passes_87 : decode cX3_passes 87 = .ok (.goto 4, 3) := by decide +kernel
theorem dX3_passes_90 : decode cX3_passes 90 = .ok (.iconst 0, 1) := by decide +kernel
theorem dX3_passes_91 : decode cX3_passes 91 = .ok (.ireturn, 1) := by decide +kernel
theorem dX3_passes_92 : decode cX3_passes 92 = .ok (.iload 5, 2) := by decide +kernel
theorem dX3_passes_94 : decode cX3_passes 94 = .ok (.iload_n 2, 1) := by decide +kernel
theorem dX3_passes_95 : decode cX3_passes 95 = .ok (.if_icmp .le 7, 3) := by decide +kernel
theorem dX3_passes_98 : decode cX3_passes 98 = .ok (.iconst 1, 1) := by decide +kernel
theorem dX3_passes_99 : decode cX3_passes 99 = .ok (.goto 4, 3) := by decide +kernel
theorem dX3_passes_102 : decode cX3_passes 102 = .ok (.iconst 0, 1) := by decide +kernel
theorem dX3_passes_103 : decode cX3_passes 103 = .ok (.ireturn, 1) := by decide +kernel
theorem dX4_init_0 : decode cX4_init 0 = .ok (.aload_n 0, 1) := by decide +kernel
theorem dX4_init_1 : decode cX4_init 1 = .ok (.invokespecial 3, 3) := by decide +kernel
theorem dX4_init_4 : decode cX4_init 4 = .ok (.aload_n 0, 1) := by decide +kernel
theorem dX4_init_5 : decode cX4_init 5 = .ok (.bipush 60, 2) := by decide +kernel
theorem dX4_init_7 : decode cX4_init 7 = .ok (.putfield 9, 3) := by decide +kernel
theorem dX4_init_10 : decode cX4_init 10 = .ok (.aload_n 0, 1) := by decide +kernel
theorem dX4_init_11 : decode cX4_init 11 = .ok (.iconst (-1), 1) := by decide +kernel
theorem dX4_init_12 : decode cX4_init 12 = .ok (.putfield 15, 3) := by decide +kernel
theorem dX4_init_15 : decode cX4_init 15 = .ok (.aload_n 0, 1) := by decide +kernel
theorem dX4_init_16 : decode cX4_init 16 = .ok (.bipush 10, 2) := by decide +kernel
theorem dX4_init_18 : decode cX4_init 18 = .ok (.newarray .int, 2) := by decide +kernel
theorem dX4_init_20 : decode cX4_init 20 = .ok (.putfield 18, 3) := by decide +kernel
theorem dX4_init_23 : decode cX4_init 23 = .ok (.aload_n 0, 1) := by decide +kernel
theorem dX4_init_24 : decode cX4_init 24 = .ok (.bipush 10, 2) := by decide +kernel
theorem dX4_init_26 : decode cX4_init 26 = .ok (.newarray .int, 2) := by decide +kernel
theorem dX4_init_28 : decode cX4_init 28 = .ok (.putfield 22, 3) := by decide +kernel
theorem dX4_init_31 : decode cX4_init 31 = .ok (.aload_n 0, 1) := by decide +kernel
theorem dX4_init_32 : decode cX4_init 32 = .ok (.bipush 10, 2) := by decide +kernel
theorem dX4_init_34 : decode cX4_init 34 = .ok (.newarray .int, 2) := by decide +kernel
theorem dX4_init_36 : decode cX4_init 36 = .ok (.putfield 25, 3) := by decide +kernel
theorem dX4_init_39 : decode cX4_init 39 = .ok (.aload_n 0, 1) := by decide +kernel
theorem dX4_init_40 : decode cX4_init 40 = .ok (.bipush 10, 2) := by decide +kernel
theorem dX4_init_42 : decode cX4_init 42 = .ok (.newarray .int, 2) := by decide +kernel
theorem dX4_init_44 : decode cX4_init 44 = .ok (.putfield 28, 3) := by decide +kernel
theorem dX4_init_47 : decode cX4_init 47 = .ok (.aload_n 0, 1) := by decide +kernel
theorem dX4_init_48 : decode cX4_init 48 = .ok (.ldc 31, 2) := by decide +kernel
theorem dX4_init_50 : decode cX4_init 50 = .ok (.invokevirtual 33, 3) := by decide +kernel
theorem dX4_init_53 : decode cX4_init 53 = .ok (.newarray .int, 2) := by decide +kernel
theorem dX4_init_55 : decode cX4_init 55 = .ok (.putfield 39, 3) := by decide +kernel
theorem dX4_init_58 : decode cX4_init 58 = .ok (.aload_n 0, 1) := by decide +kernel
theorem dX4_init_59 : decode cX4_init 59 = .ok (.aload_n 1, 1) := by decide +kernel
theorem dX4_init_60 : decode cX4_init 60 = .ok (.putfield 42, 3) := by decide +kernel
theorem dX4_init_63 : decode cX4_init 63 = .ok (.aload_n 0, 1) := by decide +kernel
theorem dX4_init_64 : decode cX4_init 64 = .ok (.aload_n 2, 1) := by decide +kernel
theorem dX4_init_65 : decode cX4_init 65 = .ok (.putfield 46, 3) := by decide +kernel
theorem dX4_init_68 : decode cX4_init 68 = .ok (.return_, 1) := by decide +kernel
theorem dX4_hearAll_0 : decode cX4_hearAll 0 = .ok (.aload_n 0, 1) := by decide +kernel
theorem dX4_hearAll_1 : decode cX4_hearAll 1 = .ok (.aload_n 1, 1) := by decide +kernel
theorem dX4_hearAll_2 : decode cX4_hearAll 2 = .ok (.putfield 46, 3) := by decide +kernel
theorem dX4_hearAll_5 : decode cX4_hearAll 5 = .ok (.aload_n 0, 1) := by decide +kernel
theorem dX4_hearAll_6 : decode cX4_hearAll 6 = .ok (.aload_n 0, 1) := by decide +kernel
theorem dX4_hearAll_7 : decode cX4_hearAll 7 = .ok (.getfield 42, 3) := by decide +kernel
theorem dX4_hearAll_10 : decode cX4_hearAll 10 = .ok (.getfield 50, 3) := by decide +kernel
theorem dX4_hearAll_13 : decode cX4_hearAll 13 = .ok (.putfield 9, 3) := by decide +kernel
theorem dX4_hearAll_16 : decode cX4_hearAll 16 = .ok (.aload_n 0, 1) := by decide +kernel
theorem dX4_hearAll_17 : decode cX4_hearAll 17 = .ok (.iconst (-1), 1) := by decide +kernel
theorem dX4_hearAll_18 : decode cX4_hearAll 18 = .ok (.putfield 15, 3) := by decide +kernel
theorem dX4_hearAll_21 : decode cX4_hearAll 21 = .ok (.aload_n 0, 1) := by decide +kernel
theorem dX4_hearAll_22 : decode cX4_hearAll 22 = .ok (.getfield 42, 3) := by decide +kernel
theorem dX4_hearAll_25 : decode cX4_hearAll 25 = .ok (.getfield 53, 3) := by decide +kernel
theorem dX4_hearAll_28 : decode cX4_hearAll 28 = .ok (.iconst 0, 1) := by decide +kernel
theorem dX4_hearAll_29 : decode cX4_hearAll 29 = .ok (.aload_n 0, 1) := by decide +kernel
theorem dX4_hearAll_30 : decode cX4_hearAll 30 = .ok (.getfield 18, 3) := by decide +kernel
theorem dX4_hearAll_33 : decode cX4_hearAll 33 = .ok (.iconst 0, 1) := by decide +kernel
theorem dX4_hearAll_34 : decode cX4_hearAll 34 = .ok (.bipush 10, 2) := by decide +kernel
theorem dX4_hearAll_36 : decode cX4_hearAll 36 = .ok (.invokestatic 54, 3) := by decide +kernel
theorem dX4_hearAll_39 : decode cX4_hearAll 39 = .ok (.aload_n 0, 1) := by decide +kernel
theorem dX4_hearAll_40 : decode cX4_hearAll 40 = .ok (.invokevirtual 60, 3) := by decide +kernel
theorem dX4_hearAll_43 : decode cX4_hearAll 43 = .ok (.aload_n 0, 1) := by decide +kernel
theorem dX4_hearAll_44 : decode cX4_hearAll 44 = .ok (.invokevirtual 63, 3) := by decide +kernel
theorem dX4_hearAll_47 : decode cX4_hearAll 47 = .ok (.aload_n 0, 1) := by decide +kernel
theorem dX4_hearAll_48 : decode cX4_hearAll 48 = .ok (.invokevirtual 66, 3) := by decide +kernel
theorem dX4_hearAll_51 : decode cX4_hearAll 51 = .ok (.return_, 1) := by decide +kernel
theorem dX4_slipAll_0 : decode cX4_slipAll 0 = .ok (.iconst 0, 1) := by decide +kernel
theorem dX4_slipAll_1 : decode cX4_slipAll 1 = .ok (.istore_n 1, 1) := by decide +kernel
theorem dX4_slipAll_2 : decode cX4_slipAll 2 = .ok (.iload_n 1, 1) := by decide +kernel
theorem dX4_slipAll_3 : decode cX4_slipAll 3 = .ok (.aload_n 0, 1) := by decide +kernel
theorem dX4_slipAll_4 : decode cX4_slipAll 4 = .ok (.getfield 42, 3) := by decide +kernel
theorem dX4_slipAll_7 : decode cX4_slipAll 7 = .ok (.getfield 69, 3) := by decide +kernel
theorem dX4_slipAll_10 : decode cX4_slipAll 10 = .ok (.if_icmp .ge 21, 3) := by decide +kernel
theorem dX4_slipAll_13 : decode cX4_slipAll 13 = .ok (.aload_n 0, 1) := by decide +kernel
theorem dX4_slipAll_14 : decode cX4_slipAll 14 = .ok (.getfield 22, 3) := by decide +kernel
theorem dX4_slipAll_17 : decode cX4_slipAll 17 = .ok (.iload_n 1, 1) := by decide +kernel
theorem dX4_slipAll_18 : decode cX4_slipAll 18 = .ok (.aload_n 0, 1) := by decide +kernel
theorem dX4_slipAll_19 : decode cX4_slipAll 19 = .ok (.iconst 1, 1) := by decide +kernel
theorem dX4_slipAll_20 : decode cX4_slipAll 20 = .ok (.iload_n 1, 1) := by decide +kernel
theorem dX4_slipAll_21 : decode cX4_slipAll 21 = .ok (.invokevirtual 72, 3) := by decide +kernel
theorem dX4_slipAll_24 : decode cX4_slipAll 24 = .ok (.iastore, 1) := by decide +kernel
theorem dX4_slipAll_25 : decode cX4_slipAll 25 = .ok (.iinc 1 1, 3) := by decide +kernel
theorem dX4_slipAll_28 : decode cX4_slipAll 28 = .ok (.goto (-26), 3) := by decide +kernel
theorem dX4_slipAll_31 : decode cX4_slipAll 31 = .ok (.return_, 1) := by decide +kernel
theorem dX4_arrange_0 : decode cX4_arrange 0 = .ok (.iconst 0, 1) := by decide +kernel
theorem dX4_arrange_1 : decode cX4_arrange 1 = .ok (.istore_n 1, 1) := by decide +kernel
theorem dX4_arrange_2 : decode cX4_arrange 2 = .ok (.iload_n 1, 1) := by decide +kernel
theorem dX4_arrange_3 : decode cX4_arrange 3 = .ok (.aload_n 0, 1) := by decide +kernel
theorem dX4_arrange_4 : decode cX4_arrange 4 = .ok (.getfield 42, 3) := by decide +kernel
theorem dX4_arrange_7 : decode cX4_arrange 7 = .ok (.getfield 69, 3) := by decide +kernel
theorem dX4_arrange_10 : decode cX4_arrange 10 = .ok (.if_icmp .ge 20, 3) := by decide +kernel
theorem dX4_arrange_13 : decode cX4_arrange 13 = .ok (.aload_n 0, 1) := by decide +kernel
theorem dX4_arrange_14 : decode cX4_arrange 14 = .ok (.getfield 25, 3) := by decide +kernel
theorem dX4_arrange_17 : decode cX4_arrange 17 = .ok (.iload_n 1, 1) := by decide +kernel
theorem dX4_arrange_18 : decode cX4_arrange 18 = .ok (.aload_n 0, 1) := by decide +kernel
theorem dX4_arrange_19 : decode cX4_arrange 19 = .ok (.iload_n 1, 1) := by decide +kernel
theorem dX4_arrange_20 : decode cX4_arrange 20 = .ok (.invokevirtual 76, 3) := by decide +kernel
theorem dX4_arrange_23 : decode cX4_arrange 23 = .ok (.iastore, 1) := by decide +kernel
theorem dX4_arrange_24 : decode cX4_arrange 24 = .ok (.iinc 1 1, 3) := by decide +kernel
theorem dX4_arrange_27 : decode cX4_arrange 27 = .ok (.goto (-25), 3) := by decide +kernel
theorem dX4_arrange_30 : decode cX4_arrange 30 = .ok (.return_, 1) := by decide +kernel
theorem dX4_playAll_0 : decode cX4_playAll 0 = .ok (.iconst 0, 1) := by decide +kernel
theorem dX4_playAll_1 : decode cX4_playAll 1 = .ok (.istore_n 1, 1) := by decide +kernel
theorem dX4_playAll_2 : decode cX4_playAll 2 = .ok (.iload_n 1, 1) := by decide +kernel
theorem dX4_playAll_3 : decode cX4_playAll 3 = .ok (.aload_n 0, 1) := by decide +kernel
theorem dX4_playAll_4 : decode cX4_playAll 4 = .ok (.getfield 42, 3) := by decide +kernel
theorem dX4_playAll_7 : decode cX4_playAll 7 = .ok (.getfield 69, 3) := by decide +kernel
theorem dX4_playAll_10 : decode cX4_playAll 10 = .ok (.if_icmp .ge 20, 3) := by decide +kernel
theorem dX4_playAll_13 : decode cX4_playAll 13 = .ok (.aload_n 0, 1) := by decide +kernel
theorem dX4_playAll_14 : decode cX4_playAll 14 = .ok (.getfield 28, 3) := by decide +kernel
theorem dX4_playAll_17 : decode cX4_playAll 17 = .ok (.iload_n 1, 1) := by decide +kernel
theorem dX4_playAll_18 : decode cX4_playAll 18 = .ok (.aload_n 0, 1) := by decide +kernel
theorem dX4_playAll_19 : decode cX4_playAll 19 = .ok (.iload_n 1, 1) := by decide +kernel
theorem dX4_playAll_20 : decode cX4_playAll 20 = .ok (.invokevirtual 80, 3) := by decide +kernel
theorem dX4_playAll_23 : decode cX4_playAll 23 = .ok (.iastore, 1) := by decide +kernel
theorem dX4_playAll_24 : decode cX4_playAll 24 = .ok (.iinc 1 1, 3) := by decide +kernel
theorem dX4_playAll_27 : decode cX4_playAll 27 = .ok (.goto (-25), 3) := by decide +kernel
theorem dX4_playAll_30 : decode cX4_playAll 30 = .ok (.return_, 1) := by decide +kernel
theorem dX4_loudness_0 : decode cX4_loudness 0 = .ok (.iconst 1, 1) := by decide +kernel
theorem dX4_loudness_1 : decode cX4_loudness 1 = .ok (.aload_n 0, 1) := by decide +kernel
theorem dX4_loudness_2 : decode cX4_loudness 2 = .ok (.iconst 0, 1) := by decide +kernel
theorem dX4_loudness_3 : decode cX4_loudness 3 = .ok (.iload_n 1, 1) := by decide +kernel
theorem dX4_loudness_4 : decode cX4_loudness 4 = .ok (.invokevirtual 72, 3) := by decide +kernel
theorem dX4_loudness_7 : decode cX4_loudness 7 = .ok (.iadd, 1) := by decide +kernel
theorem dX4_loudness_8 : decode cX4_loudness 8 = .ok (.ireturn, 1) := by decide +kernel
theorem dX4_sumFor_0 : decode cX4_sumFor 0 = .ok (.aload_n 0, 1) := by decide +kernel
theorem dX4_sumFor_1 : decode cX4_sumFor 1 = .ok (.getfield 39, 3) := by decide +kernel
theorem dX4_sumFor_4 : decode cX4_sumFor 4 = .ok (.iconst 0, 1) := by decide +kernel
theorem dX4_sumFor_5 : decode cX4_sumFor 5 = .ok (.iload_n 2, 1) := by decide +kernel
theorem dX4_sumFor_6 : decode cX4_sumFor 6 = .ok (.iastore, 1) := by decide +kernel
theorem dX4_sumFor_7 : decode cX4_sumFor 7 = .ok (.aload_n 0, 1) := by decide +kernel
theorem dX4_sumFor_8 : decode cX4_sumFor 8 = .ok (.getfield 39, 3) := by decide +kernel
theorem dX4_sumFor_11 : decode cX4_sumFor 11 = .ok (.iconst 1, 1) := by decide +kernel
theorem dX4_sumFor_12 : decode cX4_sumFor 12 = .ok (.aload_n 0, 1) := by decide +kernel
theorem dX4_sumFor_13 : decode cX4_sumFor 13 = .ok (.getfield 42, 3) := by decide +kernel
theorem dX4_sumFor_16 : decode cX4_sumFor 16 = .ok (.getfield 83, 3) := by decide +kernel
theorem dX4_sumFor_19 : decode cX4_sumFor 19 = .ok (.iload_n 2, 1) := by decide +kernel
theorem dX4_sumFor_20 : decode cX4_sumFor 20 = .ok (.iaload, 1) := by decide +kernel
theorem dX4_sumFor_21 : decode cX4_sumFor 21 = .ok (.invokestatic 86, 3) := by decide +kernel
theorem dX4_sumFor_24 : decode cX4_sumFor 24 = .ok (.iastore, 1) := by decide +kernel
theorem dX4_sumFor_25 : decode cX4_sumFor 25 = .ok (.aload_n 0, 1) := by decide +kernel
theorem dX4_sumFor_26 : decode cX4_sumFor 26 = .ok (.getfield 39, 3) := by decide +kernel
theorem dX4_sumFor_29 : decode cX4_sumFor 29 = .ok (.iconst 2, 1) := by decide +kernel
theorem dX4_sumFor_30 : decode cX4_sumFor 30 = .ok (.aload_n 0, 1) := by decide +kernel
theorem dX4_sumFor_31 : decode cX4_sumFor 31 = .ok (.getfield 42, 3) := by decide +kernel
theorem dX4_sumFor_34 : decode cX4_sumFor 34 = .ok (.getfield 83, 3) := by decide +kernel
theorem dX4_sumFor_37 : decode cX4_sumFor 37 = .ok (.iload_n 2, 1) := by decide +kernel
theorem dX4_sumFor_38 : decode cX4_sumFor 38 = .ok (.iaload, 1) := by decide +kernel
theorem dX4_sumFor_39 : decode cX4_sumFor 39 = .ok (.invokestatic 89, 3) := by decide +kernel
theorem dX4_sumFor_42 : decode cX4_sumFor 42 = .ok (.iastore, 1) := by decide +kernel
theorem dX4_sumFor_43 : decode cX4_sumFor 43 = .ok (.aload_n 0, 1) := by decide +kernel
theorem dX4_sumFor_44 : decode cX4_sumFor 44 = .ok (.getfield 39, 3) := by decide +kernel
theorem dX4_sumFor_47 : decode cX4_sumFor 47 = .ok (.iconst 3, 1) := by decide +kernel
theorem dX4_sumFor_48 : decode cX4_sumFor 48 = .ok (.aload_n 0, 1) := by decide +kernel
theorem dX4_sumFor_49 : decode cX4_sumFor 49 = .ok (.getfield 18, 3) := by decide +kernel
theorem dX4_sumFor_52 : decode cX4_sumFor 52 = .ok (.iload_n 2, 1) := by decide +kernel
theorem dX4_sumFor_53 : decode cX4_sumFor 53 = .ok (.iaload, 1) := by decide +kernel
theorem dX4_sumFor_54 : decode cX4_sumFor 54 = .ok (.iastore, 1) := by decide +kernel
theorem dX4_sumFor_55 : decode cX4_sumFor 55 = .ok (.aload_n 0, 1) := by decide +kernel
theorem dX4_sumFor_56 : decode cX4_sumFor 56 = .ok (.getfield 39, 3) := by decide +kernel
theorem dX4_sumFor_59 : decode cX4_sumFor 59 = .ok (.iconst 4, 1) := by decide +kernel
theorem dX4_sumFor_60 : decode cX4_sumFor 60 = .ok (.aload_n 0, 1) := by decide +kernel
theorem dX4_sumFor_61 : decode cX4_sumFor 61 = .ok (.getfield 42, 3) := by decide +kernel
theorem dX4_sumFor_64 : decode cX4_sumFor 64 = .ok (.getfield 92, 3) := by decide +kernel
theorem dX4_sumFor_67 : decode cX4_sumFor 67 = .ok (.iload_n 2, 1) := by decide +kernel
theorem dX4_sumFor_68 : decode cX4_sumFor 68 = .ok (.iaload, 1) := by decide +kernel
theorem dX4_sumFor_69 : decode cX4_sumFor 69 = .ok (.iastore, 1) := by decide +kernel
theorem dX4_sumFor_70 : decode cX4_sumFor 70 = .ok (.aload_n 0, 1) := by decide +kernel
theorem dX4_sumFor_71 : decode cX4_sumFor 71 = .ok (.getfield 46, 3) := by decide +kernel
theorem dX4_sumFor_74 : decode cX4_sumFor 74 = .ok (.iload_n 1, 1) := by decide +kernel
theorem dX4_sumFor_75 : decode cX4_sumFor 75 = .ok (.aload_n 0, 1) := by decide +kernel
theorem dX4_sumFor_76 : decode cX4_sumFor 76 = .ok (.getfield 39, 3) := by decide +kernel
theorem dX4_sumFor_79 : decode cX4_sumFor 79 = .ok (.invokevirtual 95, 3) := by decide +kernel
theorem dX4_sumFor_82 : decode cX4_sumFor 82 = .ok (.ireturn, 1) := by decide +kernel
theorem dX4_sourceOf_0 : decode cX4_sourceOf 0 = .ok (.aload_n 0, 1) := by decide +kernel
theorem dX4_sourceOf_1 : decode cX4_sourceOf 1 = .ok (.getfield 18, 3) := by decide +kernel
theorem dX4_sourceOf_4 : decode cX4_sourceOf 4 = .ok (.iload_n 1, 1) := by decide +kernel
theorem dX4_sourceOf_5 : decode cX4_sourceOf 5 = .ok (.iaload, 1) := by decide +kernel
theorem dX4_sourceOf_6 : decode cX4_sourceOf 6 = .ok (.tableswitch 92 0 5 #[38, 92, 41, 60, 92, 41], 38) := by decide +kernel
theorem dX4_sourceOf_44 : decode cX4_sourceOf 44 = .ok (.bipush (-2), 2) := by decide +kernel
theorem dX4_sourceOf_46 : decode cX4_sourceOf 46 = .ok (.ireturn, 1) := by decide +kernel
theorem dX4_sourceOf_47 : decode cX4_sourceOf 47 = .ok (.aload_n 0, 1) := by decide +kernel
theorem dX4_sourceOf_48 : decode cX4_sourceOf 48 = .ok (.iload_n 1, 1) := by decide +kernel
theorem dX4_sourceOf_49 : decode cX4_sourceOf 49 = .ok (.iconst 1, 1) := by decide +kernel
theorem dX4_sourceOf_50 : decode cX4_sourceOf 50 = .ok (.invokevirtual 101, 3) := by decide +kernel
theorem dX4_sourceOf_53 : decode cX4_sourceOf 53 = .ok (.istore_n 2, 1) := by decide +kernel
theorem dX4_sourceOf_54 : decode cX4_sourceOf 54 = .ok (.iload_n 2, 1) := by decide +kernel
theorem dX4_sourceOf_55 : decode cX4_sourceOf 55 = .ok (.iconst (-1), 1) := by decide +kernel
theorem dX4_sourceOf_56 : decode cX4_sourceOf 56 = .ok (.if_icmp .ne 8, 3) := by decide +kernel
theorem dX4_sourceOf_59 : decode cX4_sourceOf 59 = .ok (.bipush (-2), 2) := by decide +kernel
theorem dX4_sourceOf_61 : decode cX4_sourceOf 61 = .ok (.goto 4, 3) := by decide +kernel
theorem dX4_sourceOf_64 : decode cX4_sourceOf 64 = .ok (.iload_n 2, 1) := by decide +kernel
theorem dX4_sourceOf_65 : decode cX4_sourceOf 65 = .ok (.ireturn, 1) := by decide +kernel
theorem dX4_sourceOf_66 : decode cX4_sourceOf 66 = .ok (.aload_n 0, 1) := by decide +kernel
theorem dX4_sourceOf_67 : decode cX4_sourceOf 67 = .ok (.iload_n 1, 1) := by decide +kernel
theorem dX4_sourceOf_68 : decode cX4_sourceOf 68 = .ok (.iconst (-1), 1) := by decide +kernel
theorem dX4_sourceOf_69 : decode cX4_sourceOf 69 = .ok (.invokevirtual 101, 3) := by decide +kernel
theorem dX4_sourceOf_72 : decode cX4_sourceOf 72 = .ok (.istore_n 3, 1) := by decide +kernel
theorem dX4_sourceOf_73 : decode cX4_sourceOf 73 = .ok (.iload_n 3, 1) := by decide +kernel
theorem dX4_sourceOf_74 : decode cX4_sourceOf 74 = .ok (.iconst (-1), 1) := by decide +kernel
theorem dX4_sourceOf_75 : decode cX4_sourceOf 75 = .ok (.if_icmp .eq 21, 3) := by decide +kernel
theorem dX4_sourceOf_78 : decode cX4_sourceOf 78 = .ok (.aload_n 0, 1) := by decide +kernel
theorem dX4_sourceOf_79 : decode cX4_sourceOf 79 = .ok (.getfield 18, 3) := by decide +kernel
theorem dX4_sourceOf_82 : decode cX4_sourceOf 82 = .ok (.iload_n 3, 1) := by decide +kernel
theorem dX4_sourceOf_83 : decode cX4_sourceOf 83 = .ok (.iaload, 1) := by decide +kernel
theorem dX4_sourceOf_84 : decode cX4_sourceOf 84 = .ok (.iconst 2, 1) := by decide +kernel
theorem dX4_sourceOf_85 : decode cX4_sourceOf 85 = .ok (.invokestatic 104, 3) := by decide +kernel
theorem dX4_sourceOf_88 : decode cX4_sourceOf 88 = .ok (.ifCond .eq 8, 3) := by decide +kernel
theorem dX4_sourceOf_91 : decode cX4_sourceOf 91 = .ok (.bipush (-2), 2) := by decide +kernel
theorem dX4_sourceOf_93 : decode cX4_sourceOf 93 = .ok (.goto 4, 3) := by decide +kernel
theorem dX4_sourceOf_96 : decode cX4_sourceOf 96 = .ok (.iload_n 3, 1) := by decide +kernel
theorem dX4_sourceOf_97 : decode cX4_sourceOf 97 = .ok (.ireturn, 1) := by decide +kernel
theorem dX4_sourceOf_98 : decode cX4_sourceOf 98 = .ok (.iconst (-1), 1) := by decide +kernel
theorem dX4_sourceOf_99 : decode cX4_sourceOf 99 = .ok (.ireturn, 1) := by decide +kernel
theorem dX4_nearestInColumn_0 : decode cX4_nearestInColumn 0 = .ok (.iconst (-1), 1) := by decide +kernel
theorem dX4_nearestInColumn_1 : decode cX4_nearestInColumn 1 = .ok (.istore_n 3, 1) := by decide +kernel
theorem dX4_nearestInColumn_2 : decode cX4_nearestInColumn 2 = .ok (.bipush 8, 2) := by decide +kernel
theorem dX4_nearestInColumn_4 : decode cX4_nearestInColumn 4 = .ok (.istore 4, 2) := by decide +kernel
theorem dX4_nearestInColumn_6 : decode cX4_nearestInColumn 6 = .ok (.iconst 0, 1) := by decide +kernel
theorem dX4_nearestInColumn_7 : decode cX4_nearestInColumn 7 = .ok (.istore 5, 2) := by decide +kernel
theorem dX4_nearestInColumn_9 : decode cX4_nearestInColumn 9 = .ok (.iload 5, 2) := by decide +kernel
theorem dX4_nearestInColumn_11 : decode cX4_nearestInColumn 11 = .ok (.aload_n 0, 1) := by decide +kernel
theorem dX4_nearestInColumn_12 : decode cX4_nearestInColumn 12 = .ok (.getfield 42, 3) := by decide +kernel
theorem dX4_nearestInColumn_15 : decode cX4_nearestInColumn 15 = .ok (.getfield 69, 3) := by decide +kernel
theorem dX4_nearestInColumn_18 : decode cX4_nearestInColumn 18 = .ok (.if_icmp .ge 107, 3) := by decide +kernel
theorem dX4_nearestInColumn_21 : decode cX4_nearestInColumn 21 = .ok (.iload_n 2, 1) := by decide +kernel
theorem dX4_nearestInColumn_22 : decode cX4_nearestInColumn 22 = .ok (.aload_n 0, 1) := by decide +kernel
theorem dX4_nearestInColumn_23 : decode cX4_nearestInColumn 23 = .ok (.getfield 42, 3) := by decide +kernel
theorem dX4_nearestInColumn_26 : decode cX4_nearestInColumn 26 = .ok (.getfield 83, 3) := by decide +kernel
theorem dX4_nearestInColumn_29 : decode cX4_nearestInColumn 29 = .ok (.iload 5, 2) := by decide +kernel
theorem dX4_nearestInColumn_31 : decode cX4_nearestInColumn 31 = .ok (.iaload, 1) := by decide +kernel
theorem dX4_nearestInColumn_32 : decode cX4_nearestInColumn 32 = .ok (.invokestatic 86, 3) := by decide +kernel
theorem dX4_nearestInColumn_35 : decode cX4_nearestInColumn 35 = .ok (.aload_n 0, 1) := by decide +kernel
theorem dX4_nearestInColumn_36 : decode cX4_nearestInColumn 36 = .ok (.getfield 42, 3) := by decide +kernel
theorem dX4_nearestInColumn_39 : decode cX4_nearestInColumn 39 = .ok (.getfield 83, 3) := by decide +kernel
theorem dX4_nearestInColumn_42 : decode cX4_nearestInColumn 42 = .ok (.iload_n 1, 1) := by decide +kernel
theorem dX4_nearestInColumn_43 : decode cX4_nearestInColumn 43 = .ok (.iaload, 1) := by decide +kernel
theorem dX4_nearestInColumn_44 : decode cX4_nearestInColumn 44 = .ok (.invokestatic 86, 3) := by decide +kernel
theorem dX4_nearestInColumn_47 : decode cX4_nearestInColumn 47 = .ok (.isub, 1) := by decide +kernel
theorem dX4_nearestInColumn_48 : decode cX4_nearestInColumn 48 = .ok (.imul, 1) := by decide +kernel
theorem dX4_nearestInColumn_49 : decode cX4_nearestInColumn 49 = .ok (.istore 6, 2) := by decide +kernel
theorem dX4_nearestInColumn_51 : decode cX4_nearestInColumn 51 = .ok (.iload 5, 2) := by decide +kernel
theorem dX4_nearestInColumn_53 : decode cX4_nearestInColumn 53 = .ok (.aload_n 0, 1) := by decide +kernel
theorem dX4_nearestInColumn_54 : decode cX4_nearestInColumn 54 = .ok (.getfield 15, 3) := by decide +kernel
theorem dX4_nearestInColumn_57 : decode cX4_nearestInColumn 57 = .ok (.if_icmp .eq 35, 3) := by decide +kernel
theorem dX4_nearestInColumn_60 : decode cX4_nearestInColumn 60 = .ok (.aload_n 0, 1) := by decide +kernel
theorem dX4_nearestInColumn_61 : decode cX4_nearestInColumn 61 = .ok (.getfield 42, 3) := by decide +kernel
theorem dX4_nearestInColumn_64 : decode cX4_nearestInColumn 64 = .ok (.getfield 83, 3) := by decide +kernel
theorem dX4_nearestInColumn_67 : decode cX4_nearestInColumn 67 = .ok (.iload 5, 2) := by decide +kernel
theorem dX4_nearestInColumn_69 : decode cX4_nearestInColumn 69 = .ok (.iaload, 1) := by decide +kernel
theorem dX4_nearestInColumn_70 : decode cX4_nearestInColumn 70 = .ok (.invokestatic 89, 3) := by decide +kernel
theorem dX4_nearestInColumn_73 : decode cX4_nearestInColumn 73 = .ok (.aload_n 0, 1) := by decide +kernel
theorem dX4_nearestInColumn_74 : decode cX4_nearestInColumn 74 = .ok (.getfield 42, 3) := by decide +kernel
theorem dX4_nearestInColumn_77 : decode cX4_nearestInColumn 77 = .ok (.getfield 83, 3) := by decide +kernel
theorem dX4_nearestInColumn_80 : decode cX4_nearestInColumn 80 = .ok (.iload_n 1, 1) := by decide +kernel
theorem dX4_nearestInColumn_81 : decode cX4_nearestInColumn 81 = .ok (.iaload, 1) := by decide +kernel
theorem dX4_nearestInColumn_82 : decode cX4_nearestInColumn 82 = .ok (.invokestatic 89, 3) := by decide +kernel
theorem dX4_nearestInColumn_85 : decode cX4_nearestInColumn 85 = .ok (.if_icmp .ne 7, 3) := by decide +kernel
theorem dX4_nearestInColumn_88 : decode cX4_nearestInColumn 88 = .ok (.iconst 1, 1) := by decide +kernel
theorem dX4_nearestInColumn_89 : decode cX4_nearestInColumn 89 = .ok (.goto 4, 3) := by decide +kernel
theorem dX4_nearestInColumn_92 : decode cX4_nearestInColumn 92 = .ok (.iconst 0, 1) := by decide +kernel
theorem dX4_nearestInColumn_93 : decode cX4_nearestInColumn 93 = .ok (.istore 7, 2) := by decide +kernel
theorem dX4_nearestInColumn_95 : decode cX4_nearestInColumn 95 = .ok (.iload 7, 2) := by decide +kernel
theorem dX4_nearestInColumn_97 : decode cX4_nearestInColumn 97 = .ok (.ifCond .eq 22, 3) := by decide +kernel
theorem dX4_nearestInColumn_100 : decode cX4_nearestInColumn 100 = .ok (.iload 6, 2) := by decide +kernel
theorem dX4_nearestInColumn_102 : decode cX4_nearestInColumn 102 = .ok (.ifCond .le 17, 3) := by decide +kernel
theorem dX4_nearestInColumn_105 : decode cX4_nearestInColumn 105 = .ok (.iload 6, 2) := by decide +kernel
theorem dX4_nearestInColumn_107 : decode cX4_nearestInColumn 107 = .ok (.iload 4, 2) := by decide +kernel
theorem dX4_nearestInColumn_109 : decode cX4_nearestInColumn 109 = .ok (.if_icmp .ge 10, 3) := by decide +kernel
theorem dX4_nearestInColumn_112 : decode cX4_nearestInColumn 112 = .ok (.iload 5, 2) := by decide +kernel
theorem dX4_nearestInColumn_114 : decode cX4_nearestInColumn 114 = .ok (.istore_n 3, 1) := by decide +kernel
theorem dX4_nearestInColumn_115 : decode cX4_nearestInColumn 115 = .ok (.iload 6, 2) := by decide +kernel
theorem dX4_nearestInColumn_117 : decode cX4_nearestInColumn 117 = .ok (.istore 4, 2) := by decide +kernel
theorem dX4_nearestInColumn_119 : decode cX4_nearestInColumn 119 = .ok (.iinc 5 1, 3) := by decide +kernel
theorem dX4_nearestInColumn_122 : decode cX4_nearestInColumn 122 = .ok (.goto (-113), 3) := by decide +kernel
theorem dX4_nearestInColumn_125 : decode cX4_nearestInColumn 125 = .ok (.iload_n 3, 1) := by decide +kernel
theorem dX4_nearestInColumn_126 : decode cX4_nearestInColumn 126 = .ok (.ireturn, 1) := by decide +kernel
theorem dX4_playedBy_0 : decode cX4_playedBy 0 = .ok (.iconst 0, 1) := by decide +kernel
theorem dX4_playedBy_1 : decode cX4_playedBy 1 = .ok (.istore_n 2, 1) := by decide +kernel
theorem dX4_playedBy_2 : decode cX4_playedBy 2 = .ok (.iload_n 1, 1) := by decide +kernel
theorem dX4_playedBy_3 : decode cX4_playedBy 3 = .ok (.istore_n 3, 1) := by decide +kernel
theorem dX4_playedBy_4 : decode cX4_playedBy 4 = .ok (.iconst 0, 1) := by decide +kernel
theorem dX4_playedBy_5 : decode cX4_playedBy 5 = .ok (.istore 4, 2) := by decide +kernel
theorem dX4_playedBy_7 : decode cX4_playedBy 7 = .ok (.iload 4, 2) := by decide +kernel
theorem dX4_playedBy_9 : decode cX4_playedBy 9 = .ok (.bipush 10, 2) := by decide +kernel
theorem dX4_playedBy_11 : decode cX4_playedBy 11 = .ok (.if_icmp .ge 110, 3) := by decide +kernel
theorem dX4_playedBy_14 : decode cX4_playedBy 14 = .ok (.iload_n 2, 1) := by decide +kernel
theorem dX4_playedBy_15 : decode cX4_playedBy 15 = .ok (.aload_n 0, 1) := by decide +kernel
theorem dX4_playedBy_16 : decode cX4_playedBy 16 = .ok (.getfield 22, 3) := by decide +kernel
theorem dX4_playedBy_19 : decode cX4_playedBy 19 = .ok (.iload_n 3, 1) := by decide +kernel
theorem dX4_playedBy_20 : decode cX4_playedBy 20 = .ok (.iaload, 1) := by decide +kernel
theorem dX4_playedBy_21 : decode cX4_playedBy 21 = .ok (.aload_n 0, 1) := by decide +kernel
theorem dX4_playedBy_22 : decode cX4_playedBy 22 = .ok (.iload_n 3, 1) := by decide +kernel
theorem dX4_playedBy_23 : decode cX4_playedBy 23 = .ok (.invokevirtual 108, 3) := by decide +kernel
theorem dX4_playedBy_26 : decode cX4_playedBy 26 = .ok (.iadd, 1) := by decide +kernel
theorem dX4_playedBy_27 : decode cX4_playedBy 27 = .ok (.iadd, 1) := by decide +kernel
theorem dX4_playedBy_28 : decode cX4_playedBy 28 = .ok (.istore_n 2, 1) := by decide +kernel
theorem dX4_playedBy_29 : decode cX4_playedBy 29 = .ok (.aload_n 0, 1) := by decide +kernel
theorem dX4_playedBy_30 : decode cX4_playedBy 30 = .ok (.getfield 25, 3) := by decide +kernel
theorem dX4_playedBy_33 : decode cX4_playedBy 33 = .ok (.iload_n 3, 1) := by decide +kernel
theorem dX4_playedBy_34 : decode cX4_playedBy 34 = .ok (.iaload, 1) := by decide +kernel
theorem dX4_playedBy_35 : decode cX4_playedBy 35 = .ok (.istore 5, 2) := by decide +kernel
theorem dX4_playedBy_37 : decode cX4_playedBy 37 = .ok (.iload 5, 2) := by decide +kernel
theorem dX4_playedBy_39 : decode cX4_playedBy 39 = .ok (.iconst (-1), 1) := by decide +kernel
theorem dX4_playedBy_40 : decode cX4_playedBy 40 = .ok (.if_icmp .ne 5, 3) := by decide +kernel
theorem dX4_playedBy_43 : decode cX4_playedBy 43 = .ok (.iload_n 2, 1) := by decide +kernel
theorem dX4_playedBy_44 : decode cX4_playedBy 44 = .ok (.ireturn, 1) := by decide +kernel
theorem dX4_playedBy_45 : decode cX4_playedBy 45 = .ok (.iload 5, 2) := by decide +kernel
theorem dX4_playedBy_47 : decode cX4_playedBy 47 = .ok (.bipush (-2), 2) := by decide +kernel
theorem dX4_playedBy_49 : decode cX4_playedBy 49 = .ok (.if_icmp .ne 30, 3) := by decide +kernel
theorem dX4_playedBy_52 : decode cX4_playedBy 52 = .ok (.iload_n 2, 1) := by decide +kernel
theorem dX4_playedBy_53 : decode cX4_playedBy 53 = .ok (.aload_n 0, 1) := by decide +kernel
theorem dX4_playedBy_54 : decode cX4_playedBy 54 = .ok (.getfield 46, 3) := by decide +kernel
theorem dX4_playedBy_57 : decode cX4_playedBy 57 = .ok (.getfield 111, 3) := by decide +kernel
theorem dX4_playedBy_60 : decode cX4_playedBy 60 = .ok (.aload_n 0, 1) := by decide +kernel
theorem dX4_playedBy_61 : decode cX4_playedBy 61 = .ok (.getfield 42, 3) := by decide +kernel
theorem dX4_playedBy_64 : decode cX4_playedBy 64 = .ok (.getfield 83, 3) := by decide +kernel
theorem dX4_playedBy_67 : decode cX4_playedBy 67 = .ok (.iload_n 3, 1) := by decide +kernel
theorem dX4_playedBy_68 : decode cX4_playedBy 68 = .ok (.iaload, 1) := by decide +kernel
theorem dX4_playedBy_69 : decode cX4_playedBy 69 = .ok (.aload_n 0, 1) := by decide +kernel
theorem dX4_playedBy_70 : decode cX4_playedBy 70 = .ok (.getfield 9, 3) := by decide +kernel
theorem dX4_playedBy_73 : decode cX4_playedBy 73 = .ok (.invokestatic 114, 3) := by decide +kernel
theorem dX4_playedBy_76 : decode cX4_playedBy 76 = .ok (.imul, 1) := by decide +kernel
theorem dX4_playedBy_77 : decode cX4_playedBy 77 = .ok (.iadd, 1) := by decide +kernel
theorem dX4_playedBy_78 : decode cX4_playedBy 78 = .ok (.ireturn, 1) := by decide +kernel
theorem dX4_playedBy_79 : decode cX4_playedBy 79 = .ok (.iload_n 2, 1) := by decide +kernel
theorem dX4_playedBy_80 : decode cX4_playedBy 80 = .ok (.aload_n 0, 1) := by decide +kernel
theorem dX4_playedBy_81 : decode cX4_playedBy 81 = .ok (.getfield 46, 3) := by decide +kernel
theorem dX4_playedBy_84 : decode cX4_playedBy 84 = .ok (.getfield 111, 3) := by decide +kernel
theorem dX4_playedBy_87 : decode cX4_playedBy 87 = .ok (.aload_n 0, 1) := by decide +kernel
theorem dX4_playedBy_88 : decode cX4_playedBy 88 = .ok (.getfield 42, 3) := by decide +kernel
theorem dX4_playedBy_91 : decode cX4_playedBy 91 = .ok (.getfield 83, 3) := by decide +kernel
theorem dX4_playedBy_94 : decode cX4_playedBy 94 = .ok (.iload_n 3, 1) := by decide +kernel
theorem dX4_playedBy_95 : decode cX4_playedBy 95 = .ok (.iaload, 1) := by decide +kernel
theorem dX4_playedBy_96 : decode cX4_playedBy 96 = .ok (.aload_n 0, 1) := by decide +kernel
theorem dX4_playedBy_97 : decode cX4_playedBy 97 = .ok (.getfield 42, 3) := by decide +kernel
theorem dX4_playedBy_100 : decode cX4_playedBy 100 = .ok (.getfield 83, 3) := by decide +kernel
theorem dX4_playedBy_103 : decode cX4_playedBy 103 = .ok (.iload 5, 2) := by decide +kernel
theorem dX4_playedBy_105 : decode cX4_playedBy 105 = .ok (.iaload, 1) := by decide +kernel
theorem dX4_playedBy_106 : decode cX4_playedBy 106 = .ok (.invokestatic 114, 3) := by decide +kernel
theorem dX4_playedBy_109 : decode cX4_playedBy 109 = .ok (.imul, 1) := by decide +kernel
theorem dX4_playedBy_110 : decode cX4_playedBy 110 = .ok (.iadd, 1) := by decide +kernel
theorem dX4_playedBy_111 : decode cX4_playedBy 111 = .ok (.istore_n 2, 1) := by decide +kernel
theorem dX4_playedBy_112 : decode cX4_playedBy 112 = .ok (.iload 5, 2) := by decide +kernel
theorem dX4_playedBy_114 : decode cX4_playedBy 114 = .ok (.istore_n 3, 1) := by decide +kernel
theorem dX4_playedBy_115 : decode cX4_playedBy 115 = .ok (.iinc 4 1, 3) := by decide +kernel
theorem dX4_playedBy_118 : decode cX4_playedBy 118 = .ok (.goto (-111), 3) := by decide +kernel
theorem dX4_playedBy_121 : decode cX4_playedBy 121 = .ok (.iload_n 2, 1) := by decide +kernel
theorem dX4_playedBy_122 : decode cX4_playedBy 122 = .ok (.ireturn, 1) := by decide +kernel
theorem dX4_ownMore_0 : decode cX4_ownMore 0 = .ok (.aload_n 0, 1) := by decide +kernel
theorem dX4_ownMore_1 : decode cX4_ownMore 1 = .ok (.getfield 18, 3) := by decide +kernel
theorem dX4_ownMore_4 : decode cX4_ownMore 4 = .ok (.iload_n 1, 1) := by decide +kernel
theorem dX4_ownMore_5 : decode cX4_ownMore 5 = .ok (.iaload, 1) := by decide +kernel
theorem dX4_ownMore_6 : decode cX4_ownMore 6 = .ok (.tableswitch 70 4 6 #[26, 37, 58], 26) := by decide +kernel
theorem dX4_ownMore_32 : decode cX4_ownMore 32 = .ok (.aload_n 0, 1) := by decide +kernel
theorem dX4_ownMore_33 : decode cX4_ownMore 33 = .ok (.getfield 42, 3) := by decide +kernel
theorem dX4_ownMore_36 : decode cX4_ownMore 36 = .ok (.getfield 92, 3) := by decide +kernel
theorem dX4_ownMore_39 : decode cX4_ownMore 39 = .ok (.iload_n 1, 1) := by decide +kernel
theorem dX4_ownMore_40 : decode cX4_ownMore 40 = .ok (.iaload, 1) := by decide +kernel
theorem dX4_ownMore_41 : decode cX4_ownMore 41 = .ok (.ineg, 1) := by decide +kernel
theorem dX4_ownMore_42 : decode cX4_ownMore 42 = .ok (.ireturn, 1) := by decide +kernel
theorem dX4_ownMore_43 : decode cX4_ownMore 43 = .ok (.aload_n 0, 1) := by decide +kernel
theorem dX4_ownMore_44 : decode cX4_ownMore 44 = .ok (.getfield 46, 3) := by decide +kernel
theorem dX4_ownMore_47 : decode cX4_ownMore 47 = .ok (.getfield 111, 3) := by decide +kernel
theorem dX4_ownMore_50 : decode cX4_ownMore 50 = .ok (.aload_n 0, 1) := by decide +kernel
theorem dX4_ownMore_51 : decode cX4_ownMore 51 = .ok (.getfield 42, 3) := by decide +kernel
theorem dX4_ownMore_54 : decode cX4_ownMore 54 = .ok (.getfield 83, 3) := by decide +kernel
theorem dX4_ownMore_57 : decode cX4_ownMore 57 = .ok (.iload_n 1, 1) := by decide +kernel
theorem dX4_ownMore_58 : decode cX4_ownMore 58 = .ok (.iaload, 1) := by decide +kernel
theorem dX4_ownMore_59 : decode cX4_ownMore 59 = .ok (.invokestatic 86, 3) := by decide +kernel
theorem dX4_ownMore_62 : decode cX4_ownMore 62 = .ok (.imul, 1) := by decide +kernel
theorem dX4_ownMore_63 : decode cX4_ownMore 63 = .ok (.ireturn, 1) := by decide +kernel
theorem dX4_ownMore_64 : decode cX4_ownMore 64 = .ok (.aload_n 0, 1) := by decide +kernel
theorem dX4_ownMore_65 : decode cX4_ownMore 65 = .ok (.getfield 42, 3) := by decide +kernel
theorem dX4_ownMore_68 : decode cX4_ownMore 68 = .ok (.getfield 92, 3) := by decide +kernel
theorem dX4_ownMore_71 : decode cX4_ownMore 71 = .ok (.iload_n 1, 1) := by decide +kernel
theorem dX4_ownMore_72 : decode cX4_ownMore 72 = .ok (.iaload, 1) := by decide +kernel
theorem dX4_ownMore_73 : decode cX4_ownMore 73 = .ok (.iload_n 1, 1) := by decide +kernel
theorem dX4_ownMore_74 : decode cX4_ownMore 74 = .ok (.imul, 1) := by decide +kernel
theorem dX4_ownMore_75 : decode cX4_ownMore 75 = .ok (.ireturn, 1) := by decide +kernel
theorem dX4_ownMore_76 : decode cX4_ownMore 76 = .ok (.iconst 0, 1) := by decide +kernel
theorem dX4_ownMore_77 : decode cX4_ownMore 77 = .ok (.ireturn, 1) := by decide +kernel
theorem dX4_arrival_0 : decode cX4_arrival 0 = .ok (.aload_n 0, 1) := by decide +kernel
theorem dX4_arrival_1 : decode cX4_arrival 1 = .ok (.getfield 28, 3) := by decide +kernel
theorem dX4_arrival_4 : decode cX4_arrival 4 = .ok (.iload_n 2, 1) := by decide +kernel
theorem dX4_arrival_5 : decode cX4_arrival 5 = .ok (.iaload, 1) := by decide +kernel
theorem dX4_arrival_6 : decode cX4_arrival 6 = .ok (.aload_n 0, 1) := by decide +kernel
theorem dX4_arrival_7 : decode cX4_arrival 7 = .ok (.getfield 46, 3) := by decide +kernel
theorem dX4_arrival_10 : decode cX4_arrival 10 = .ok (.getfield 111, 3) := by decide +kernel
theorem dX4_arrival_13 : decode cX4_arrival 13 = .ok (.iload_n 1, 1) := by decide +kernel
theorem dX4_arrival_14 : decode cX4_arrival 14 = .ok (.invokestatic 117, 3) := by decide +kernel
theorem dX4_arrival_17 : decode cX4_arrival 17 = .ok (.aload_n 0, 1) := by decide +kernel
theorem dX4_arrival_18 : decode cX4_arrival 18 = .ok (.getfield 42, 3) := by decide +kernel
theorem dX4_arrival_21 : decode cX4_arrival 21 = .ok (.getfield 83, 3) := by decide +kernel
theorem dX4_arrival_24 : decode cX4_arrival 24 = .ok (.iload_n 2, 1) := by decide +kernel
theorem dX4_arrival_25 : decode cX4_arrival 25 = .ok (.iaload, 1) := by decide +kernel
theorem dX4_arrival_26 : decode cX4_arrival 26 = .ok (.invokestatic 114, 3) := by decide +kernel
theorem dX4_arrival_29 : decode cX4_arrival 29 = .ok (.imul, 1) := by decide +kernel
theorem dX4_arrival_30 : decode cX4_arrival 30 = .ok (.iadd, 1) := by decide +kernel
theorem dX4_arrival_31 : decode cX4_arrival 31 = .ok (.ireturn, 1) := by decide +kernel
theorem dX4_earliest_0 : decode cX4_earliest 0 = .ok (.ldc 122, 2) := by decide +kernel
theorem dX4_earliest_2 : decode cX4_earliest 2 = .ok (.istore_n 2, 1) := by decide +kernel
theorem dX4_earliest_3 : decode cX4_earliest 3 = .ok (.iconst 0, 1) := by decide +kernel
theorem dX4_earliest_4 : decode cX4_earliest 4 = .ok (.istore_n 3, 1) := by decide +kernel
theorem dX4_earliest_5 : decode cX4_earliest 5 = .ok (.iload_n 3, 1) := by decide +kernel
theorem dX4_earliest_6 : decode cX4_earliest 6 = .ok (.aload_n 0, 1) := by decide +kernel
theorem dX4_earliest_7 : decode cX4_earliest 7 = .ok (.getfield 42, 3) := by decide +kernel
theorem dX4_earliest_10 : decode cX4_earliest 10 = .ok (.getfield 69, 3) := by decide +kernel
theorem dX4_earliest_13 : decode cX4_earliest 13 = .ok (.if_icmp .ge 28, 3) := by decide +kernel
theorem dX4_earliest_16 : decode cX4_earliest 16 = .ok (.iload_n 3, 1) := by decide +kernel
theorem dX4_earliest_17 : decode cX4_earliest 17 = .ok (.aload_n 0, 1) := by decide +kernel
theorem dX4_earliest_18 : decode cX4_earliest 18 = .ok (.getfield 15, 3) := by decide +kernel
theorem dX4_earliest_21 : decode cX4_earliest 21 = .ok (.if_icmp .eq 14, 3) := by decide +kernel
theorem dX4_earliest_24 : decode cX4_earliest 24 = .ok (.iload_n 2, 1) := by decide +kernel
theorem dX4_earliest_25 : decode cX4_earliest 25 = .ok (.aload_n 0, 1) := by decide +kernel
theorem dX4_earliest_26 : decode cX4_earliest 26 = .ok (.iload_n 1, 1) := by decide +kernel
theorem dX4_earliest_27 : decode cX4_earliest 27 = .ok (.iload_n 3, 1) := by decide +kernel
theorem dX4_earliest_28 : decode cX4_earliest 28 = .ok (.invokevirtual 123, 3) := by decide +kernel
theorem dX4_earliest_31 : decode cX4_earliest 31 = .ok (.invokestatic 126, 3) := by decide +kernel
theorem dX4_earliest_34 : decode cX4_earliest 34 = .ok (.istore_n 2, 1) := by decide +kernel
theorem dX4_earliest_35 : decode cX4_earliest 35 = .ok (.iinc 3 1, 3) := by decide +kernel
theorem dX4_earliest_38 : decode cX4_earliest 38 = .ok (.goto (-33), 3) := by decide +kernel
theorem dX4_earliest_41 : decode cX4_earliest 41 = .ok (.iload_n 2, 1) := by decide +kernel
theorem dX4_earliest_42 : decode cX4_earliest 42 = .ok (.ireturn, 1) := by decide +kernel
theorem dX4_spreadAt_0 : decode cX4_spreadAt 0 = .ok (.ldc 122, 2) := by decide +kernel
theorem dX4_spreadAt_2 : decode cX4_spreadAt 2 = .ok (.istore_n 2, 1) := by decide +kernel
theorem dX4_spreadAt_3 : decode cX4_spreadAt 3 = .ok (.ldc 131, 2) := by decide +kernel
theorem dX4_spreadAt_5 : decode cX4_spreadAt 5 = .ok (.istore_n 3, 1) := by decide +kernel
theorem dX4_spreadAt_6 : decode cX4_spreadAt 6 = .ok (.iconst 0, 1) := by decide +kernel
theorem dX4_spreadAt_7 : decode cX4_spreadAt 7 = .ok (.istore 4, 2) := by decide +kernel
theorem dX4_spreadAt_9 : decode cX4_spreadAt 9 = .ok (.iload 4, 2) := by decide +kernel
theorem dX4_spreadAt_11 : decode cX4_spreadAt 11 = .ok (.aload_n 0, 1) := by decide +kernel
theorem dX4_spreadAt_12 : decode cX4_spreadAt 12 = .ok (.getfield 42, 3) := by decide +kernel
theorem dX4_spreadAt_15 : decode cX4_spreadAt 15 = .ok (.getfield 69, 3) := by decide +kernel
theorem dX4_spreadAt_18 : decode cX4_spreadAt 18 = .ok (.if_icmp .ge 41, 3) := by decide +kernel
theorem dX4_spreadAt_21 : decode cX4_spreadAt 21 = .ok (.iload 4, 2) := by decide +kernel
theorem dX4_spreadAt_23 : decode cX4_spreadAt 23 = .ok (.aload_n 0, 1) := by decide +kernel
theorem dX4_spreadAt_24 : decode cX4_spreadAt 24 = .ok (.getfield 15, 3) := by decide +kernel
theorem dX4_spreadAt_27 : decode cX4_spreadAt 27 = .ok (.if_icmp .eq 26, 3) := by decide +kernel
theorem dX4_spreadAt_30 : decode cX4_spreadAt 30 = .ok (.aload_n 0, 1) := by decide +kernel
theorem dX4_spreadAt_31 : decode cX4_spreadAt 31 = .ok (.iload_n 1, 1) := by decide +kernel
theorem dX4_spreadAt_32 : decode cX4_spreadAt 32 = .ok (.iload 4, 2) := by decide +kernel
theorem dX4_spreadAt_34 : decode cX4_spreadAt 34 = .ok (.invokevirtual 123, 3) := by decide +kernel
theorem dX4_spreadAt_37 : decode cX4_spreadAt 37 = .ok (.istore 5, 2) := by decide +kernel
theorem dX4_spreadAt_39 : decode cX4_spreadAt 39 = .ok (.iload_n 2, 1) := by decide +kernel
theorem dX4_spreadAt_40 : decode cX4_spreadAt 40 = .ok (.iload 5, 2) := by decide +kernel
theorem dX4_spreadAt_42 : decode cX4_spreadAt 42 = .ok (.invokestatic 126, 3) := by decide +kernel
theorem dX4_spreadAt_45 : decode cX4_spreadAt 45 = .ok (.istore_n 2, 1) := by decide +kernel
theorem dX4_spreadAt_46 : decode cX4_spreadAt 46 = .ok (.iload_n 3, 1) := by decide +kernel
theorem dX4_spreadAt_47 : decode cX4_spreadAt 47 = .ok (.iload 5, 2) := by decide +kernel
theorem dX4_spreadAt_49 : decode cX4_spreadAt 49 = .ok (.invokestatic 132, 3) := by decide +kernel
theorem dX4_spreadAt_52 : decode cX4_spreadAt 52 = .ok (.istore_n 3, 1) := by decide +kernel
theorem dX4_spreadAt_53 : decode cX4_spreadAt 53 = .ok (.iinc 4 1, 3) := by decide +kernel
theorem dX4_spreadAt_56 : decode cX4_spreadAt 56 = .ok (.goto (-47), 3) := by decide +kernel
theorem dX4_spreadAt_59 : decode cX4_spreadAt 59 = .ok (.iload_n 2, 1) := by decide +kernel
theorem dX4_spreadAt_60 : decode cX4_spreadAt 60 = .ok (.iload_n 3, 1) := by decide +kernel
theorem dX4_spreadAt_61 : decode cX4_spreadAt 61 = .ok (.if_icmp .le 7, 3) := by decide +kernel
theorem dX4_spreadAt_64 : decode cX4_spreadAt 64 = .ok (.iconst 0, 1) := by decide +kernel
theorem dX4_spreadAt_65 : decode cX4_spreadAt 65 = .ok (.goto 6, 3) := by decide +kernel
theorem dX4_spreadAt_68 : decode cX4_spreadAt 68 = .ok (.iload_n 3, 1) := by decide +kernel
theorem dX4_spreadAt_69 : decode cX4_spreadAt 69 = .ok (.iload_n 2, 1) := by decide +kernel
theorem dX4_spreadAt_70 : decode cX4_spreadAt 70 = .ok (.isub, 1) := by decide +kernel
theorem dX4_spreadAt_71 : decode cX4_spreadAt 71 = .ok (.ireturn, 1) := by decide +kernel
theorem dX4_sumOfSpreads_0 : decode cX4_sumOfSpreads 0 = .ok (.iconst 0, 1) := by decide +kernel
theorem dX4_sumOfSpreads_1 : decode cX4_sumOfSpreads 1 = .ok (.istore_n 1, 1) := by decide +kernel
theorem dX4_sumOfSpreads_2 : decode cX4_sumOfSpreads 2 = .ok (.iconst 0, 1) := by decide +kernel
theorem dX4_sumOfSpreads_3 : decode cX4_sumOfSpreads 3 = .ok (.istore_n 2, 1) := by decide +kernel
theorem dX4_sumOfSpreads_4 : decode cX4_sumOfSpreads 4 = .ok (.iload_n 2, 1) := by decide +kernel
theorem dX4_sumOfSpreads_5 : decode cX4_sumOfSpreads 5 = .ok (.bipush 8, 2) := by decide +kernel
theorem dX4_sumOfSpreads_7 : decode cX4_sumOfSpreads 7 = .ok (.if_icmp .ge 17, 3) := by decide +kernel
theorem dX4_sumOfSpreads_10 : decode cX4_sumOfSpreads 10 = .ok (.iload_n 1, 1) := by decide +kernel
theorem dX4_sumOfSpreads_11 : decode cX4_sumOfSpreads 11 = .ok (.aload_n 0, 1) := by decide +kernel
theorem dX4_sumOfSpreads_12 : decode cX4_sumOfSpreads 12 = .ok (.iload_n 2, 1) := by decide +kernel
theorem dX4_sumOfSpreads_13 : decode cX4_sumOfSpreads 13 = .ok (.invokevirtual 135, 3) := by decide +kernel
theorem dX4_sumOfSpreads_16 : decode cX4_sumOfSpreads 16 = .ok (.iadd, 1) := by decide +kernel
theorem dX4_sumOfSpreads_17 : decode cX4_sumOfSpreads 17 = .ok (.istore_n 1, 1) := by decide +kernel
theorem dX4_sumOfSpreads_18 : decode cX4_sumOfSpreads 18 = .ok (.iinc 2 1, 3) := by decide +kernel
theorem dX4_sumOfSpreads_21 : decode cX4_sumOfSpreads 21 = .ok (.goto (-17), 3) := by decide +kernel
theorem dX4_sumOfSpreads_24 : decode cX4_sumOfSpreads 24 = .ok (.iload_n 1, 1) := by decide +kernel
theorem dX4_sumOfSpreads_25 : decode cX4_sumOfSpreads 25 = .ok (.ireturn, 1) := by decide +kernel
theorem dX4_sumWithDrumOn_0 : decode cX4_sumWithDrumOn 0 = .ok (.aload_n 0, 1) := by decide +kernel
theorem dX4_sumWithDrumOn_1 : decode cX4_sumWithDrumOn 1 = .ok (.iload_n 1, 1) := by decide +kernel
theorem dX4_sumWithDrumOn_2 : decode cX4_sumWithDrumOn 2 = .ok (.putfield 9, 3) := by decide +kernel
theorem dX4_sumWithDrumOn_5 : decode cX4_sumWithDrumOn 5 = .ok (.aload_n 0, 1) := by decide +kernel
theorem dX4_sumWithDrumOn_6 : decode cX4_sumWithDrumOn 6 = .ok (.invokevirtual 66, 3) := by decide +kernel
theorem dX4_sumWithDrumOn_9 : decode cX4_sumWithDrumOn 9 = .ok (.aload_n 0, 1) := by decide +kernel
theorem dX4_sumWithDrumOn_10 : decode cX4_sumWithDrumOn 10 = .ok (.invokevirtual 138, 3) := by decide +kernel
theorem dX4_sumWithDrumOn_13 : decode cX4_sumWithDrumOn 13 = .ok (.ireturn, 1) := by decide +kernel
theorem dX4_sumWithout_0 : decode cX4_sumWithout 0 = .ok (.aload_n 0, 1) := by decide +kernel
theorem dX4_sumWithout_1 : decode cX4_sumWithout 1 = .ok (.iload_n 1, 1) := by decide +kernel
theorem dX4_sumWithout_2 : decode cX4_sumWithout 2 = .ok (.putfield 15, 3) := by decide +kernel
theorem dX4_sumWithout_5 : decode cX4_sumWithout 5 = .ok (.aload_n 0, 1) := by decide +kernel
theorem dX4_sumWithout_6 : decode cX4_sumWithout 6 = .ok (.invokevirtual 63, 3) := by decide +kernel
theorem dX4_sumWithout_9 : decode cX4_sumWithout 9 = .ok (.aload_n 0, 1) := by decide +kernel
theorem dX4_sumWithout_10 : decode cX4_sumWithout 10 = .ok (.invokevirtual 66, 3) := by decide +kernel
theorem dX4_sumWithout_13 : decode cX4_sumWithout 13 = .ok (.aload_n 0, 1) := by decide +kernel
theorem dX4_sumWithout_14 : decode cX4_sumWithout 14 = .ok (.invokevirtual 138, 3) := by decide +kernel
theorem dX4_sumWithout_17 : decode cX4_sumWithout 17 = .ok (.ireturn, 1) := by decide +kernel
theorem dX4_arrivalAsKind_0 : decode cX4_arrivalAsKind 0 = .ok (.aload_n 0, 1) := by decide +kernel
theorem dX4_arrivalAsKind_1 : decode cX4_arrivalAsKind 1 = .ok (.getfield 18, 3) := by decide +kernel
theorem dX4_arrivalAsKind_4 : decode cX4_arrivalAsKind 4 = .ok (.iload_n 2, 1) := by decide +kernel
theorem dX4_arrivalAsKind_5 : decode cX4_arrivalAsKind 5 = .ok (.iload_n 3, 1) := by decide +kernel
theorem dX4_arrivalAsKind_6 : decode cX4_arrivalAsKind 6 = .ok (.iastore, 1) := by decide +kernel
theorem dX4_arrivalAsKind_7 : decode cX4_arrivalAsKind 7 = .ok (.aload_n 0, 1) := by decide +kernel
theorem dX4_arrivalAsKind_8 : decode cX4_arrivalAsKind 8 = .ok (.getfield 22, 3) := by decide +kernel
theorem dX4_arrivalAsKind_11 : decode cX4_arrivalAsKind 11 = .ok (.iload_n 2, 1) := by decide +kernel
theorem dX4_arrivalAsKind_12 : decode cX4_arrivalAsKind 12 = .ok (.aload_n 0, 1) := by decide +kernel
theorem dX4_arrivalAsKind_13 : decode cX4_arrivalAsKind 13 = .ok (.iconst 1, 1) := by decide +kernel
theorem dX4_arrivalAsKind_14 : decode cX4_arrivalAsKind 14 = .ok (.iload_n 2, 1) := by decide +kernel
theorem dX4_arrivalAsKind_15 : decode cX4_arrivalAsKind 15 = .ok (.invokevirtual 72, 3) := by decide +kernel
theorem dX4_arrivalAsKind_18 : decode cX4_arrivalAsKind 18 = .ok (.iastore, 1) := by decide +kernel
theorem dX4_arrivalAsKind_19 : decode cX4_arrivalAsKind 19 = .ok (.aload_n 0, 1) := by decide +kernel
theorem dX4_arrivalAsKind_20 : decode cX4_arrivalAsKind 20 = .ok (.invokevirtual 63, 3) := by decide +kernel
theorem dX4_arrivalAsKind_23 : decode cX4_arrivalAsKind 23 = .ok (.aload_n 0, 1) := by decide +kernel
theorem dX4_arrivalAsKind_24 : decode cX4_arrivalAsKind 24 = .ok (.invokevirtual 66, 3) := by decide +kernel
theorem dX4_arrivalAsKind_27 : decode cX4_arrivalAsKind 27 = .ok (.aload_n 0, 1) := by decide +kernel
theorem dX4_arrivalAsKind_28 : decode cX4_arrivalAsKind 28 = .ok (.iload_n 1, 1) := by decide +kernel
theorem dX4_arrivalAsKind_29 : decode cX4_arrivalAsKind 29 = .ok (.iload_n 2, 1) := by decide +kernel
theorem dX4_arrivalAsKind_30 : decode cX4_arrivalAsKind 30 = .ok (.invokevirtual 123, 3) := by decide +kernel
theorem dX4_arrivalAsKind_33 : decode cX4_arrivalAsKind 33 = .ok (.ireturn, 1) := by decide +kernel
theorem dX4_loudTogether_0 : decode cX4_loudTogether 0 = .ok (.iconst (-1), 1) := by decide +kernel
theorem dX4_loudTogether_1 : decode cX4_loudTogether 1 = .ok (.istore_n 3, 1) := by decide +kernel
theorem dX4_loudTogether_2 : decode cX4_loudTogether 2 = .ok (.iconst 0, 1) := by decide +kernel
theorem dX4_loudTogether_3 : decode cX4_loudTogether 3 = .ok (.istore 4, 2) := by decide +kernel
theorem dX4_loudTogether_5 : decode cX4_loudTogether 5 = .ok (.iconst 0, 1) := by decide +kernel
theorem dX4_loudTogether_6 : decode cX4_loudTogether 6 = .ok (.istore 5, 2) := by decide +kernel
theorem dX4_loudTogether_8 : decode cX4_loudTogether 8 = .ok (.iload 5, 2) := by decide +kernel
theorem dX4_loudTogether_10 : decode cX4_loudTogether 10 = .ok (.aload_n 0, 1) := by decide +kernel
theorem dX4_loudTogether_11 : decode cX4_loudTogether 11 = .ok (.getfield 42, 3) := by decide +kernel
theorem dX4_loudTogether_14 : decode cX4_loudTogether 14 = .ok (.getfield 69, 3) := by decide +kernel
theorem dX4_loudTogether_17 : decode cX4_loudTogether 17 = .ok (.if_icmp .ge 36, 3) := by decide +kernel
theorem dX4_loudTogether_20 : decode cX4_loudTogether 20 = .ok (.aload_n 0, 1) := by decide +kernel
theorem dX4_loudTogether_21 : decode cX4_loudTogether 21 = .ok (.iload 5, 2) := by decide +kernel
theorem dX4_loudTogether_23 : decode cX4_loudTogether 23 = .ok (.invokevirtual 141, 3) := by decide +kernel
theorem dX4_loudTogether_26 : decode cX4_loudTogether 26 = .ok (.istore 6, 2) := by decide +kernel
theorem dX4_loudTogether_28 : decode cX4_loudTogether 28 = .ok (.iload_n 3, 1) := by decide +kernel
theorem dX4_loudTogether_29 : decode cX4_loudTogether 29 = .ok (.iconst (-1), 1) := by decide +kernel
theorem dX4_loudTogether_30 : decode cX4_loudTogether 30 = .ok (.if_icmp .eq 10, 3) := by decide +kernel
theorem dX4_loudTogether_33 : decode cX4_loudTogether 33 = .ok (.iload 6, 2) := by decide +kernel
theorem dX4_loudTogether_35 : decode cX4_loudTogether 35 = .ok (.iload 4, 2) := by decide +kernel
theorem dX4_loudTogether_37 : decode cX4_loudTogether 37 = .ok (.if_icmp .le 10, 3) := by decide +kernel
theorem dX4_loudTogether_40 : decode cX4_loudTogether 40 = .ok (.iload 5, 2) := by decide +kernel
theorem dX4_loudTogether_42 : decode cX4_loudTogether 42 = .ok (.istore_n 3, 1) := by decide +kernel
theorem dX4_loudTogether_43 : decode cX4_loudTogether 43 = .ok (.iload 6, 2) := by decide +kernel
theorem dX4_loudTogether_45 : decode cX4_loudTogether 45 = .ok (.istore 4, 2) := by decide +kernel
theorem dX4_loudTogether_47 : decode cX4_loudTogether 47 = .ok (.iinc 5 1, 3) := by decide +kernel
theorem dX4_loudTogether_50 : decode cX4_loudTogether 50 = .ok (.goto (-42), 3) := by decide +kernel
theorem dX4_loudTogether_53 : decode cX4_loudTogether 53 = .ok (.iconst 0, 1) := by decide +kernel
theorem dX4_loudTogether_54 : decode cX4_loudTogether 54 = .ok (.istore 5, 2) := by decide +kernel
theorem dX4_loudTogether_56 : decode cX4_loudTogether 56 = .ok (.iconst 0, 1) := by decide +kernel
theorem dX4_loudTogether_57 : decode cX4_loudTogether 57 = .ok (.istore 6, 2) := by decide +kernel
theorem dX4_loudTogether_59 : decode cX4_loudTogether 59 = .ok (.iload 6, 2) := by decide +kernel
theorem dX4_loudTogether_61 : decode cX4_loudTogether 61 = .ok (.aload_n 0, 1) := by decide +kernel
theorem dX4_loudTogether_62 : decode cX4_loudTogether 62 = .ok (.getfield 42, 3) := by decide +kernel
theorem dX4_loudTogether_65 : decode cX4_loudTogether 65 = .ok (.getfield 69, 3) := by decide +kernel
theorem dX4_loudTogether_68 : decode cX4_loudTogether 68 = .ok (.if_icmp .ge 41, 3) := by decide +kernel
theorem dX4_loudTogether_71 : decode cX4_loudTogether 71 = .ok (.aload_n 0, 1) := by decide +kernel
theorem dX4_loudTogether_72 : decode cX4_loudTogether 72 = .ok (.iload_n 1, 1) := by decide +kernel
theorem dX4_loudTogether_73 : decode cX4_loudTogether 73 = .ok (.iload 6, 2) := by decide +kernel
theorem dX4_loudTogether_75 : decode cX4_loudTogether 75 = .ok (.invokevirtual 123, 3) := by decide +kernel
theorem dX4_loudTogether_78 : decode cX4_loudTogether 78 = .ok (.aload_n 0, 1) := by decide +kernel
theorem dX4_loudTogether_79 : decode cX4_loudTogether 79 = .ok (.iload_n 1, 1) := by decide +kernel
theorem dX4_loudTogether_80 : decode cX4_loudTogether 80 = .ok (.iload_n 3, 1) := by decide +kernel
theorem dX4_loudTogether_81 : decode cX4_loudTogether 81 = .ok (.invokevirtual 123, 3) := by decide +kernel
theorem dX4_loudTogether_84 : decode cX4_loudTogether 84 = .ok (.isub, 1) := by decide +kernel
theorem dX4_loudTogether_85 : decode cX4_loudTogether 85 = .ok (.invokestatic 144, 3) := by decide +kernel
theorem dX4_loudTogether_88 : decode cX4_loudTogether 88 = .ok (.iload_n 2, 1) := by decide +kernel
theorem dX4_loudTogether_89 : decode cX4_loudTogether 89 = .ok (.if_icmp .gt 14, 3) := by decide +kernel
theorem dX4_loudTogether_92 : decode cX4_loudTogether 92 = .ok (.iload 5, 2) := by decide +kernel
theorem dX4_loudTogether_94 : decode cX4_loudTogether 94 = .ok (.aload_n 0, 1) := by decide +kernel
theorem dX4_loudTogether_95 : decode cX4_loudTogether 95 = .ok (.iload 6, 2) := by decide +kernel
theorem dX4_loudTogether_97 : decode cX4_loudTogether 97 = .ok (.invokevirtual 141, 3) := by decide +kernel
theorem dX4_loudTogether_100 : decode cX4_loudTogether 100 = .ok (.iadd, 1) := by decide +kernel
theorem dX4_loudTogether_101 : decode cX4_loudTogether 101 = .ok (.istore 5, 2) := by decide +kernel
theorem dX4_loudTogether_103 : decode cX4_loudTogether 103 = .ok (.iinc 6 1, 3) := by decide +kernel
theorem dX4_loudTogether_106 : decode cX4_loudTogether 106 = .ok (.goto (-47), 3) := by decide +kernel
theorem dX4_loudTogether_109 : decode cX4_loudTogether 109 = .ok (.iload 5, 2) := by decide +kernel
theorem dX4_loudTogether_111 : decode cX4_loudTogether 111 = .ok (.ireturn, 1) := by decide +kernel
theorem dX4_likeDrum_0 : decode cX4_likeDrum 0 = .ok (.iconst 0, 1) := by decide +kernel
theorem dX4_likeDrum_1 : decode cX4_likeDrum 1 = .ok (.istore_n 3, 1) := by decide +kernel
theorem dX4_likeDrum_2 : decode cX4_likeDrum 2 = .ok (.iload_n 3, 1) := by decide +kernel
theorem dX4_likeDrum_3 : decode cX4_likeDrum 3 = .ok (.aload_n 0, 1) := by decide +kernel
theorem dX4_likeDrum_4 : decode cX4_likeDrum 4 = .ok (.getfield 42, 3) := by decide +kernel
theorem dX4_likeDrum_7 : decode cX4_likeDrum 7 = .ok (.getfield 69, 3) := by decide +kernel
theorem dX4_likeDrum_10 : decode cX4_likeDrum 10 = .ok (.if_icmp .ge 16, 3) := by decide +kernel
theorem dX4_likeDrum_13 : decode cX4_likeDrum 13 = .ok (.aload_n 0, 1) := by decide +kernel
theorem dX4_likeDrum_14 : decode cX4_likeDrum 14 = .ok (.getfield 18, 3) := by decide +kernel
theorem dX4_likeDrum_17 : decode cX4_likeDrum 17 = .ok (.iload_n 3, 1) := by decide +kernel
theorem dX4_likeDrum_18 : decode cX4_likeDrum 18 = .ok (.iconst 0, 1) := by decide +kernel
theorem dX4_likeDrum_19 : decode cX4_likeDrum 19 = .ok (.iastore, 1) := by decide +kernel
theorem dX4_likeDrum_20 : decode cX4_likeDrum 20 = .ok (.iinc 3 1, 3) := by decide +kernel
theorem dX4_likeDrum_23 : decode cX4_likeDrum 23 = .ok (.goto (-21), 3) := by decide +kernel
theorem dX4_likeDrum_26 : decode cX4_likeDrum 26 = .ok (.aload_n 0, 1) := by decide +kernel
theorem dX4_likeDrum_27 : decode cX4_likeDrum 27 = .ok (.invokevirtual 60, 3) := by decide +kernel
theorem dX4_likeDrum_30 : decode cX4_likeDrum 30 = .ok (.aload_n 0, 1) := by decide +kernel
theorem dX4_likeDrum_31 : decode cX4_likeDrum 31 = .ok (.invokevirtual 63, 3) := by decide +kernel
theorem dX4_likeDrum_34 : decode cX4_likeDrum 34 = .ok (.aload_n 0, 1) := by decide +kernel
theorem dX4_likeDrum_35 : decode cX4_likeDrum 35 = .ok (.invokevirtual 66, 3) := by decide +kernel
theorem dX4_likeDrum_38 : decode cX4_likeDrum 38 = .ok (.aload_n 0, 1) := by decide +kernel
theorem dX4_likeDrum_39 : decode cX4_likeDrum 39 = .ok (.getfield 46, 3) := by decide +kernel
theorem dX4_likeDrum_42 : decode cX4_likeDrum 42 = .ok (.getfield 111, 3) := by decide +kernel
theorem dX4_likeDrum_45 : decode cX4_likeDrum 45 = .ok (.iload_n 1, 1) := by decide +kernel
theorem dX4_likeDrum_46 : decode cX4_likeDrum 46 = .ok (.invokestatic 117, 3) := by decide +kernel
theorem dX4_likeDrum_49 : decode cX4_likeDrum 49 = .ok (.aload_n 0, 1) := by decide +kernel
theorem dX4_likeDrum_50 : decode cX4_likeDrum 50 = .ok (.getfield 9, 3) := by decide +kernel
theorem dX4_likeDrum_53 : decode cX4_likeDrum 53 = .ok (.invokestatic 114, 3) := by decide +kernel
theorem dX4_likeDrum_56 : decode cX4_likeDrum 56 = .ok (.imul, 1) := by decide +kernel
theorem dX4_likeDrum_57 : decode cX4_likeDrum 57 = .ok (.istore_n 3, 1) := by decide +kernel
theorem dX4_likeDrum_58 : decode cX4_likeDrum 58 = .ok (.iconst 0, 1) := by decide +kernel
theorem dX4_likeDrum_59 : decode cX4_likeDrum 59 = .ok (.istore 4, 2) := by decide +kernel
theorem dX4_likeDrum_61 : decode cX4_likeDrum 61 = .ok (.iconst 0, 1) := by decide +kernel
theorem dX4_likeDrum_62 : decode cX4_likeDrum 62 = .ok (.istore 5, 2) := by decide +kernel
theorem dX4_likeDrum_64 : decode cX4_likeDrum 64 = .ok (.iload 5, 2) := by decide +kernel
theorem dX4_likeDrum_66 : decode cX4_likeDrum 66 = .ok (.aload_n 0, 1) := by decide +kernel
theorem dX4_likeDrum_67 : decode cX4_likeDrum 67 = .ok (.getfield 42, 3) := by decide +kernel
theorem dX4_likeDrum_70 : decode cX4_likeDrum 70 = .ok (.getfield 69, 3) := by decide +kernel
theorem dX4_likeDrum_73 : decode cX4_likeDrum 73 = .ok (.if_icmp .ge 34, 3) := by decide +kernel
theorem dX4_likeDrum_76 : decode cX4_likeDrum 76 = .ok (.aload_n 0, 1) := by decide +kernel
theorem dX4_likeDrum_77 : decode cX4_likeDrum 77 = .ok (.iload_n 1, 1) := by decide +kernel
theorem dX4_likeDrum_78 : decode cX4_likeDrum 78 = .ok (.iload 5, 2) := by decide +kernel
theorem dX4_likeDrum_80 : decode cX4_likeDrum 80 = .ok (.invokevirtual 123, 3) := by decide +kernel
theorem dX4_likeDrum_83 : decode cX4_likeDrum 83 = .ok (.iload_n 3, 1) := by decide +kernel
theorem dX4_likeDrum_84 : decode cX4_likeDrum 84 = .ok (.isub, 1) := by decide +kernel
theorem dX4_likeDrum_85 : decode cX4_likeDrum 85 = .ok (.invokestatic 144, 3) := by decide +kernel
theorem dX4_likeDrum_88 : decode cX4_likeDrum 88 = .ok (.iload_n 2, 1) := by decide +kernel
theorem dX4_likeDrum_89 : decode cX4_likeDrum 89 = .ok (.if_icmp .gt 12, 3) := by decide +kernel
theorem dX4_likeDrum_92 : decode cX4_likeDrum 92 = .ok (.iload 4, 2) := by decide +kernel
theorem dX4_likeDrum_94 : decode cX4_likeDrum 94 = .ok (.iconst 1, 1) := by decide +kernel
theorem dX4_likeDrum_95 : decode cX4_likeDrum 95 = .ok (.iload 5, 2) := by decide +kernel
theorem dX4_likeDrum_97 : decode cX4_likeDrum 97 = .ok (.ishl, 1) := by decide +kernel
theorem dX4_likeDrum_98 : decode cX4_likeDrum 98 = .ok (.ior, 1) := by decide +kernel
theorem dX4_likeDrum_99 : decode cX4_likeDrum 99 = .ok (.istore 4, 2) := by decide +kernel
theorem dX4_likeDrum_101 : decode cX4_likeDrum 101 = .ok (.iinc 5 1, 3) := by decide +kernel
theorem dX4_likeDrum_104 : decode cX4_likeDrum 104 = .ok (.goto (-40), 3) := by decide +kernel
theorem dX4_likeDrum_107 : decode cX4_likeDrum 107 = .ok (.iload 4, 2) := by decide +kernel
theorem dX4_likeDrum_109 : decode cX4_likeDrum 109 = .ok (.ireturn, 1) := by decide +kernel
theorem dX5_init_0 : decode cX5_init 0 = .ok (.aload_n 0, 1) := by decide +kernel
theorem dX5_init_1 : decode cX5_init 1 = .ok (.invokespecial 3, 3) := by decide +kernel
theorem dX5_init_4 : decode cX5_init 4 = .ok (.aload_n 0, 1) := by decide +kernel
theorem dX5_init_5 : decode cX5_init 5 = .ok (.bipush 6, 2) := by decide +kernel
theorem dX5_init_7 : decode cX5_init 7 = .ok (.newarray .int, 2) := by decide +kernel
theorem dX5_init_9 : decode cX5_init 9 = .ok (.putfield 9, 3) := by decide +kernel
theorem dX5_init_12 : decode cX5_init 12 = .ok (.aload_n 0, 1) := by decide +kernel
theorem dX5_init_13 : decode cX5_init 13 = .ok (.bipush 6, 2) := by decide +kernel
theorem dX5_init_15 : decode cX5_init 15 = .ok (.newarray .int, 2) := by decide +kernel
theorem dX5_init_17 : decode cX5_init 17 = .ok (.putfield 15, 3) := by decide +kernel
theorem dX5_init_20 : decode cX5_init 20 = .ok (.aload_n 0, 1) := by decide +kernel
theorem dX5_init_21 : decode cX5_init 21 = .ok (.iconst 0, 1) := by decide +kernel
theorem dX5_init_22 : decode cX5_init 22 = .ok (.putfield 18, 3) := by decide +kernel
theorem dX5_init_25 : decode cX5_init 25 = .ok (.aload_n 0, 1) := by decide +kernel
theorem dX5_init_26 : decode cX5_init 26 = .ok (.iconst 0, 1) := by decide +kernel
theorem dX5_init_27 : decode cX5_init 27 = .ok (.putfield 22, 3) := by decide +kernel
theorem dX5_init_30 : decode cX5_init 30 = .ok (.aload_n 0, 1) := by decide +kernel
theorem dX5_init_31 : decode cX5_init 31 = .ok (.aload_n 1, 1) := by decide +kernel
theorem dX5_init_32 : decode cX5_init 32 = .ok (.putfield 25, 3) := by decide +kernel
theorem dX5_init_35 : decode cX5_init 35 = .ok (.return_, 1) := by decide +kernel
theorem dX5_find_0 : decode cX5_find 0 = .ok (.aload_n 0, 1) := by decide +kernel
theorem dX5_find_1 : decode cX5_find 1 = .ok (.ldc 31, 2) := by decide +kernel
theorem dX5_find_3 : decode cX5_find 3 = .ok (.putfield 18, 3) := by decide +kernel
theorem dX5_find_6 : decode cX5_find 6 = .ok (.aload_n 0, 1) := by decide +kernel
theorem dX5_find_7 : decode cX5_find 7 = .ok (.ldc 31, 2) := by decide +kernel
theorem dX5_find_9 : decode cX5_find 9 = .ok (.putfield 22, 3) := by decide +kernel
theorem dX5_find_12 : decode cX5_find 12 = .ok (.aload_n 0, 1) := by decide +kernel
theorem dX5_find_13 : decode cX5_find 13 = .ok (.iconst 0, 1) := by decide +kernel
theorem dX5_find_14 : decode cX5_find 14 = .ok (.iconst 0, 1) := by decide +kernel
theorem dX5_find_15 : decode cX5_find 15 = .ok (.iconst 0, 1) := by decide +kernel
theorem dX5_find_16 : decode cX5_find 16 = .ok (.iconst 0, 1) := by decide +kernel
theorem dX5_find_17 : decode cX5_find 17 = .ok (.invokevirtual 32, 3) := by decide +kernel
theorem dX5_find_20 : decode cX5_find 20 = .ok (.return_, 1) := by decide +kernel
theorem dX5_tryPlaces_0 : decode cX5_tryPlaces 0 = .ok (.aload_n 0, 1) := by decide +kernel
theorem dX5_tryPlaces_1 : decode cX5_tryPlaces 1 = .ok (.iload_n 3, 1) := by decide +kernel
theorem dX5_tryPlaces_2 : decode cX5_tryPlaces 2 = .ok (.iload 4, 2) := by decide +kernel
theorem dX5_tryPlaces_4 : decode cX5_tryPlaces 4 = .ok (.invokevirtual 36, 3) := by decide +kernel
theorem dX5_tryPlaces_7 : decode cX5_tryPlaces 7 = .ok (.ifCond .ne 4, 3) := by decide +kernel
theorem dX5_tryPlaces_10 : decode cX5_tryPlaces 10 = .ok (.return_, 1) := by decide +kernel
theorem dX5_tryPlaces_11 : decode cX5_tryPlaces 11 = .ok (.iload_n 1, 1) := by decide +kernel
theorem dX5_tryPlaces_12 : decode cX5_tryPlaces 12 = .ok (.aload_n 0, 1) := by decide +kernel
theorem dX5_tryPlaces_13 : decode cX5_tryPlaces 13 = .ok (.getfield 25, 3) := by decide +kernel
theorem dX5_tryPlaces_16 : decode cX5_tryPlaces 16 = .ok (.getfield 40, 3) := by decide +kernel
theorem dX5_tryPlaces_19 : decode cX5_tryPlaces 19 = .ok (.if_icmp .ge 9, 3) := by decide +kernel
theorem dX5_tryPlaces_22 : decode cX5_tryPlaces 22 = .ok (.iload_n 1, 1) := by decide +kernel
theorem dX5_tryPlaces_23 : decode cX5_tryPlaces 23 = .ok (.bipush 6, 2) := by decide +kernel
theorem dX5_tryPlaces_25 : decode cX5_tryPlaces 25 = .ok (.if_icmp .lt 30, 3) := by decide +kernel
theorem dX5_tryPlaces_28 : decode cX5_tryPlaces 28 = .ok (.aload_n 0, 1) := by decide +kernel
theorem dX5_tryPlaces_29 : decode cX5_tryPlaces 29 = .ok (.iload_n 3, 1) := by decide +kernel
theorem dX5_tryPlaces_30 : decode cX5_tryPlaces 30 = .ok (.putfield 18, 3) := by decide +kernel
theorem dX5_tryPlaces_33 : decode cX5_tryPlaces 33 = .ok (.aload_n 0, 1) := by decide +kernel
theorem dX5_tryPlaces_34 : decode cX5_tryPlaces 34 = .ok (.iload 4, 2) := by decide +kernel
theorem dX5_tryPlaces_36 : decode cX5_tryPlaces 36 = .ok (.putfield 22, 3) := by decide +kernel
theorem dX5_tryPlaces_39 : decode cX5_tryPlaces 39 = .ok (.aload_n 0, 1) := by decide +kernel
theorem dX5_tryPlaces_40 : decode cX5_tryPlaces 40 = .ok (.getfield 9, 3) := by decide +kernel
theorem dX5_tryPlaces_43 : decode cX5_tryPlaces 43 = .ok (.iconst 0, 1) := by decide +kernel
theorem dX5_tryPlaces_44 : decode cX5_tryPlaces 44 = .ok (.aload_n 0, 1) := by decide +kernel
theorem dX5_tryPlaces_45 : decode cX5_tryPlaces 45 = .ok (.getfield 15, 3) := by decide +kernel
theorem dX5_tryPlaces_48 : decode cX5_tryPlaces 48 = .ok (.iconst 0, 1) := by decide +kernel
theorem dX5_tryPlaces_49 : decode cX5_tryPlaces 49 = .ok (.bipush 6, 2) := by decide +kernel
theorem dX5_tryPlaces_51 : decode cX5_tryPlaces 51 = .ok (.invokestatic 45, 3) := by decide +kernel
theorem dX5_tryPlaces_54 : decode cX5_tryPlaces 54 = .ok (.return_, 1) := by decide +kernel
theorem dX5_tryPlaces_55 : decode cX5_tryPlaces 55 = .ok (.iconst 0, 1) := by decide +kernel
theorem dX5_tryPlaces_56 : decode cX5_tryPlaces 56 = .ok (.istore 5, 2) := by decide +kernel
theorem dX5_tryPlaces_58 : decode cX5_tryPlaces 58 = .ok (.iload 5, 2) := by decide +kernel
theorem dX5_tryPlaces_60 : decode cX5_tryPlaces 60 = .ok (.aload_n 0, 1) := by decide +kernel
theorem dX5_tryPlaces_61 : decode cX5_tryPlaces 61 = .ok (.getfield 25, 3) := by decide +kernel
theorem dX5_tryPlaces_64 : decode cX5_tryPlaces 64 = .ok (.getfield 40, 3) := by decide +kernel
theorem dX5_tryPlaces_67 : decode cX5_tryPlaces 67 = .ok (.if_icmp .ge 74, 3) := by decide +kernel
theorem dX5_tryPlaces_70 : decode cX5_tryPlaces 70 = .ok (.iload_n 2, 1) := by decide +kernel
theorem dX5_tryPlaces_71 : decode cX5_tryPlaces 71 = .ok (.iload 5, 2) := by decide +kernel
theorem dX5_tryPlaces_73 : decode cX5_tryPlaces 73 = .ok (.ishr, 1) := by decide +kernel
theorem dX5_tryPlaces_74 : decode cX5_tryPlaces 74 = .ok (.iconst 1, 1) := by decide +kernel
theorem dX5_tryPlaces_75 : decode cX5_tryPlaces 75 = .ok (.iand, 1) := by decide +kernel
theorem dX5_tryPlaces_76 : decode cX5_tryPlaces 76 = .ok (.ifCond .ne 59, 3) := by decide +kernel
theorem dX5_tryPlaces_79 : decode cX5_tryPlaces 79 = .ok (.aload_n 0, 1) := by decide +kernel
theorem dX5_tryPlaces_80 : decode cX5_tryPlaces 80 = .ok (.getfield 25, 3) := by decide +kernel
theorem dX5_tryPlaces_83 : decode cX5_tryPlaces 83 = .ok (.getfield 51, 3) := by decide +kernel
theorem dX5_tryPlaces_86 : decode cX5_tryPlaces 86 = .ok (.iload_n 1, 1) := by decide +kernel
theorem dX5_tryPlaces_87 : decode cX5_tryPlaces 87 = .ok (.iaload, 1) := by decide +kernel
theorem dX5_tryPlaces_88 : decode cX5_tryPlaces 88 = .ok (.aload_n 0, 1) := by decide +kernel
theorem dX5_tryPlaces_89 : decode cX5_tryPlaces 89 = .ok (.getfield 25, 3) := by decide +kernel
theorem dX5_tryPlaces_92 : decode cX5_tryPlaces 92 = .ok (.getfield 54, 3) := by decide +kernel
theorem dX5_tryPlaces_95 : decode cX5_tryPlaces 95 = .ok (.iload 5, 2) := by decide +kernel
theorem dX5_tryPlaces_97 : decode cX5_tryPlaces 97 = .ok (.iaload, 1) := by decide +kernel
theorem dX5_tryPlaces_98 : decode cX5_tryPlaces 98 = .ok (.invokestatic 57, 3) := by decide +kernel
theorem dX5_tryPlaces_101 : decode cX5_tryPlaces 101 = .ok (.istore 6, 2) := by decide +kernel
theorem dX5_tryPlaces_103 : decode cX5_tryPlaces 103 = .ok (.aload_n 0, 1) := by decide +kernel
theorem dX5_tryPlaces_104 : decode cX5_tryPlaces 104 = .ok (.getfield 9, 3) := by decide +kernel
theorem dX5_tryPlaces_107 : decode cX5_tryPlaces 107 = .ok (.iload_n 1, 1) := by decide +kernel
theorem dX5_tryPlaces_108 : decode cX5_tryPlaces 108 = .ok (.iload 5, 2) := by decide +kernel
theorem dX5_tryPlaces_110 : decode cX5_tryPlaces 110 = .ok (.iastore, 1) := by decide +kernel
theorem dX5_tryPlaces_111 : decode cX5_tryPlaces 111 = .ok (.aload_n 0, 1) := by decide +kernel
theorem dX5_tryPlaces_112 : decode cX5_tryPlaces 112 = .ok (.iload_n 1, 1) := by decide +kernel
theorem dX5_tryPlaces_113 : decode cX5_tryPlaces 113 = .ok (.iconst 1, 1) := by decide +kernel
theorem dX5_tryPlaces_114 : decode cX5_tryPlaces 114 = .ok (.iadd, 1) := by decide +kernel
theorem dX5_tryPlaces_115 : decode cX5_tryPlaces 115 = .ok (.iload_n 2, 1) := by decide +kernel
theorem dX5_tryPlaces_116 : decode cX5_tryPlaces 116 = .ok (.iconst 1, 1) := by decide +kernel
theorem dX5_tryPlaces_117 : decode cX5_tryPlaces 117 = .ok (.iload 5, 2) := by decide +kernel
theorem dX5_tryPlaces_119 : decode cX5_tryPlaces 119 = .ok (.ishl, 1) := by decide +kernel
theorem dX5_tryPlaces_120 : decode cX5_tryPlaces 120 = .ok (.ior, 1) := by decide +kernel
theorem dX5_tryPlaces_121 : decode cX5_tryPlaces 121 = .ok (.iload_n 3, 1) := by decide +kernel
theorem dX5_tryPlaces_122 : decode cX5_tryPlaces 122 = .ok (.iload 6, 2) := by decide +kernel
theorem dX5_tryPlaces_124 : decode cX5_tryPlaces 124 = .ok (.invokestatic 61, 3) := by decide +kernel
theorem dX5_tryPlaces_127 : decode cX5_tryPlaces 127 = .ok (.iload 4, 2) := by decide +kernel
theorem dX5_tryPlaces_129 : decode cX5_tryPlaces 129 = .ok (.iload 6, 2) := by decide +kernel
theorem dX5_tryPlaces_131 : decode cX5_tryPlaces 131 = .ok (.iadd, 1) := by decide +kernel
theorem dX5_tryPlaces_132 : decode cX5_tryPlaces 132 = .ok (.invokevirtual 32, 3) := by decide +kernel
theorem dX5_tryPlaces_135 : decode cX5_tryPlaces 135 = .ok (.iinc 5 1, 3) := by decide +kernel
theorem dX5_tryPlaces_138 : decode cX5_tryPlaces 138 = .ok (.goto (-80), 3) := by decide +kernel
theorem dX5_tryPlaces_141 : decode cX5_tryPlaces 141 = .ok (.return_, 1) := by decide +kernel
theorem dX5_isBetter_0 : decode cX5_isBetter 0 = .ok (.iload_n 1, 1) := by decide +kernel
theorem dX5_isBetter_1 : decode cX5_isBetter 1 = .ok (.aload_n 0, 1) := by decide +kernel
theorem dX5_isBetter_2 : decode cX5_isBetter 2 = .ok (.getfield 18, 3) := by decide +kernel
theorem dX5_isBetter_5 : decode cX5_isBetter 5 = .ok (.if_icmp .lt 19, 3) := by decide +kernel
theorem dX5_isBetter_8 : decode cX5_isBetter 8 = .ok (.iload_n 1, 1) := by decide +kernel
theorem dX5_isBetter_9 : decode cX5_isBetter 9 = .ok (.aload_n 0, 1) := by decide +kernel
theorem dX5_isBetter_10 : decode cX5_isBetter 10 = .ok (.getfield 18, 3) := by decide +kernel
theorem dX5_isBetter_13 : decode cX5_isBetter 13 = .ok (.if_icmp .ne 15, 3) := by decide +kernel
theorem dX5_isBetter_16 : decode cX5_isBetter 16 = .ok (.iload_n 2, 1) := by decide +kernel
theorem dX5_isBetter_17 : decode cX5_isBetter 17 = .ok (.aload_n 0, 1) := by decide +kernel
theorem dX5_isBetter_18 : decode cX5_isBetter 18 = .ok (.getfield 22, 3) := by decide +kernel
theorem dX5_isBetter_21 : decode cX5_isBetter 21 = .ok (.if_icmp .ge 7, 3) := by decide +kernel
theorem dX5_isBetter_24 : decode cX5_isBetter 24 = .ok (.iconst 1, 1) := by decide +kernel
theorem dX5_isBetter_25 : decode cX5_isBetter 25 = .ok (.goto 4, 3) := by decide +kernel
theorem dX5_isBetter_28 : decode cX5_isBetter 28 = .ok (.iconst 0, 1) := by decide +kernel
theorem dX5_isBetter_29 : decode cX5_isBetter 29 = .ok (.ireturn, 1) := by decide +kernel
end
section
theorem dX6_init_0 : decode cX6_init 0 = .ok (.aload_n 0, 1) := by decide +kernel
theorem dX6_init_1 : decode cX6_init 1 = .ok (.invokespecial 3, 3) := by decide +kernel
theorem dX6_init_4 : decode cX6_init 4 = .ok (.aload_n 0, 1) := by decide +kernel
theorem dX6_init_5 : decode cX6_init 5 = .ok (.new 9, 3) := by decide +kernel
theorem dX6_init_8 : decode cX6_init 8 = .ok (.dup, 1) := by decide +kernel
theorem dX6_init_9 : decode cX6_init 9 = .ok (.invokespecial 11, 3) := by decide +kernel
theorem dX6_init_12 : decode cX6_init 12 = .ok (.putfield 12, 3) := by decide +kernel
theorem dX6_init_15 : decode cX6_init 15 = .ok (.aload_n 0, 1) := by decide +kernel
theorem dX6_init_16 : decode cX6_init 16 = .ok (.new 9, 3) := by decide +kernel
theorem dX6_init_19 : decode cX6_init 19 = .ok (.dup, 1) := by decide +kernel
theorem dX6_init_20 : decode cX6_init 20 = .ok (.invokespecial 11, 3) := by decide +kernel
theorem dX6_init_23 : decode cX6_init 23 = .ok (.putfield 16, 3) := by decide +kernel
theorem dX6_init_26 : decode cX6_init 26 = .ok (.aload_n 0, 1) := by decide +kernel
theorem dX6_init_27 : decode cX6_init 27 = .ok (.iconst 0, 1) := by decide +kernel
theorem dX6_init_28 : decode cX6_init 28 = .ok (.putfield 19, 3) := by decide +kernel
theorem dX6_init_31 : decode cX6_init 31 = .ok (.aload_n 0, 1) := by decide +kernel
theorem dX6_init_32 : decode cX6_init 32 = .ok (.bipush 6, 2) := by decide +kernel
theorem dX6_init_34 : decode cX6_init 34 = .ok (.anewarray 23, 3) := by decide +kernel
theorem dX6_init_37 : decode cX6_init 37 = .ok (.putfield 25, 3) := by decide +kernel
theorem dX6_init_40 : decode cX6_init 40 = .ok (.aload_n 0, 1) := by decide +kernel
theorem dX6_init_41 : decode cX6_init 41 = .ok (.new 29, 3) := by decide +kernel
theorem dX6_init_44 : decode cX6_init 44 = .ok (.dup, 1) := by decide +kernel
theorem dX6_init_45 : decode cX6_init 45 = .ok (.aload_n 0, 1) := by decide +kernel
theorem dX6_init_46 : decode cX6_init 46 = .ok (.getfield 12, 3) := by decide +kernel
theorem dX6_init_49 : decode cX6_init 49 = .ok (.invokespecial 31, 3) := by decide +kernel
theorem dX6_init_52 : decode cX6_init 52 = .ok (.putfield 34, 3) := by decide +kernel
theorem dX6_init_55 : decode cX6_init 55 = .ok (.aload_n 0, 1) := by decide +kernel
theorem dX6_init_56 : decode cX6_init 56 = .ok (.new 38, 3) := by decide +kernel
theorem dX6_init_59 : decode cX6_init 59 = .ok (.dup, 1) := by decide +kernel
theorem dX6_init_60 : decode cX6_init 60 = .ok (.invokespecial 40, 3) := by decide +kernel
theorem dX6_init_63 : decode cX6_init 63 = .ok (.putfield 41, 3) := by decide +kernel
theorem dX6_init_66 : decode cX6_init 66 = .ok (.iconst 0, 1) := by decide +kernel
theorem dX6_init_67 : decode cX6_init 67 = .ok (.istore_n 1, 1) := by decide +kernel
theorem dX6_init_68 : decode cX6_init 68 = .ok (.iload_n 1, 1) := by decide +kernel
theorem dX6_init_69 : decode cX6_init 69 = .ok (.aload_n 0, 1) := by decide +kernel
theorem dX6_init_70 : decode cX6_init 70 = .ok (.getfield 25, 3) := by decide +kernel
theorem dX6_init_73 : decode cX6_init 73 = .ok (.arraylength, 1) := by decide +kernel
theorem dX6_init_74 : decode cX6_init 74 = .ok (.if_icmp .ge 22, 3) := by decide +kernel
theorem dX6_init_77 : decode cX6_init 77 = .ok (.aload_n 0, 1) := by decide +kernel
theorem dX6_init_78 : decode cX6_init 78 = .ok (.getfield 25, 3) := by decide +kernel
theorem dX6_init_81 : decode cX6_init 81 = .ok (.iload_n 1, 1) := by decide +kernel
theorem dX6_init_82 : decode cX6_init 82 = .ok (.new 23, 3) := by decide +kernel
theorem dX6_init_85 : decode cX6_init 85 = .ok (.dup, 1) := by decide +kernel
theorem dX6_init_86 : decode cX6_init 86 = .ok (.invokespecial 45, 3) := by decide +kernel
theorem dX6_init_89 : decode cX6_init 89 = .ok (.aastore, 1) := by decide +kernel
theorem dX6_init_90 : decode cX6_init 90 = .ok (.iinc 1 1, 3) := by decide +kernel
theorem dX6_init_93 : decode cX6_init 93 = .ok (.goto (-25), 3) := by decide +kernel
theorem dX6_init_96 : decode cX6_init 96 = .ok (.aload_n 0, 1) := by decide +kernel
theorem dX6_init_97 : decode cX6_init 97 = .ok (.new 46, 3) := by decide +kernel
theorem dX6_init_100 : decode cX6_init 100 = .ok (.dup, 1) := by decide +kernel
theorem dX6_init_101 : decode cX6_init 101 = .ok (.aload_n 0, 1) := by decide +kernel
theorem dX6_init_102 : decode cX6_init 102 = .ok (.getfield 12, 3) := by decide +kernel
theorem dX6_init_105 : decode cX6_init 105 = .ok (.aload_n 0, 1) := by decide +kernel
theorem dX6_init_106 : decode cX6_init 106 = .ok (.getfield 25, 3) := by decide +kernel
theorem dX6_init_109 : decode cX6_init 109 = .ok (.iconst 0, 1) := by decide +kernel
theorem dX6_init_110 : decode cX6_init 110 = .ok (.aaload, 1) := by decide +kernel
theorem dX6_init_111 : decode cX6_init 111 = .ok (.invokespecial 48, 3) := by decide +kernel
theorem dX6_init_114 : decode cX6_init 114 = .ok (.putfield 51, 3) := by decide +kernel
theorem dX6_init_117 : decode cX6_init 117 = .ok (.aload_n 0, 1) := by decide +kernel
theorem dX6_init_118 : decode cX6_init 118 = .ok (.new 55, 3) := by decide +kernel
theorem dX6_init_121 : decode cX6_init 121 = .ok (.dup, 1) := by decide +kernel
theorem dX6_init_122 : decode cX6_init 122 = .ok (.aload_n 0, 1) := by decide +kernel
theorem dX6_init_123 : decode cX6_init 123 = .ok (.getfield 12, 3) := by decide +kernel
theorem dX6_init_126 : decode cX6_init 126 = .ok (.aload_n 0, 1) := by decide +kernel
theorem dX6_init_127 : decode cX6_init 127 = .ok (.getfield 25, 3) := by decide +kernel
theorem dX6_init_130 : decode cX6_init 130 = .ok (.iconst 0, 1) := by decide +kernel
theorem dX6_init_131 : decode cX6_init 131 = .ok (.aaload, 1) := by decide +kernel
theorem dX6_init_132 : decode cX6_init 132 = .ok (.invokespecial 57, 3) := by decide +kernel
theorem dX6_init_135 : decode cX6_init 135 = .ok (.putfield 58, 3) := by decide +kernel
theorem dX6_init_138 : decode cX6_init 138 = .ok (.return_, 1) := by decide +kernel
theorem dX6_feed_0 : decode cX6_feed 0 = .ok (.iload_n 3, 1) := by decide +kernel
theorem dX6_feed_1 : decode cX6_feed 1 = .ok (.iconst 1, 1) := by decide +kernel
theorem dX6_feed_2 : decode cX6_feed 2 = .ok (.if_icmp .lt 9, 3) := by decide +kernel
theorem dX6_feed_5 : decode cX6_feed 5 = .ok (.iload_n 3, 1) := by decide +kernel
theorem dX6_feed_6 : decode cX6_feed 6 = .ok (.bipush 8, 2) := by decide +kernel
theorem dX6_feed_8 : decode cX6_feed 8 = .ok (.if_icmp .le 6, 3) := by decide +kernel
theorem dX6_feed_11 : decode cX6_feed 11 = .ok (.bipush (-2), 2) := by decide +kernel
theorem dX6_feed_13 : decode cX6_feed 13 = .ok (.ireturn, 1) := by decide +kernel
theorem dX6_feed_14 : decode cX6_feed 14 = .ok (.aload_n 0, 1) := by decide +kernel
theorem dX6_feed_15 : decode cX6_feed 15 = .ok (.getfield 12, 3) := by decide +kernel
theorem dX6_feed_18 : decode cX6_feed 18 = .ok (.getfield 62, 3) := by decide +kernel
theorem dX6_feed_21 : decode cX6_feed 21 = .ok (.iload_n 3, 1) := by decide +kernel
theorem dX6_feed_22 : decode cX6_feed 22 = .ok (.iadd, 1) := by decide +kernel
theorem dX6_feed_23 : decode cX6_feed 23 = .ok (.bipush 120, 2) := by decide +kernel
theorem dX6_feed_25 : decode cX6_feed 25 = .ok (.if_icmp .le 6, 3) := by decide +kernel
theorem dX6_feed_28 : decode cX6_feed 28 = .ok (.bipush (-4), 2) := by decide +kernel
theorem dX6_feed_30 : decode cX6_feed 30 = .ok (.ireturn, 1) := by decide +kernel
theorem dX6_feed_31 : decode cX6_feed 31 = .ok (.iload_n 3, 1) := by decide +kernel
theorem dX6_feed_32 : decode cX6_feed 32 = .ok (.iconst 1, 1) := by decide +kernel
theorem dX6_feed_33 : decode cX6_feed 33 = .ok (.isub, 1) := by decide +kernel
theorem dX6_feed_34 : decode cX6_feed 34 = .ok (.istore 4, 2) := by decide +kernel
theorem dX6_feed_36 : decode cX6_feed 36 = .ok (.iload 4, 2) := by decide +kernel
theorem dX6_feed_38 : decode cX6_feed 38 = .ok (.ifCond .lt 46, 3) := by decide +kernel
theorem dX6_feed_41 : decode cX6_feed 41 = .ok (.aload_n 0, 1) := by decide +kernel
theorem dX6_feed_42 : decode cX6_feed 42 = .ok (.getfield 12, 3) := by decide +kernel
theorem dX6_feed_45 : decode cX6_feed 45 = .ok (.getfield 66, 3) := by decide +kernel
theorem dX6_feed_48 : decode cX6_feed 48 = .ok (.aload_n 0, 1) := by decide +kernel
theorem dX6_feed_49 : decode cX6_feed 49 = .ok (.getfield 12, 3) := by decide +kernel
theorem dX6_feed_52 : decode cX6_feed 52 = .ok (.getfield 62, 3) := by decide +kernel
theorem dX6_feed_55 : decode cX6_feed 55 = .ok (.lload_n 1, 1) := by decide +kernel
theorem dX6_feed_56 : decode cX6_feed 56 = .ok (.bipush 8, 2) := by decide +kernel
theorem dX6_feed_58 : decode cX6_feed 58 = .ok (.iload 4, 2) := by decide +kernel
theorem dX6_feed_60 : decode cX6_feed 60 = .ok (.imul, 1) := by decide +kernel
theorem dX6_feed_61 : decode cX6_feed 61 = .ok (.lushr, 1) := by decide +kernel
theorem dX6_feed_62 : decode cX6_feed 62 = .ok (.l2i, 1) := by decide +kernel
theorem dX6_feed_63 : decode cX6_feed 63 = .ok (.i2b, 1) := by decide +kernel
theorem dX6_feed_64 : decode cX6_feed 64 = .ok (.bastore, 1) := by decide +kernel
theorem dX6_feed_65 : decode cX6_feed 65 = .ok (.aload_n 0, 1) := by decide +kernel
theorem dX6_feed_66 : decode cX6_feed 66 = .ok (.getfield 12, 3) := by decide +kernel
theorem dX6_feed_69 : decode cX6_feed 69 = .ok (.dup, 1) := by decide +kernel
theorem dX6_feed_70 : decode cX6_feed 70 = .ok (.getfield 62, 3) := by decide +kernel
theorem dX6_feed_73 : decode cX6_feed 73 = .ok (.iconst 1, 1) := by decide +kernel
theorem dX6_feed_74 : decode cX6_feed 74 = .ok (.iadd, 1) := by decide +kernel
theorem dX6_feed_75 : decode cX6_feed 75 = .ok (.putfield 62, 3) := by decide +kernel
theorem dX6_feed_78 : decode cX6_feed 78 = .ok (.iinc 4 (-1), 3) := by decide +kernel
theorem dX6_feed_81 : decode cX6_feed 81 = .ok (.goto (-45), 3) := by decide +kernel
theorem dX6_feed_84 : decode cX6_feed 84 = .ok (.aload_n 0, 1) := by decide +kernel
theorem dX6_feed_85 : decode cX6_feed 85 = .ok (.getfield 12, 3) := by decide +kernel
theorem dX6_feed_88 : decode cX6_feed 88 = .ok (.getfield 62, 3) := by decide +kernel
theorem dX6_feed_91 : decode cX6_feed 91 = .ok (.ireturn, 1) := by decide +kernel
theorem dX6_show_0 : decode cX6_show 0 = .ok (.aload_n 0, 1) := by decide +kernel
theorem dX6_show_1 : decode cX6_show 1 = .ok (.getfield 12, 3) := by decide +kernel
theorem dX6_show_4 : decode cX6_show 4 = .ok (.getfield 70, 3) := by decide +kernel
theorem dX6_show_7 : decode cX6_show 7 = .ok (.iconst 5, 1) := by decide +kernel
theorem dX6_show_8 : decode cX6_show 8 = .ok (.if_icmp .lt 6, 3) := by decide +kernel
theorem dX6_show_11 : decode cX6_show 11 = .ok (.bipush (-4), 2) := by decide +kernel
theorem dX6_show_13 : decode cX6_show 13 = .ok (.ireturn, 1) := by decide +kernel
theorem dX6_show_14 : decode cX6_show 14 = .ok (.aload_n 0, 1) := by decide +kernel
theorem dX6_show_15 : decode cX6_show 15 = .ok (.getfield 51, 3) := by decide +kernel
theorem dX6_show_18 : decode cX6_show 18 = .ok (.aload_n 0, 1) := by decide +kernel
theorem dX6_show_19 : decode cX6_show 19 = .ok (.getfield 25, 3) := by decide +kernel
theorem dX6_show_22 : decode cX6_show 22 = .ok (.aload_n 0, 1) := by decide +kernel
theorem dX6_show_23 : decode cX6_show 23 = .ok (.getfield 12, 3) := by decide +kernel
theorem dX6_show_26 : decode cX6_show 26 = .ok (.getfield 70, 3) := by decide +kernel
theorem dX6_show_29 : decode cX6_show 29 = .ok (.iconst 1, 1) := by decide +kernel
theorem dX6_show_30 : decode cX6_show 30 = .ok (.iadd, 1) := by decide +kernel
theorem dX6_show_31 : decode cX6_show 31 = .ok (.aaload, 1) := by decide +kernel
theorem dX6_show_32 : decode cX6_show 32 = .ok (.invokevirtual 72, 3) := by decide +kernel
theorem dX6_show_35 : decode cX6_show 35 = .ok (.istore_n 1, 1) := by decide +kernel
theorem dX6_show_36 : decode cX6_show 36 = .ok (.aload_n 0, 1) := by decide +kernel
theorem dX6_show_37 : decode cX6_show 37 = .ok (.getfield 12, 3) := by decide +kernel
theorem dX6_show_40 : decode cX6_show 40 = .ok (.iconst 0, 1) := by decide +kernel
theorem dX6_show_41 : decode cX6_show 41 = .ok (.putfield 62, 3) := by decide +kernel
theorem dX6_show_44 : decode cX6_show 44 = .ok (.iload_n 1, 1) := by decide +kernel
theorem dX6_show_45 : decode cX6_show 45 = .ok (.iconst (-1), 1) := by decide +kernel
theorem dX6_show_46 : decode cX6_show 46 = .ok (.if_icmp .eq 8, 3) := by decide +kernel
theorem dX6_show_49 : decode cX6_show 49 = .ok (.bipush (-10), 2) := by decide +kernel
theorem dX6_show_51 : decode cX6_show 51 = .ok (.iload_n 1, 1) := by decide +kernel
theorem dX6_show_52 : decode cX6_show 52 = .ok (.isub, 1) := by decide +kernel
theorem dX6_show_53 : decode cX6_show 53 = .ok (.ireturn, 1) := by decide +kernel
theorem dX6_show_54 : decode cX6_show 54 = .ok (.aload_n 0, 1) := by decide +kernel
theorem dX6_show_55 : decode cX6_show 55 = .ok (.getfield 12, 3) := by decide +kernel
theorem dX6_show_58 : decode cX6_show 58 = .ok (.dup, 1) := by decide +kernel
theorem dX6_show_59 : decode cX6_show 59 = .ok (.getfield 70, 3) := by decide +kernel
theorem dX6_show_62 : decode cX6_show 62 = .ok (.iconst 1, 1) := by decide +kernel
theorem dX6_show_63 : decode cX6_show 63 = .ok (.iadd, 1) := by decide +kernel
theorem dX6_show_64 : decode cX6_show 64 = .ok (.putfield 70, 3) := by decide +kernel
theorem dX6_show_67 : decode cX6_show 67 = .ok (.aload_n 0, 1) := by decide +kernel
theorem dX6_show_68 : decode cX6_show 68 = .ok (.getfield 12, 3) := by decide +kernel
theorem dX6_show_71 : decode cX6_show 71 = .ok (.getfield 70, 3) := by decide +kernel
theorem dX6_show_74 : decode cX6_show 74 = .ok (.iconst 1, 1) := by decide +kernel
theorem dX6_show_75 : decode cX6_show 75 = .ok (.isub, 1) := by decide +kernel
theorem dX6_show_76 : decode cX6_show 76 = .ok (.ireturn, 1) := by decide +kernel
theorem dX6_told_0 : decode cX6_told 0 = .ok (.iload_n 1, 1) := by decide +kernel
theorem dX6_told_1 : decode cX6_told 1 = .ok (.tableswitch 51 0 2 #[27, 35, 43], 27) := by decide +kernel
theorem dX6_told_28 : decode cX6_told 28 = .ok (.aload_n 0, 1) := by decide +kernel
theorem dX6_told_29 : decode cX6_told 29 = .ok (.invokevirtual 76, 3) := by decide +kernel
theorem dX6_told_32 : decode cX6_told 32 = .ok (.getfield 80, 3) := by decide +kernel
theorem dX6_told_35 : decode cX6_told 35 = .ok (.ireturn, 1) := by decide +kernel
theorem dX6_told_36 : decode cX6_told 36 = .ok (.aload_n 0, 1) := by decide +kernel
theorem dX6_told_37 : decode cX6_told 37 = .ok (.invokevirtual 76, 3) := by decide +kernel
theorem dX6_told_40 : decode cX6_told 40 = .ok (.getfield 83, 3) := by decide +kernel
theorem dX6_told_43 : decode cX6_told 43 = .ok (.ireturn, 1) := by decide +kernel
theorem dX6_told_44 : decode cX6_told 44 = .ok (.aload_n 0, 1) := by decide +kernel
theorem dX6_told_45 : decode cX6_told 45 = .ok (.invokevirtual 76, 3) := by decide +kernel
theorem dX6_told_48 : decode cX6_told 48 = .ok (.getfield 86, 3) := by decide +kernel
theorem dX6_told_51 : decode cX6_told 51 = .ok (.ireturn, 1) := by decide +kernel
theorem dX6_told_52 : decode cX6_told 52 = .ok (.iconst (-1), 1) := by decide +kernel
theorem dX6_told_53 : decode cX6_told 53 = .ok (.ireturn, 1) := by decide +kernel
theorem dX6_player_0 : decode cX6_player 0 = .ok (.iload_n 1, 1) := by decide +kernel
theorem dX6_player_1 : decode cX6_player 1 = .ok (.bipush 7, 2) := by decide +kernel
theorem dX6_player_3 : decode cX6_player 3 = .ok (.invokestatic 89, 3) := by decide +kernel
theorem dX6_player_6 : decode cX6_player 6 = .ok (.ifCond .eq 12, 3) := by decide +kernel
theorem dX6_player_9 : decode cX6_player 9 = .ok (.iload_n 3, 1) := by decide +kernel
theorem dX6_player_10 : decode cX6_player 10 = .ok (.bipush 64, 2) := by decide +kernel
theorem dX6_player_12 : decode cX6_player 12 = .ok (.invokestatic 89, 3) := by decide +kernel
theorem dX6_player_15 : decode cX6_player 15 = .ok (.ifCond .ne 5, 3) := by decide +kernel
theorem dX6_player_18 : decode cX6_player 18 = .ok (.iconst (-1), 1) := by decide +kernel
theorem dX6_player_19 : decode cX6_player 19 = .ok (.ireturn, 1) := by decide +kernel
theorem dX6_player_20 : decode cX6_player 20 = .ok (.iload_n 2, 1) := by decide +kernel
theorem dX6_player_21 : decode cX6_player 21 = .ok (.bipush 10, 2) := by decide +kernel
theorem dX6_player_23 : decode cX6_player 23 = .ok (.invokestatic 89, 3) := by decide +kernel
theorem dX6_player_26 : decode cX6_player 26 = .ok (.ifCond .ne 6, 3) := by decide +kernel
theorem dX6_player_29 : decode cX6_player 29 = .ok (.bipush (-2), 2) := by decide +kernel
theorem dX6_player_31 : decode cX6_player 31 = .ok (.ireturn, 1) := by decide +kernel
theorem dX6_player_32 : decode cX6_player 32 = .ok (.aload_n 0, 1) := by decide +kernel
theorem dX6_player_33 : decode cX6_player 33 = .ok (.getfield 12, 3) := by decide +kernel
theorem dX6_player_36 : decode cX6_player 36 = .ok (.iload_n 3, 1) := by decide +kernel
theorem dX6_player_37 : decode cX6_player 37 = .ok (.invokevirtual 93, 3) := by decide +kernel
theorem dX6_player_40 : decode cX6_player 40 = .ok (.iconst (-1), 1) := by decide +kernel
theorem dX6_player_41 : decode cX6_player 41 = .ok (.if_icmp .eq 6, 3) := by decide +kernel
theorem dX6_player_44 : decode cX6_player 44 = .ok (.bipush (-3), 2) := by decide +kernel
theorem dX6_player_46 : decode cX6_player 46 = .ok (.ireturn, 1) := by decide +kernel
theorem dX6_player_47 : decode cX6_player 47 = .ok (.aload_n 0, 1) := by decide +kernel
theorem dX6_player_48 : decode cX6_player 48 = .ok (.getfield 12, 3) := by decide +kernel
theorem dX6_player_51 : decode cX6_player 51 = .ok (.getfield 97, 3) := by decide +kernel
theorem dX6_player_54 : decode cX6_player 54 = .ok (.bipush 10, 2) := by decide +kernel
theorem dX6_player_56 : decode cX6_player 56 = .ok (.if_icmp .lt 6, 3) := by decide +kernel
theorem dX6_player_59 : decode cX6_player 59 = .ok (.bipush (-4), 2) := by decide +kernel
theorem dX6_player_61 : decode cX6_player 61 = .ok (.ireturn, 1) := by decide +kernel
theorem dX6_player_62 : decode cX6_player 62 = .ok (.aload_n 0, 1) := by decide +kernel
theorem dX6_player_63 : decode cX6_player 63 = .ok (.getfield 12, 3) := by decide +kernel
theorem dX6_player_66 : decode cX6_player 66 = .ok (.getfield 100, 3) := by decide +kernel
theorem dX6_player_69 : decode cX6_player 69 = .ok (.aload_n 0, 1) := by decide +kernel
theorem dX6_player_70 : decode cX6_player 70 = .ok (.getfield 12, 3) := by decide +kernel
theorem dX6_player_73 : decode cX6_player 73 = .ok (.getfield 97, 3) := by decide +kernel
theorem dX6_player_76 : decode cX6_player 76 = .ok (.iload_n 1, 1) := by decide +kernel
theorem dX6_player_77 : decode cX6_player 77 = .ok (.iastore, 1) := by decide +kernel
theorem dX6_player_78 : decode cX6_player 78 = .ok (.aload_n 0, 1) := by decide +kernel
theorem dX6_player_79 : decode cX6_player 79 = .ok (.getfield 12, 3) := by decide +kernel
theorem dX6_player_82 : decode cX6_player 82 = .ok (.getfield 104, 3) := by decide +kernel
theorem dX6_player_85 : decode cX6_player 85 = .ok (.aload_n 0, 1) := by decide +kernel
theorem dX6_player_86 : decode cX6_player 86 = .ok (.getfield 12, 3) := by decide +kernel
theorem dX6_player_89 : decode cX6_player 89 = .ok (.getfield 97, 3) := by decide +kernel
theorem dX6_player_92 : decode cX6_player 92 = .ok (.iload_n 2, 1) := by decide +kernel
theorem dX6_player_93 : decode cX6_player 93 = .ok (.iastore, 1) := by decide +kernel
theorem dX6_player_94 : decode cX6_player 94 = .ok (.aload_n 0, 1) := by decide +kernel
theorem dX6_player_95 : decode cX6_player 95 = .ok (.getfield 12, 3) := by decide +kernel
theorem dX6_player_98 : decode cX6_player 98 = .ok (.getfield 107, 3) := by decide +kernel
theorem dX6_player_101 : decode cX6_player 101 = .ok (.aload_n 0, 1) := by decide +kernel
theorem dX6_player_102 : decode cX6_player 102 = .ok (.getfield 12, 3) := by decide +kernel
theorem dX6_player_105 : decode cX6_player 105 = .ok (.getfield 97, 3) := by decide +kernel
theorem dX6_player_108 : decode cX6_player 108 = .ok (.iload_n 3, 1) := by decide +kernel
theorem dX6_player_109 : decode cX6_player 109 = .ok (.iastore, 1) := by decide +kernel
theorem dX6_player_110 : decode cX6_player 110 = .ok (.aload_n 0, 1) := by decide +kernel
theorem dX6_player_111 : decode cX6_player 111 = .ok (.getfield 12, 3) := by decide +kernel
theorem dX6_player_114 : decode cX6_player 114 = .ok (.dup, 1) := by decide +kernel
theorem dX6_player_115 : decode cX6_player 115 = .ok (.getfield 97, 3) := by decide +kernel
theorem dX6_player_118 : decode cX6_player 118 = .ok (.iconst 1, 1) := by decide +kernel
theorem dX6_player_119 : decode cX6_player 119 = .ok (.iadd, 1) := by decide +kernel
theorem dX6_player_120 : decode cX6_player 120 = .ok (.putfield 97, 3) := by decide +kernel
theorem dX6_player_123 : decode cX6_player 123 = .ok (.aload_n 0, 1) := by decide +kernel
theorem dX6_player_124 : decode cX6_player 124 = .ok (.getfield 12, 3) := by decide +kernel
theorem dX6_player_127 : decode cX6_player 127 = .ok (.getfield 97, 3) := by decide +kernel
theorem dX6_player_130 : decode cX6_player 130 = .ok (.iconst 1, 1) := by decide +kernel
theorem dX6_player_131 : decode cX6_player 131 = .ok (.isub, 1) := by decide +kernel
theorem dX6_player_132 : decode cX6_player 132 = .ok (.ireturn, 1) := by decide +kernel
theorem dX6_of_0 : decode cX6_of 0 = .ok (.aload_n 0, 1) := by decide +kernel
theorem dX6_of_1 : decode cX6_of 1 = .ok (.iload_n 1, 1) := by decide +kernel
theorem dX6_of_2 : decode cX6_of 2 = .ok (.invokevirtual 110, 3) := by decide +kernel
theorem dX6_of_5 : decode cX6_of 5 = .ok (.ifCond .ne 7, 3) := by decide +kernel
theorem dX6_of_8 : decode cX6_of 8 = .ok (.sipush (-1001), 3) := by decide +kernel
theorem dX6_of_11 : decode cX6_of 11 = .ok (.ireturn, 1) := by decide +kernel
theorem dX6_of_12 : decode cX6_of 12 = .ok (.iload_n 2, 1) := by decide +kernel
theorem dX6_of_13 : decode cX6_of 13 = .ok (.tableswitch 98 0 5 #[39, 49, 59, 69, 78, 88], 39) := by decide +kernel
theorem dX6_of_52 : decode cX6_of 52 = .ok (.aload_n 0, 1) := by decide +kernel
theorem dX6_of_53 : decode cX6_of 53 = .ok (.getfield 12, 3) := by decide +kernel
theorem dX6_of_56 : decode cX6_of 56 = .ok (.getfield 100, 3) := by decide +kernel
theorem dX6_of_59 : decode cX6_of 59 = .ok (.iload_n 1, 1) := by decide +kernel
theorem dX6_of_60 : decode cX6_of 60 = .ok (.iaload, 1) := by decide +kernel
theorem dX6_of_61 : decode cX6_of 61 = .ok (.ireturn, 1) := by decide +kernel
theorem dX6_of_62 : decode cX6_of 62 = .ok (.aload_n 0, 1) := by decide +kernel
theorem dX6_of_63 : decode cX6_of 63 = .ok (.getfield 12, 3) := by decide +kernel
theorem dX6_of_66 : decode cX6_of 66 = .ok (.getfield 104, 3) := by decide +kernel
theorem dX6_of_69 : decode cX6_of 69 = .ok (.iload_n 1, 1) := by decide +kernel
theorem dX6_of_70 : decode cX6_of 70 = .ok (.iaload, 1) := by decide +kernel
theorem dX6_of_71 : decode cX6_of 71 = .ok (.ireturn, 1) := by decide +kernel
theorem dX6_of_72 : decode cX6_of 72 = .ok (.aload_n 0, 1) := by decide +kernel
theorem dX6_of_73 : decode cX6_of 73 = .ok (.getfield 12, 3) := by decide +kernel
theorem dX6_of_76 : decode cX6_of 76 = .ok (.getfield 107, 3) := by decide +kernel
theorem dX6_of_79 : decode cX6_of 79 = .ok (.iload_n 1, 1) := by decide +kernel
theorem dX6_of_80 : decode cX6_of 80 = .ok (.iaload, 1) := by decide +kernel
theorem dX6_of_81 : decode cX6_of 81 = .ok (.ireturn, 1) := by decide +kernel
theorem dX6_of_82 : decode cX6_of 82 = .ok (.aload_n 0, 1) := by decide +kernel
theorem dX6_of_83 : decode cX6_of 83 = .ok (.invokevirtual 114, 3) := by decide +kernel
theorem dX6_of_86 : decode cX6_of 86 = .ok (.iload_n 1, 1) := by decide +kernel
theorem dX6_of_87 : decode cX6_of 87 = .ok (.invokevirtual 118, 3) := by decide +kernel
theorem dX6_of_90 : decode cX6_of 90 = .ok (.ireturn, 1) := by decide +kernel
theorem dX6_of_91 : decode cX6_of 91 = .ok (.aload_n 0, 1) := by decide +kernel
theorem dX6_of_92 : decode cX6_of 92 = .ok (.invokevirtual 114, 3) := by decide +kernel
theorem dX6_of_95 : decode cX6_of 95 = .ok (.getfield 121, 3) := by decide +kernel
theorem dX6_of_98 : decode cX6_of 98 = .ok (.iload_n 1, 1) := by decide +kernel
theorem dX6_of_99 : decode cX6_of 99 = .ok (.iaload, 1) := by decide +kernel
theorem dX6_of_100 : decode cX6_of 100 = .ok (.ireturn, 1) := by decide +kernel
theorem dX6_of_101 : decode cX6_of 101 = .ok (.aload_n 0, 1) := by decide +kernel
theorem dX6_of_102 : decode cX6_of 102 = .ok (.invokevirtual 114, 3) := by decide +kernel
theorem dX6_of_105 : decode cX6_of 105 = .ok (.getfield 124, 3) := by decide +kernel
theorem dX6_of_108 : decode cX6_of 108 = .ok (.iload_n 1, 1) := by decide +kernel
theorem dX6_of_109 : decode cX6_of 109 = .ok (.iaload, 1) := by decide +kernel
theorem dX6_of_110 : decode cX6_of 110 = .ok (.ireturn, 1) := by decide +kernel
theorem dX6_of_111 : decode cX6_of 111 = .ok (.sipush (-1001), 3) := by decide +kernel
theorem dX6_of_114 : decode cX6_of 114 = .ok (.ireturn, 1) := by decide +kernel
theorem dX6_drum_0 : decode cX6_drum 0 = .ok (.iload_n 1, 1) := by decide +kernel
theorem dX6_drum_1 : decode cX6_drum 1 = .ok (.bipush 64, 2) := by decide +kernel
theorem dX6_drum_3 : decode cX6_drum 3 = .ok (.invokestatic 89, 3) := by decide +kernel
theorem dX6_drum_6 : decode cX6_drum 6 = .ok (.ifCond .ne 5, 3) := by decide +kernel
theorem dX6_drum_9 : decode cX6_drum 9 = .ok (.iconst (-1), 1) := by decide +kernel
theorem dX6_drum_10 : decode cX6_drum 10 = .ok (.ireturn, 1) := by decide +kernel
theorem dX6_drum_11 : decode cX6_drum 11 = .ok (.aload_n 0, 1) := by decide +kernel
theorem dX6_drum_12 : decode cX6_drum 12 = .ok (.getfield 12, 3) := by decide +kernel
theorem dX6_drum_15 : decode cX6_drum 15 = .ok (.getfield 127, 3) := by decide +kernel
theorem dX6_drum_18 : decode cX6_drum 18 = .ok (.istore_n 2, 1) := by decide +kernel
theorem dX6_drum_19 : decode cX6_drum 19 = .ok (.aload_n 0, 1) := by decide +kernel
theorem dX6_drum_20 : decode cX6_drum 20 = .ok (.getfield 12, 3) := by decide +kernel
theorem dX6_drum_23 : decode cX6_drum 23 = .ok (.iload_n 1, 1) := by decide +kernel
theorem dX6_drum_24 : decode cX6_drum 24 = .ok (.putfield 127, 3) := by decide +kernel
theorem dX6_drum_27 : decode cX6_drum 27 = .ok (.iload_n 2, 1) := by decide +kernel
theorem dX6_drum_28 : decode cX6_drum 28 = .ok (.ireturn, 1) := by decide +kernel
theorem dX6_put_0 : decode cX6_put 0 = .ok (.aload_n 0, 1) := by decide +kernel
theorem dX6_put_1 : decode cX6_put 1 = .ok (.iload_n 1, 1) := by decide +kernel
theorem dX6_put_2 : decode cX6_put 2 = .ok (.invokevirtual 110, 3) := by decide +kernel
theorem dX6_put_5 : decode cX6_put 5 = .ok (.ifCond .eq 12, 3) := by decide +kernel
theorem dX6_put_8 : decode cX6_put 8 = .ok (.iload_n 2, 1) := by decide +kernel
theorem dX6_put_9 : decode cX6_put 9 = .ok (.bipush 64, 2) := by decide +kernel
theorem dX6_put_11 : decode cX6_put 11 = .ok (.invokestatic 89, 3) := by decide +kernel
theorem dX6_put_14 : decode cX6_put 14 = .ok (.ifCond .ne 5, 3) := by decide +kernel
theorem dX6_put_17 : decode cX6_put 17 = .ok (.iconst (-1), 1) := by decide +kernel
theorem dX6_put_18 : decode cX6_put 18 = .ok (.ireturn, 1) := by decide +kernel
theorem dX6_put_19 : decode cX6_put 19 = .ok (.aload_n 0, 1) := by decide +kernel
theorem dX6_put_20 : decode cX6_put 20 = .ok (.getfield 12, 3) := by decide +kernel
theorem dX6_put_23 : decode cX6_put 23 = .ok (.iload_n 2, 1) := by decide +kernel
theorem dX6_put_24 : decode cX6_put 24 = .ok (.invokevirtual 93, 3) := by decide +kernel
theorem dX6_put_27 : decode cX6_put 27 = .ok (.istore_n 3, 1) := by decide +kernel
theorem dX6_put_28 : decode cX6_put 28 = .ok (.iload_n 3, 1) := by decide +kernel
theorem dX6_put_29 : decode cX6_put 29 = .ok (.iconst (-1), 1) := by decide +kernel
theorem dX6_put_30 : decode cX6_put 30 = .ok (.if_icmp .eq 11, 3) := by decide +kernel
theorem dX6_put_33 : decode cX6_put 33 = .ok (.iload_n 3, 1) := by decide +kernel
theorem dX6_put_34 : decode cX6_put 34 = .ok (.iload_n 1, 1) := by decide +kernel
theorem dX6_put_35 : decode cX6_put 35 = .ok (.if_icmp .eq 6, 3) := by decide +kernel
theorem dX6_put_38 : decode cX6_put 38 = .ok (.bipush (-3), 2) := by decide +kernel
theorem dX6_put_40 : decode cX6_put 40 = .ok (.ireturn, 1) := by decide +kernel
theorem dX6_put_41 : decode cX6_put 41 = .ok (.aload_n 0, 1) := by decide +kernel
theorem dX6_put_42 : decode cX6_put 42 = .ok (.getfield 12, 3) := by decide +kernel
theorem dX6_put_45 : decode cX6_put 45 = .ok (.getfield 107, 3) := by decide +kernel
theorem dX6_put_48 : decode cX6_put 48 = .ok (.iload_n 1, 1) := by decide +kernel
theorem dX6_put_49 : decode cX6_put 49 = .ok (.iaload, 1) := by decide +kernel
theorem dX6_put_50 : decode cX6_put 50 = .ok (.istore 4, 2) := by decide +kernel
theorem dX6_put_52 : decode cX6_put 52 = .ok (.aload_n 0, 1) := by decide +kernel
theorem dX6_put_53 : decode cX6_put 53 = .ok (.getfield 12, 3) := by decide +kernel
theorem dX6_put_56 : decode cX6_put 56 = .ok (.getfield 107, 3) := by decide +kernel
theorem dX6_put_59 : decode cX6_put 59 = .ok (.iload_n 1, 1) := by decide +kernel
theorem dX6_put_60 : decode cX6_put 60 = .ok (.iload_n 2, 1) := by decide +kernel
theorem dX6_put_61 : decode cX6_put 61 = .ok (.iastore, 1) := by decide +kernel
theorem dX6_put_62 : decode cX6_put 62 = .ok (.iload 4, 2) := by decide +kernel
theorem dX6_put_64 : decode cX6_put 64 = .ok (.ireturn, 1) := by decide +kernel
theorem dX6_heard_0 : decode cX6_heard 0 = .ok (.iload_n 1, 1) := by decide +kernel
theorem dX6_heard_1 : decode cX6_heard 1 = .ok (.bipush 8, 2) := by decide +kernel
theorem dX6_heard_3 : decode cX6_heard 3 = .ok (.invokestatic 89, 3) := by decide +kernel
theorem dX6_heard_6 : decode cX6_heard 6 = .ok (.ifCond .eq 11, 3) := by decide +kernel
theorem dX6_heard_9 : decode cX6_heard 9 = .ok (.aload_n 0, 1) := by decide +kernel
theorem dX6_heard_10 : decode cX6_heard 10 = .ok (.iload_n 2, 1) := by decide +kernel
theorem dX6_heard_11 : decode cX6_heard 11 = .ok (.invokevirtual 110, 3) := by decide +kernel
theorem dX6_heard_14 : decode cX6_heard 14 = .ok (.ifCond .ne 7, 3) := by decide +kernel
theorem dX6_heard_17 : decode cX6_heard 17 = .ok (.sipush (-1001), 3) := by decide +kernel
theorem dX6_heard_20 : decode cX6_heard 20 = .ok (.ireturn, 1) := by decide +kernel
theorem dX6_heard_21 : decode cX6_heard 21 = .ok (.aload_n 0, 1) := by decide +kernel
theorem dX6_heard_22 : decode cX6_heard 22 = .ok (.invokevirtual 114, 3) := by decide +kernel
theorem dX6_heard_25 : decode cX6_heard 25 = .ok (.iload_n 1, 1) := by decide +kernel
theorem dX6_heard_26 : decode cX6_heard 26 = .ok (.iload_n 2, 1) := by decide +kernel
theorem dX6_heard_27 : decode cX6_heard 27 = .ok (.invokevirtual 130, 3) := by decide +kernel
theorem dX6_heard_30 : decode cX6_heard 30 = .ok (.ireturn, 1) := by decide +kernel
theorem dX6_spread_0 : decode cX6_spread 0 = .ok (.iload_n 1, 1) := by decide +kernel
theorem dX6_spread_1 : decode cX6_spread 1 = .ok (.bipush 8, 2) := by decide +kernel
theorem dX6_spread_3 : decode cX6_spread 3 = .ok (.invokestatic 89, 3) := by decide +kernel
theorem dX6_spread_6 : decode cX6_spread 6 = .ok (.ifCond .eq 12, 3) := by decide +kernel
theorem dX6_spread_9 : decode cX6_spread 9 = .ok (.iload_n 2, 1) := by decide +kernel
theorem dX6_spread_10 : decode cX6_spread 10 = .ok (.bipush 51, 2) := by decide +kernel
theorem dX6_spread_12 : decode cX6_spread 12 = .ok (.invokestatic 89, 3) := by decide +kernel
theorem dX6_spread_15 : decode cX6_spread 15 = .ok (.ifCond .ne 5, 3) := by decide +kernel
theorem dX6_spread_18 : decode cX6_spread 18 = .ok (.iconst (-1), 1) := by decide +kernel
theorem dX6_spread_19 : decode cX6_spread 19 = .ok (.ireturn, 1) := by decide +kernel
theorem dX6_spread_20 : decode cX6_spread 20 = .ok (.iload_n 2, 1) := by decide +kernel
theorem dX6_spread_21 : decode cX6_spread 21 = .ok (.ifCond .ne 14, 3) := by decide +kernel
theorem dX6_spread_24 : decode cX6_spread 24 = .ok (.aload_n 0, 1) := by decide +kernel
theorem dX6_spread_25 : decode cX6_spread 25 = .ok (.invokevirtual 114, 3) := by decide +kernel
theorem dX6_spread_28 : decode cX6_spread 28 = .ok (.iload_n 1, 1) := by decide +kernel
theorem dX6_spread_29 : decode cX6_spread 29 = .ok (.invokevirtual 134, 3) := by decide +kernel
theorem dX6_spread_32 : decode cX6_spread 32 = .ok (.goto 14, 3) := by decide +kernel
theorem dX6_spread_35 : decode cX6_spread 35 = .ok (.aload_n 0, 1) := by decide +kernel
theorem dX6_spread_36 : decode cX6_spread 36 = .ok (.invokevirtual 114, 3) := by decide +kernel
theorem dX6_spread_39 : decode cX6_spread 39 = .ok (.iload_n 1, 1) := by decide +kernel
theorem dX6_spread_40 : decode cX6_spread 40 = .ok (.iload_n 2, 1) := by decide +kernel
theorem dX6_spread_41 : decode cX6_spread 41 = .ok (.iconst 1, 1) := by decide +kernel
theorem dX6_spread_42 : decode cX6_spread 42 = .ok (.isub, 1) := by decide +kernel
theorem dX6_spread_43 : decode cX6_spread 43 = .ok (.invokevirtual 137, 3) := by decide +kernel
theorem dX6_spread_46 : decode cX6_spread 46 = .ok (.ireturn, 1) := by decide +kernel
theorem dX6_back_0 : decode cX6_back 0 = .ok (.iload_n 1, 1) := by decide +kernel
theorem dX6_back_1 : decode cX6_back 1 = .ok (.bipush 8, 2) := by decide +kernel
theorem dX6_back_3 : decode cX6_back 3 = .ok (.invokestatic 89, 3) := by decide +kernel
theorem dX6_back_6 : decode cX6_back 6 = .ok (.ifCond .ne 5, 3) := by decide +kernel
theorem dX6_back_9 : decode cX6_back 9 = .ok (.iconst (-1), 1) := by decide +kernel
theorem dX6_back_10 : decode cX6_back 10 = .ok (.ireturn, 1) := by decide +kernel
theorem dX6_back_11 : decode cX6_back 11 = .ok (.iload_n 2, 1) := by decide +kernel
theorem dX6_back_12 : decode cX6_back 12 = .ok (.bipush 100, 2) := by decide +kernel
theorem dX6_back_14 : decode cX6_back 14 = .ok (.invokestatic 89, 3) := by decide +kernel
theorem dX6_back_17 : decode cX6_back 17 = .ok (.ifCond .ne 6, 3) := by decide +kernel
theorem dX6_back_20 : decode cX6_back 20 = .ok (.bipush (-2), 2) := by decide +kernel
theorem dX6_back_22 : decode cX6_back 22 = .ok (.ireturn, 1) := by decide +kernel
theorem dX6_back_23 : decode cX6_back 23 = .ok (.aload_n 0, 1) := by decide +kernel
theorem dX6_back_24 : decode cX6_back 24 = .ok (.invokevirtual 114, 3) := by decide +kernel
theorem dX6_back_27 : decode cX6_back 27 = .ok (.iload_n 1, 1) := by decide +kernel
theorem dX6_back_28 : decode cX6_back 28 = .ok (.iload_n 2, 1) := by decide +kernel
theorem dX6_back_29 : decode cX6_back 29 = .ok (.invokevirtual 140, 3) := by decide +kernel
theorem dX6_back_32 : decode cX6_back 32 = .ok (.ireturn, 1) := by decide +kernel
theorem dX6_best_0 : decode cX6_best 0 = .ok (.iload_n 1, 1) := by decide +kernel
theorem dX6_best_1 : decode cX6_best 1 = .ok (.iconst 2, 1) := by decide +kernel
theorem dX6_best_2 : decode cX6_best 2 = .ok (.invokestatic 89, 3) := by decide +kernel
theorem dX6_best_5 : decode cX6_best 5 = .ok (.ifCond .ne 5, 3) := by decide +kernel
theorem dX6_best_8 : decode cX6_best 8 = .ok (.iconst (-1), 1) := by decide +kernel
theorem dX6_best_9 : decode cX6_best 9 = .ok (.ireturn, 1) := by decide +kernel
theorem dX6_best_10 : decode cX6_best 10 = .ok (.aload_n 0, 1) := by decide +kernel
theorem dX6_best_11 : decode cX6_best 11 = .ok (.invokevirtual 114, 3) := by decide +kernel
theorem dX6_best_14 : decode cX6_best 14 = .ok (.pop, 1) := by decide +kernel
theorem dX6_best_15 : decode cX6_best 15 = .ok (.iconst (-1), 1) := by decide +kernel
theorem dX6_best_16 : decode cX6_best 16 = .ok (.istore_n 2, 1) := by decide +kernel
theorem dX6_best_17 : decode cX6_best 17 = .ok (.iconst 0, 1) := by decide +kernel
theorem dX6_best_18 : decode cX6_best 18 = .ok (.istore_n 3, 1) := by decide +kernel
theorem dX6_best_19 : decode cX6_best 19 = .ok (.iconst 0, 1) := by decide +kernel
theorem dX6_best_20 : decode cX6_best 20 = .ok (.istore 4, 2) := by decide +kernel
theorem dX6_best_22 : decode cX6_best 22 = .ok (.iload 4, 2) := by decide +kernel
theorem dX6_best_24 : decode cX6_best 24 = .ok (.bipush 64, 2) := by decide +kernel
theorem dX6_best_26 : decode cX6_best 26 = .ok (.if_icmp .ge 50, 3) := by decide +kernel
theorem dX6_best_29 : decode cX6_best 29 = .ok (.aload_n 0, 1) := by decide +kernel
theorem dX6_best_30 : decode cX6_best 30 = .ok (.getfield 12, 3) := by decide +kernel
theorem dX6_best_33 : decode cX6_best 33 = .ok (.iload 4, 2) := by decide +kernel
theorem dX6_best_35 : decode cX6_best 35 = .ok (.invokevirtual 93, 3) := by decide +kernel
theorem dX6_best_38 : decode cX6_best 38 = .ok (.iconst (-1), 1) := by decide +kernel
theorem dX6_best_39 : decode cX6_best 39 = .ok (.if_icmp .ne 31, 3) := by decide +kernel
theorem dX6_best_42 : decode cX6_best 42 = .ok (.aload_n 0, 1) := by decide +kernel
theorem dX6_best_43 : decode cX6_best 43 = .ok (.getfield 58, 3) := by decide +kernel
theorem dX6_best_46 : decode cX6_best 46 = .ok (.iload 4, 2) := by decide +kernel
theorem dX6_best_48 : decode cX6_best 48 = .ok (.invokevirtual 143, 3) := by decide +kernel
theorem dX6_best_51 : decode cX6_best 51 = .ok (.istore 5, 2) := by decide +kernel
theorem dX6_best_53 : decode cX6_best 53 = .ok (.iload_n 2, 1) := by decide +kernel
theorem dX6_best_54 : decode cX6_best 54 = .ok (.iconst (-1), 1) := by decide +kernel
theorem dX6_best_55 : decode cX6_best 55 = .ok (.if_icmp .eq 9, 3) := by decide +kernel
theorem dX6_best_58 : decode cX6_best 58 = .ok (.iload 5, 2) := by decide +kernel
theorem dX6_best_60 : decode cX6_best 60 = .ok (.iload_n 3, 1) := by decide +kernel
theorem dX6_best_61 : decode cX6_best 61 = .ok (.if_icmp .ge 9, 3) := by decide +kernel
theorem dX6_best_64 : decode cX6_best 64 = .ok (.iload 4, 2) := by decide +kernel
theorem dX6_best_66 : decode cX6_best 66 = .ok (.istore_n 2, 1) := by decide +kernel
theorem dX6_best_67 : decode cX6_best 67 = .ok (.iload 5, 2) := by decide +kernel
theorem dX6_best_69 : decode cX6_best 69 = .ok (.istore_n 3, 1) := by decide +kernel
theorem dX6_best_70 : decode cX6_best 70 = .ok (.iinc 4 1, 3) := by decide +kernel
theorem dX6_best_73 : decode cX6_best 73 = .ok (.goto (-51), 3) := by decide +kernel
theorem dX6_best_76 : decode cX6_best 76 = .ok (.iload_n 1, 1) := by decide +kernel
theorem dX6_best_77 : decode cX6_best 77 = .ok (.ifCond .ne 7, 3) := by decide +kernel
theorem dX6_best_80 : decode cX6_best 80 = .ok (.iload_n 2, 1) := by decide +kernel
theorem dX6_best_81 : decode cX6_best 81 = .ok (.goto 4, 3) := by decide +kernel
theorem dX6_best_84 : decode cX6_best 84 = .ok (.iload_n 3, 1) := by decide +kernel
theorem dX6_best_85 : decode cX6_best 85 = .ok (.ireturn, 1) := by decide +kernel
theorem dX6_early_0 : decode cX6_early 0 = .ok (.aload_n 0, 1) := by decide +kernel
theorem dX6_early_1 : decode cX6_early 1 = .ok (.iload_n 1, 1) := by decide +kernel
theorem dX6_early_2 : decode cX6_early 2 = .ok (.invokevirtual 110, 3) := by decide +kernel
theorem dX6_early_5 : decode cX6_early 5 = .ok (.ifCond .eq 12, 3) := by decide +kernel
theorem dX6_early_8 : decode cX6_early 8 = .ok (.iload_n 2, 1) := by decide +kernel
theorem dX6_early_9 : decode cX6_early 9 = .ok (.bipush 8, 2) := by decide +kernel
theorem dX6_early_11 : decode cX6_early 11 = .ok (.invokestatic 89, 3) := by decide +kernel
theorem dX6_early_14 : decode cX6_early 14 = .ok (.ifCond .ne 5, 3) := by decide +kernel
theorem dX6_early_17 : decode cX6_early 17 = .ok (.iconst (-1), 1) := by decide +kernel
theorem dX6_early_18 : decode cX6_early 18 = .ok (.ireturn, 1) := by decide +kernel
theorem dX6_early_19 : decode cX6_early 19 = .ok (.aload_n 0, 1) := by decide +kernel
theorem dX6_early_20 : decode cX6_early 20 = .ok (.invokevirtual 114, 3) := by decide +kernel
theorem dX6_early_23 : decode cX6_early 23 = .ok (.pop, 1) := by decide +kernel
theorem dX6_early_24 : decode cX6_early 24 = .ok (.aload_n 0, 1) := by decide +kernel
theorem dX6_early_25 : decode cX6_early 25 = .ok (.getfield 58, 3) := by decide +kernel
theorem dX6_early_28 : decode cX6_early 28 = .ok (.iload_n 2, 1) := by decide +kernel
theorem dX6_early_29 : decode cX6_early 29 = .ok (.iload_n 1, 1) := by decide +kernel
theorem dX6_early_30 : decode cX6_early 30 = .ok (.invokevirtual 130, 3) := by decide +kernel
theorem dX6_early_33 : decode cX6_early 33 = .ok (.aload_n 0, 1) := by decide +kernel
theorem dX6_early_34 : decode cX6_early 34 = .ok (.getfield 58, 3) := by decide +kernel
theorem dX6_early_37 : decode cX6_early 37 = .ok (.iload_n 2, 1) := by decide +kernel
theorem dX6_early_38 : decode cX6_early 38 = .ok (.invokevirtual 146, 3) := by decide +kernel
theorem dX6_early_41 : decode cX6_early 41 = .ok (.isub, 1) := by decide +kernel
theorem dX6_early_42 : decode cX6_early 42 = .ok (.ireturn, 1) := by decide +kernel
theorem dX6_beats_0 : decode cX6_beats 0 = .ok (.iload_n 1, 1) := by decide +kernel
theorem dX6_beats_1 : decode cX6_beats 1 = .ok (.bipush 8, 2) := by decide +kernel
theorem dX6_beats_3 : decode cX6_beats 3 = .ok (.invokestatic 89, 3) := by decide +kernel
theorem dX6_beats_6 : decode cX6_beats 6 = .ok (.ifCond .ne 5, 3) := by decide +kernel
theorem dX6_beats_9 : decode cX6_beats 9 = .ok (.iconst (-1), 1) := by decide +kernel
theorem dX6_beats_10 : decode cX6_beats 10 = .ok (.ireturn, 1) := by decide +kernel
theorem dX6_beats_11 : decode cX6_beats 11 = .ok (.aload_n 0, 1) := by decide +kernel
theorem dX6_beats_12 : decode cX6_beats 12 = .ok (.invokevirtual 114, 3) := by decide +kernel
theorem dX6_beats_15 : decode cX6_beats 15 = .ok (.iload_n 1, 1) := by decide +kernel
theorem dX6_beats_16 : decode cX6_beats 16 = .ok (.invokevirtual 134, 3) := by decide +kernel
theorem dX6_beats_19 : decode cX6_beats 19 = .ok (.iconst 1, 1) := by decide +kernel
theorem dX6_beats_20 : decode cX6_beats 20 = .ok (.aload_n 0, 1) := by decide +kernel
theorem dX6_beats_21 : decode cX6_beats 21 = .ok (.invokevirtual 76, 3) := by decide +kernel
theorem dX6_beats_24 : decode cX6_beats 24 = .ok (.getfield 83, 3) := by decide +kernel
theorem dX6_beats_27 : decode cX6_beats 27 = .ok (.invokestatic 149, 3) := by decide +kernel
theorem dX6_beats_30 : decode cX6_beats 30 = .ok (.idiv, 1) := by decide +kernel
theorem dX6_beats_31 : decode cX6_beats 31 = .ok (.ireturn, 1) := by decide +kernel
theorem dX6_form_0 : decode cX6_form 0 = .ok (.iload_n 1, 1) := by decide +kernel
theorem dX6_form_1 : decode cX6_form 1 = .ok (.iconst (-1), 1) := by decide +kernel
theorem dX6_form_2 : decode cX6_form 2 = .ok (.if_icmp .ne 13, 3) := by decide +kernel
theorem dX6_form_5 : decode cX6_form 5 = .ok (.aload_n 0, 1) := by decide +kernel
theorem dX6_form_6 : decode cX6_form 6 = .ok (.getfield 12, 3) := by decide +kernel
theorem dX6_form_9 : decode cX6_form 9 = .ok (.iconst 0, 1) := by decide +kernel
theorem dX6_form_10 : decode cX6_form 10 = .ok (.putfield 154, 3) := by decide +kernel
theorem dX6_form_13 : decode cX6_form 13 = .ok (.iconst 0, 1) := by decide +kernel
theorem dX6_form_14 : decode cX6_form 14 = .ok (.ireturn, 1) := by decide +kernel
theorem dX6_form_15 : decode cX6_form 15 = .ok (.iload_n 1, 1) := by decide +kernel
theorem dX6_form_16 : decode cX6_form 16 = .ok (.bipush 64, 2) := by decide +kernel
theorem dX6_form_18 : decode cX6_form 18 = .ok (.invokestatic 89, 3) := by decide +kernel
theorem dX6_form_21 : decode cX6_form 21 = .ok (.ifCond .ne 5, 3) := by decide +kernel
theorem dX6_form_24 : decode cX6_form 24 = .ok (.iconst (-1), 1) := by decide +kernel
theorem dX6_form_25 : decode cX6_form 25 = .ok (.ireturn, 1) := by decide +kernel
theorem dX6_form_26 : decode cX6_form 26 = .ok (.aload_n 0, 1) := by decide +kernel
theorem dX6_form_27 : decode cX6_form 27 = .ok (.getfield 12, 3) := by decide +kernel
theorem dX6_form_30 : decode cX6_form 30 = .ok (.iload_n 1, 1) := by decide +kernel
theorem dX6_form_31 : decode cX6_form 31 = .ok (.invokevirtual 157, 3) := by decide +kernel
theorem dX6_form_34 : decode cX6_form 34 = .ok (.ifCond .eq 6, 3) := by decide +kernel
theorem dX6_form_37 : decode cX6_form 37 = .ok (.bipush (-3), 2) := by decide +kernel
theorem dX6_form_39 : decode cX6_form 39 = .ok (.ireturn, 1) := by decide +kernel
theorem dX6_form_40 : decode cX6_form 40 = .ok (.aload_n 0, 1) := by decide +kernel
theorem dX6_form_41 : decode cX6_form 41 = .ok (.getfield 12, 3) := by decide +kernel
theorem dX6_form_44 : decode cX6_form 44 = .ok (.getfield 154, 3) := by decide +kernel
theorem dX6_form_47 : decode cX6_form 47 = .ok (.bipush 10, 2) := by decide +kernel
theorem dX6_form_49 : decode cX6_form 49 = .ok (.if_icmp .lt 6, 3) := by decide +kernel
theorem dX6_form_52 : decode cX6_form 52 = .ok (.bipush (-4), 2) := by decide +kernel
theorem dX6_form_54 : decode cX6_form 54 = .ok (.ireturn, 1) := by decide +kernel
theorem dX6_form_55 : decode cX6_form 55 = .ok (.aload_n 0, 1) := by decide +kernel
theorem dX6_form_56 : decode cX6_form 56 = .ok (.getfield 12, 3) := by decide +kernel
theorem dX6_form_59 : decode cX6_form 59 = .ok (.getfield 160, 3) := by decide +kernel
theorem dX6_form_62 : decode cX6_form 62 = .ok (.aload_n 0, 1) := by decide +kernel
theorem dX6_form_63 : decode cX6_form 63 = .ok (.getfield 12, 3) := by decide +kernel
theorem dX6_form_66 : decode cX6_form 66 = .ok (.getfield 154, 3) := by decide +kernel
theorem dX6_form_69 : decode cX6_form 69 = .ok (.iload_n 1, 1) := by decide +kernel
theorem dX6_form_70 : decode cX6_form 70 = .ok (.iastore, 1) := by decide +kernel
theorem dX6_form_71 : decode cX6_form 71 = .ok (.aload_n 0, 1) := by decide +kernel
theorem dX6_form_72 : decode cX6_form 72 = .ok (.getfield 12, 3) := by decide +kernel
theorem dX6_form_75 : decode cX6_form 75 = .ok (.dup, 1) := by decide +kernel
theorem dX6_form_76 : decode cX6_form 76 = .ok (.getfield 154, 3) := by decide +kernel
theorem dX6_form_79 : decode cX6_form 79 = .ok (.iconst 1, 1) := by decide +kernel
theorem dX6_form_80 : decode cX6_form 80 = .ok (.iadd, 1) := by decide +kernel
theorem dX6_form_81 : decode cX6_form 81 = .ok (.putfield 154, 3) := by decide +kernel
theorem dX6_form_84 : decode cX6_form 84 = .ok (.aload_n 0, 1) := by decide +kernel
theorem dX6_form_85 : decode cX6_form 85 = .ok (.getfield 12, 3) := by decide +kernel
theorem dX6_form_88 : decode cX6_form 88 = .ok (.getfield 154, 3) := by decide +kernel
theorem dX6_form_91 : decode cX6_form 91 = .ok (.ireturn, 1) := by decide +kernel
theorem dX6_way_0 : decode cX6_way 0 = .ok (.iload_n 1, 1) := by decide +kernel
theorem dX6_way_1 : decode cX6_way 1 = .ok (.bipush (-2), 2) := by decide +kernel
theorem dX6_way_3 : decode cX6_way 3 = .ok (.if_icmp .lt 14, 3) := by decide +kernel
theorem dX6_way_6 : decode cX6_way 6 = .ok (.iload_n 1, 1) := by decide +kernel
theorem dX6_way_7 : decode cX6_way 7 = .ok (.aload_n 0, 1) := by decide +kernel
theorem dX6_way_8 : decode cX6_way 8 = .ok (.getfield 12, 3) := by decide +kernel
theorem dX6_way_11 : decode cX6_way 11 = .ok (.getfield 97, 3) := by decide +kernel
theorem dX6_way_14 : decode cX6_way 14 = .ok (.if_icmp .lt 5, 3) := by decide +kernel
theorem dX6_way_17 : decode cX6_way 17 = .ok (.iconst (-1), 1) := by decide +kernel
theorem dX6_way_18 : decode cX6_way 18 = .ok (.ireturn, 1) := by decide +kernel
theorem dX6_way_19 : decode cX6_way 19 = .ok (.aload_n 0, 1) := by decide +kernel
theorem dX6_way_20 : decode cX6_way 20 = .ok (.invokevirtual 163, 3) := by decide +kernel
theorem dX6_way_23 : decode cX6_way 23 = .ok (.istore_n 2, 1) := by decide +kernel
theorem dX6_way_24 : decode cX6_way 24 = .ok (.iload_n 2, 1) := by decide +kernel
theorem dX6_way_25 : decode cX6_way 25 = .ok (.ifCond .eq 5, 3) := by decide +kernel
theorem dX6_way_28 : decode cX6_way 28 = .ok (.iload_n 2, 1) := by decide +kernel
theorem dX6_way_29 : decode cX6_way 29 = .ok (.ireturn, 1) := by decide +kernel
theorem dX6_way_30 : decode cX6_way 30 = .ok (.iload_n 1, 1) := by decide +kernel
theorem dX6_way_31 : decode cX6_way 31 = .ok (.iconst (-1), 1) := by decide +kernel
theorem dX6_way_32 : decode cX6_way 32 = .ok (.if_icmp .ne 11, 3) := by decide +kernel
theorem dX6_way_35 : decode cX6_way 35 = .ok (.aload_n 0, 1) := by decide +kernel
theorem dX6_way_36 : decode cX6_way 36 = .ok (.getfield 34, 3) := by decide +kernel
theorem dX6_way_39 : decode cX6_way 39 = .ok (.getfield 167, 3) := by decide +kernel
theorem dX6_way_42 : decode cX6_way 42 = .ok (.ireturn, 1) := by decide +kernel
theorem dX6_way_43 : decode cX6_way 43 = .ok (.iload_n 1, 1) := by decide +kernel
theorem dX6_way_44 : decode cX6_way 44 = .ok (.bipush (-2), 2) := by decide +kernel
theorem dX6_way_46 : decode cX6_way 46 = .ok (.if_icmp .ne 13, 3) := by decide +kernel
theorem dX6_way_49 : decode cX6_way 49 = .ok (.aload_n 0, 1) := by decide +kernel
theorem dX6_way_50 : decode cX6_way 50 = .ok (.getfield 34, 3) := by decide +kernel
theorem dX6_way_53 : decode cX6_way 53 = .ok (.getfield 170, 3) := by decide +kernel
theorem dX6_way_56 : decode cX6_way 56 = .ok (.goto 12, 3) := by decide +kernel
theorem dX6_way_59 : decode cX6_way 59 = .ok (.aload_n 0, 1) := by decide +kernel
theorem dX6_way_60 : decode cX6_way 60 = .ok (.getfield 34, 3) := by decide +kernel
theorem dX6_way_63 : decode cX6_way 63 = .ok (.getfield 173, 3) := by decide +kernel
theorem dX6_way_66 : decode cX6_way 66 = .ok (.iload_n 1, 1) := by decide +kernel
theorem dX6_way_67 : decode cX6_way 67 = .ok (.iaload, 1) := by decide +kernel
theorem dX6_way_68 : decode cX6_way 68 = .ok (.ireturn, 1) := by decide +kernel
theorem dX6_counts_0 : decode cX6_counts 0 = .ok (.aload_n 0, 1) := by decide +kernel
theorem dX6_counts_1 : decode cX6_counts 1 = .ok (.invokevirtual 163, 3) := by decide +kernel
theorem dX6_counts_4 : decode cX6_counts 4 = .ok (.istore_n 1, 1) := by decide +kernel
theorem dX6_counts_5 : decode cX6_counts 5 = .ok (.iload_n 1, 1) := by decide +kernel
theorem dX6_counts_6 : decode cX6_counts 6 = .ok (.ifCond .eq 5, 3) := by decide +kernel
theorem dX6_counts_9 : decode cX6_counts 9 = .ok (.iload_n 1, 1) := by decide +kernel
theorem dX6_counts_10 : decode cX6_counts 10 = .ok (.ireturn, 1) := by decide +kernel
theorem dX6_counts_11 : decode cX6_counts 11 = .ok (.iconst 1, 1) := by decide +kernel
theorem dX6_counts_12 : decode cX6_counts 12 = .ok (.aload_n 0, 1) := by decide +kernel
theorem dX6_counts_13 : decode cX6_counts 13 = .ok (.invokevirtual 76, 3) := by decide +kernel
theorem dX6_counts_16 : decode cX6_counts 16 = .ok (.getfield 86, 3) := by decide +kernel
theorem dX6_counts_19 : decode cX6_counts 19 = .ok (.invokestatic 149, 3) := by decide +kernel
theorem dX6_counts_22 : decode cX6_counts 22 = .ok (.istore_n 2, 1) := by decide +kernel
theorem dX6_counts_23 : decode cX6_counts 23 = .ok (.aload_n 0, 1) := by decide +kernel
theorem dX6_counts_24 : decode cX6_counts 24 = .ok (.getfield 34, 3) := by decide +kernel
theorem dX6_counts_27 : decode cX6_counts 27 = .ok (.getfield 167, 3) := by decide +kernel
theorem dX6_counts_30 : decode cX6_counts 30 = .ok (.iload_n 2, 1) := by decide +kernel
theorem dX6_counts_31 : decode cX6_counts 31 = .ok (.iadd, 1) := by decide +kernel
theorem dX6_counts_32 : decode cX6_counts 32 = .ok (.iconst 1, 1) := by decide +kernel
theorem dX6_counts_33 : decode cX6_counts 33 = .ok (.isub, 1) := by decide +kernel
theorem dX6_counts_34 : decode cX6_counts 34 = .ok (.iload_n 2, 1) := by decide +kernel
theorem dX6_counts_35 : decode cX6_counts 35 = .ok (.idiv, 1) := by decide +kernel
theorem dX6_counts_36 : decode cX6_counts 36 = .ok (.ireturn, 1) := by decide +kernel
theorem dX6_meet_0 : decode cX6_meet 0 = .ok (.aload_n 0, 1) := by decide +kernel
theorem dX6_meet_1 : decode cX6_meet 1 = .ok (.getfield 12, 3) := by decide +kernel
theorem dX6_meet_4 : decode cX6_meet 4 = .ok (.invokevirtual 176, 3) := by decide +kernel
theorem dX6_meet_7 : decode cX6_meet 7 = .ok (.ifCond .eq 6, 3) := by decide +kernel
theorem dX6_meet_10 : decode cX6_meet 10 = .ok (.bipush (-5), 2) := by decide +kernel
theorem dX6_meet_12 : decode cX6_meet 12 = .ok (.ireturn, 1) := by decide +kernel
theorem dX6_meet_13 : decode cX6_meet 13 = .ok (.iconst 0, 1) := by decide +kernel
theorem dX6_meet_14 : decode cX6_meet 14 = .ok (.istore_n 1, 1) := by decide +kernel
theorem dX6_meet_15 : decode cX6_meet 15 = .ok (.iconst 0, 1) := by decide +kernel
theorem dX6_meet_16 : decode cX6_meet 16 = .ok (.istore_n 2, 1) := by decide +kernel
theorem dX6_meet_17 : decode cX6_meet 17 = .ok (.iload_n 2, 1) := by decide +kernel
theorem dX6_meet_18 : decode cX6_meet 18 = .ok (.aload_n 0, 1) := by decide +kernel
theorem dX6_meet_19 : decode cX6_meet 19 = .ok (.getfield 12, 3) := by decide +kernel
theorem dX6_meet_22 : decode cX6_meet 22 = .ok (.getfield 97, 3) := by decide +kernel
theorem dX6_meet_25 : decode cX6_meet 25 = .ok (.if_icmp .ge 45, 3) := by decide +kernel
theorem dX6_meet_28 : decode cX6_meet 28 = .ok (.iload_n 2, 1) := by decide +kernel
theorem dX6_meet_29 : decode cX6_meet 29 = .ok (.iconst 1, 1) := by decide +kernel
theorem dX6_meet_30 : decode cX6_meet 30 = .ok (.iadd, 1) := by decide +kernel
theorem dX6_meet_31 : decode cX6_meet 31 = .ok (.istore_n 3, 1) := by decide +kernel
theorem dX6_meet_32 : decode cX6_meet 32 = .ok (.iload_n 3, 1) := by decide +kernel
theorem dX6_meet_33 : decode cX6_meet 33 = .ok (.aload_n 0, 1) := by decide +kernel
theorem dX6_meet_34 : decode cX6_meet 34 = .ok (.getfield 12, 3) := by decide +kernel
theorem dX6_meet_37 : decode cX6_meet 37 = .ok (.getfield 97, 3) := by decide +kernel
theorem dX6_meet_40 : decode cX6_meet 40 = .ok (.if_icmp .ge 24, 3) := by decide +kernel
theorem dX6_meet_43 : decode cX6_meet 43 = .ok (.aload_n 0, 1) := by decide +kernel
theorem dX6_meet_44 : decode cX6_meet 44 = .ok (.getfield 12, 3) := by decide +kernel
theorem dX6_meet_47 : decode cX6_meet 47 = .ok (.iload_n 2, 1) := by decide +kernel
theorem dX6_meet_48 : decode cX6_meet 48 = .ok (.iload_n 3, 1) := by decide +kernel
theorem dX6_meet_49 : decode cX6_meet 49 = .ok (.invokevirtual 180, 3) := by decide +kernel
theorem dX6_meet_52 : decode cX6_meet 52 = .ok (.ifCond .eq 6, 3) := by decide +kernel
theorem dX6_meet_55 : decode cX6_meet 55 = .ok (.iinc 1 1, 3) := by decide +kernel
theorem dX6_meet_58 : decode cX6_meet 58 = .ok (.iinc 3 1, 3) := by decide +kernel
theorem dX6_meet_61 : decode cX6_meet 61 = .ok (.goto (-29), 3) := by decide +kernel
theorem dX6_meet_64 : decode cX6_meet 64 = .ok (.iinc 2 1, 3) := by decide +kernel
theorem dX6_meet_67 : decode cX6_meet 67 = .ok (.goto (-50), 3) := by decide +kernel
theorem dX6_meet_70 : decode cX6_meet 70 = .ok (.iload_n 1, 1) := by decide +kernel
theorem dX6_meet_71 : decode cX6_meet 71 = .ok (.ireturn, 1) := by decide +kernel
theorem dX6_hard_0 : decode cX6_hard 0 = .ok (.iload_n 1, 1) := by decide +kernel
theorem dX6_hard_1 : decode cX6_hard 1 = .ok (.iconst 2, 1) := by decide +kernel
theorem dX6_hard_2 : decode cX6_hard 2 = .ok (.invokestatic 89, 3) := by decide +kernel
theorem dX6_hard_5 : decode cX6_hard 5 = .ok (.ifCond .ne 5, 3) := by decide +kernel
theorem dX6_hard_8 : decode cX6_hard 8 = .ok (.iconst (-1), 1) := by decide +kernel
theorem dX6_hard_9 : decode cX6_hard 9 = .ok (.ireturn, 1) := by decide +kernel
theorem dX6_hard_10 : decode cX6_hard 10 = .ok (.aload_n 0, 1) := by decide +kernel
theorem dX6_hard_11 : decode cX6_hard 11 = .ok (.getfield 12, 3) := by decide +kernel
theorem dX6_hard_14 : decode cX6_hard 14 = .ok (.invokevirtual 176, 3) := by decide +kernel
theorem dX6_hard_17 : decode cX6_hard 17 = .ok (.ifCond .eq 6, 3) := by decide +kernel
theorem dX6_hard_20 : decode cX6_hard 20 = .ok (.bipush (-5), 2) := by decide +kernel
theorem dX6_hard_22 : decode cX6_hard 22 = .ok (.ireturn, 1) := by decide +kernel
theorem dX6_hard_23 : decode cX6_hard 23 = .ok (.iconst 0, 1) := by decide +kernel
theorem dX6_hard_24 : decode cX6_hard 24 = .ok (.istore_n 2, 1) := by decide +kernel
theorem dX6_hard_25 : decode cX6_hard 25 = .ok (.iconst 0, 1) := by decide +kernel
theorem dX6_hard_26 : decode cX6_hard 26 = .ok (.istore_n 3, 1) := by decide +kernel
theorem dX6_hard_27 : decode cX6_hard 27 = .ok (.iconst 0, 1) := by decide +kernel
theorem dX6_hard_28 : decode cX6_hard 28 = .ok (.istore 4, 2) := by decide +kernel
theorem dX6_hard_30 : decode cX6_hard 30 = .ok (.iload 4, 2) := by decide +kernel
theorem dX6_hard_32 : decode cX6_hard 32 = .ok (.aload_n 0, 1) := by decide +kernel
theorem dX6_hard_33 : decode cX6_hard 33 = .ok (.getfield 12, 3) := by decide +kernel
theorem dX6_hard_36 : decode cX6_hard 36 = .ok (.getfield 97, 3) := by decide +kernel
theorem dX6_hard_39 : decode cX6_hard 39 = .ok (.if_icmp .ge 58, 3) := by decide +kernel
theorem dX6_hard_42 : decode cX6_hard 42 = .ok (.aload_n 0, 1) := by decide +kernel
theorem dX6_hard_43 : decode cX6_hard 43 = .ok (.getfield 12, 3) := by decide +kernel
theorem dX6_hard_46 : decode cX6_hard 46 = .ok (.getfield 107, 3) := by decide +kernel
theorem dX6_hard_49 : decode cX6_hard 49 = .ok (.iload 4, 2) := by decide +kernel
theorem dX6_hard_51 : decode cX6_hard 51 = .ok (.iaload, 1) := by decide +kernel
theorem dX6_hard_52 : decode cX6_hard 52 = .ok (.aload_n 0, 1) := by decide +kernel
theorem dX6_hard_53 : decode cX6_hard 53 = .ok (.getfield 12, 3) := by decide +kernel
theorem dX6_hard_56 : decode cX6_hard 56 = .ok (.getfield 160, 3) := by decide +kernel
theorem dX6_hard_59 : decode cX6_hard 59 = .ok (.iload 4, 2) := by decide +kernel
theorem dX6_hard_61 : decode cX6_hard 61 = .ok (.iaload, 1) := by decide +kernel
theorem dX6_hard_62 : decode cX6_hard 62 = .ok (.invokestatic 183, 3) := by decide +kernel
theorem dX6_hard_65 : decode cX6_hard 65 = .ok (.istore 5, 2) := by decide +kernel
theorem dX6_hard_67 : decode cX6_hard 67 = .ok (.iload 5, 2) := by decide +kernel
theorem dX6_hard_69 : decode cX6_hard 69 = .ok (.iload_n 2, 1) := by decide +kernel
theorem dX6_hard_70 : decode cX6_hard 70 = .ok (.if_icmp .le 8, 3) := by decide +kernel
theorem dX6_hard_73 : decode cX6_hard 73 = .ok (.iload 5, 2) := by decide +kernel
theorem dX6_hard_75 : decode cX6_hard 75 = .ok (.istore_n 2, 1) := by decide +kernel
theorem dX6_hard_76 : decode cX6_hard 76 = .ok (.iconst 0, 1) := by decide +kernel
theorem dX6_hard_77 : decode cX6_hard 77 = .ok (.istore_n 3, 1) := by decide +kernel
theorem dX6_hard_78 : decode cX6_hard 78 = .ok (.iload 5, 2) := by decide +kernel
theorem dX6_hard_80 : decode cX6_hard 80 = .ok (.iload_n 2, 1) := by decide +kernel
theorem dX6_hard_81 : decode cX6_hard 81 = .ok (.if_icmp .ne 10, 3) := by decide +kernel
theorem dX6_hard_84 : decode cX6_hard 84 = .ok (.iload_n 3, 1) := by decide +kernel
theorem dX6_hard_85 : decode cX6_hard 85 = .ok (.iconst 1, 1) := by decide +kernel
theorem dX6_hard_86 : decode cX6_hard 86 = .ok (.iload 4, 2) := by decide +kernel
theorem dX6_hard_88 : decode cX6_hard 88 = .ok (.ishl, 1) := by decide +kernel
theorem dX6_hard_89 : decode cX6_hard 89 = .ok (.ior, 1) := by decide +kernel
theorem dX6_hard_90 : decode cX6_hard 90 = .ok (.istore_n 3, 1) := by decide +kernel
theorem dX6_hard_91 : decode cX6_hard 91 = .ok (.iinc 4 1, 3) := by decide +kernel
theorem dX6_hard_94 : decode cX6_hard 94 = .ok (.goto (-64), 3) := by decide +kernel
theorem dX6_hard_97 : decode cX6_hard 97 = .ok (.iload_n 1, 1) := by decide +kernel
theorem dX6_hard_98 : decode cX6_hard 98 = .ok (.ifCond .ne 7, 3) := by decide +kernel
theorem dX6_hard_101 : decode cX6_hard 101 = .ok (.iload_n 3, 1) := by decide +kernel
theorem dX6_hard_102 : decode cX6_hard 102 = .ok (.goto 4, 3) := by decide +kernel
theorem dX6_hard_105 : decode cX6_hard 105 = .ok (.iload_n 2, 1) := by decide +kernel
theorem dX6_hard_106 : decode cX6_hard 106 = .ok (.ireturn, 1) := by decide +kernel
theorem dX6_march_0 : decode cX6_march 0 = .ok (.aload_n 0, 1) := by decide +kernel
theorem dX6_march_1 : decode cX6_march 1 = .ok (.getfield 12, 3) := by decide +kernel
theorem dX6_march_4 : decode cX6_march 4 = .ok (.invokevirtual 176, 3) := by decide +kernel
theorem dX6_march_7 : decode cX6_march 7 = .ok (.ifCond .eq 6, 3) := by decide +kernel
theorem dX6_march_10 : decode cX6_march 10 = .ok (.bipush (-3), 2) := by decide +kernel
theorem dX6_march_12 : decode cX6_march 12 = .ok (.ireturn, 1) := by decide +kernel
theorem dX6_march_13 : decode cX6_march 13 = .ok (.iconst 0, 1) := by decide +kernel
theorem dX6_march_14 : decode cX6_march 14 = .ok (.istore_n 1, 1) := by decide +kernel
theorem dX6_march_15 : decode cX6_march 15 = .ok (.iconst 0, 1) := by decide +kernel
theorem dX6_march_16 : decode cX6_march 16 = .ok (.istore_n 2, 1) := by decide +kernel
theorem dX6_march_17 : decode cX6_march 17 = .ok (.iload_n 2, 1) := by decide +kernel
theorem dX6_march_18 : decode cX6_march 18 = .ok (.aload_n 0, 1) := by decide +kernel
theorem dX6_march_19 : decode cX6_march 19 = .ok (.getfield 12, 3) := by decide +kernel
theorem dX6_march_22 : decode cX6_march 22 = .ok (.getfield 97, 3) := by decide +kernel
theorem dX6_march_25 : decode cX6_march 25 = .ok (.if_icmp .ge 51, 3) := by decide +kernel
theorem dX6_march_28 : decode cX6_march 28 = .ok (.aload_n 0, 1) := by decide +kernel
theorem dX6_march_29 : decode cX6_march 29 = .ok (.getfield 12, 3) := by decide +kernel
theorem dX6_march_32 : decode cX6_march 32 = .ok (.getfield 107, 3) := by decide +kernel
theorem dX6_march_35 : decode cX6_march 35 = .ok (.iload_n 2, 1) := by decide +kernel
theorem dX6_march_36 : decode cX6_march 36 = .ok (.iaload, 1) := by decide +kernel
theorem dX6_march_37 : decode cX6_march 37 = .ok (.aload_n 0, 1) := by decide +kernel
theorem dX6_march_38 : decode cX6_march 38 = .ok (.getfield 12, 3) := by decide +kernel
theorem dX6_march_41 : decode cX6_march 41 = .ok (.getfield 160, 3) := by decide +kernel
theorem dX6_march_44 : decode cX6_march 44 = .ok (.iload_n 2, 1) := by decide +kernel
theorem dX6_march_45 : decode cX6_march 45 = .ok (.iaload, 1) := by decide +kernel
theorem dX6_march_46 : decode cX6_march 46 = .ok (.if_icmp .eq 6, 3) := by decide +kernel
theorem dX6_march_49 : decode cX6_march 49 = .ok (.iinc 1 1, 3) := by decide +kernel
theorem dX6_march_52 : decode cX6_march 52 = .ok (.aload_n 0, 1) := by decide +kernel
theorem dX6_march_53 : decode cX6_march 53 = .ok (.getfield 12, 3) := by decide +kernel
theorem dX6_march_56 : decode cX6_march 56 = .ok (.getfield 107, 3) := by decide +kernel
theorem dX6_march_59 : decode cX6_march 59 = .ok (.iload_n 2, 1) := by decide +kernel
theorem dX6_march_60 : decode cX6_march 60 = .ok (.aload_n 0, 1) := by decide +kernel
theorem dX6_march_61 : decode cX6_march 61 = .ok (.getfield 12, 3) := by decide +kernel
theorem dX6_march_64 : decode cX6_march 64 = .ok (.getfield 160, 3) := by decide +kernel
theorem dX6_march_67 : decode cX6_march 67 = .ok (.iload_n 2, 1) := by decide +kernel
theorem dX6_march_68 : decode cX6_march 68 = .ok (.iaload, 1) := by decide +kernel
theorem dX6_march_69 : decode cX6_march 69 = .ok (.iastore, 1) := by decide +kernel
theorem dX6_march_70 : decode cX6_march 70 = .ok (.iinc 2 1, 3) := by decide +kernel
theorem dX6_march_73 : decode cX6_march 73 = .ok (.goto (-56), 3) := by decide +kernel
theorem dX6_march_76 : decode cX6_march 76 = .ok (.iload_n 1, 1) := by decide +kernel
theorem dX6_march_77 : decode cX6_march 77 = .ok (.ireturn, 1) := by decide +kernel
theorem dX6_seen_0 : decode cX6_seen 0 = .ok (.iload_n 1, 1) := by decide +kernel
theorem dX6_seen_1 : decode cX6_seen 1 = .ok (.iconst (-1), 1) := by decide +kernel
theorem dX6_seen_2 : decode cX6_seen 2 = .ok (.if_icmp .ne 13, 3) := by decide +kernel
theorem dX6_seen_5 : decode cX6_seen 5 = .ok (.aload_n 0, 1) := by decide +kernel
theorem dX6_seen_6 : decode cX6_seen 6 = .ok (.getfield 12, 3) := by decide +kernel
theorem dX6_seen_9 : decode cX6_seen 9 = .ok (.iconst 0, 1) := by decide +kernel
theorem dX6_seen_10 : decode cX6_seen 10 = .ok (.putfield 186, 3) := by decide +kernel
theorem dX6_seen_13 : decode cX6_seen 13 = .ok (.iconst 0, 1) := by decide +kernel
theorem dX6_seen_14 : decode cX6_seen 14 = .ok (.ireturn, 1) := by decide +kernel
theorem dX6_seen_15 : decode cX6_seen 15 = .ok (.iload_n 1, 1) := by decide +kernel
theorem dX6_seen_16 : decode cX6_seen 16 = .ok (.bipush 64, 2) := by decide +kernel
theorem dX6_seen_18 : decode cX6_seen 18 = .ok (.invokestatic 89, 3) := by decide +kernel
theorem dX6_seen_21 : decode cX6_seen 21 = .ok (.ifCond .ne 5, 3) := by decide +kernel
theorem dX6_seen_24 : decode cX6_seen 24 = .ok (.iconst (-1), 1) := by decide +kernel
theorem dX6_seen_25 : decode cX6_seen 25 = .ok (.ireturn, 1) := by decide +kernel
theorem dX6_seen_26 : decode cX6_seen 26 = .ok (.aload_n 0, 1) := by decide +kernel
theorem dX6_seen_27 : decode cX6_seen 27 = .ok (.getfield 12, 3) := by decide +kernel
theorem dX6_seen_30 : decode cX6_seen 30 = .ok (.getfield 186, 3) := by decide +kernel
theorem dX6_seen_33 : decode cX6_seen 33 = .ok (.bipush 10, 2) := by decide +kernel
theorem dX6_seen_35 : decode cX6_seen 35 = .ok (.if_icmp .lt 6, 3) := by decide +kernel
theorem dX6_seen_38 : decode cX6_seen 38 = .ok (.bipush (-4), 2) := by decide +kernel
theorem dX6_seen_40 : decode cX6_seen 40 = .ok (.ireturn, 1) := by decide +kernel
theorem dX6_seen_41 : decode cX6_seen 41 = .ok (.aload_n 0, 1) := by decide +kernel
theorem dX6_seen_42 : decode cX6_seen 42 = .ok (.getfield 12, 3) := by decide +kernel
theorem dX6_seen_45 : decode cX6_seen 45 = .ok (.getfield 189, 3) := by decide +kernel
theorem dX6_seen_48 : decode cX6_seen 48 = .ok (.aload_n 0, 1) := by decide +kernel
theorem dX6_seen_49 : decode cX6_seen 49 = .ok (.getfield 12, 3) := by decide +kernel
theorem dX6_seen_52 : decode cX6_seen 52 = .ok (.getfield 186, 3) := by decide +kernel
theorem dX6_seen_55 : decode cX6_seen 55 = .ok (.iload_n 1, 1) := by decide +kernel
theorem dX6_seen_56 : decode cX6_seen 56 = .ok (.iastore, 1) := by decide +kernel
theorem dX6_seen_57 : decode cX6_seen 57 = .ok (.aload_n 0, 1) := by decide +kernel
theorem dX6_seen_58 : decode cX6_seen 58 = .ok (.getfield 12, 3) := by decide +kernel
theorem dX6_seen_61 : decode cX6_seen 61 = .ok (.dup, 1) := by decide +kernel
theorem dX6_seen_62 : decode cX6_seen 62 = .ok (.getfield 186, 3) := by decide +kernel
theorem dX6_seen_65 : decode cX6_seen 65 = .ok (.iconst 1, 1) := by decide +kernel
theorem dX6_seen_66 : decode cX6_seen 66 = .ok (.iadd, 1) := by decide +kernel
theorem dX6_seen_67 : decode cX6_seen 67 = .ok (.putfield 186, 3) := by decide +kernel
theorem dX6_seen_70 : decode cX6_seen 70 = .ok (.aload_n 0, 1) := by decide +kernel
theorem dX6_seen_71 : decode cX6_seen 71 = .ok (.getfield 12, 3) := by decide +kernel
theorem dX6_seen_74 : decode cX6_seen 74 = .ok (.getfield 186, 3) := by decide +kernel
theorem dX6_seen_77 : decode cX6_seen 77 = .ok (.ireturn, 1) := by decide +kernel
theorem dX6_off_0 : decode cX6_off 0 = .ok (.iload_n 1, 1) := by decide +kernel
theorem dX6_off_1 : decode cX6_off 1 = .ok (.iconst 2, 1) := by decide +kernel
theorem dX6_off_2 : decode cX6_off 2 = .ok (.invokestatic 89, 3) := by decide +kernel
theorem dX6_off_5 : decode cX6_off 5 = .ok (.ifCond .ne 5, 3) := by decide +kernel
theorem dX6_off_8 : decode cX6_off 8 = .ok (.iconst (-1), 1) := by decide +kernel
theorem dX6_off_9 : decode cX6_off 9 = .ok (.ireturn, 1) := by decide +kernel
theorem dX6_off_10 : decode cX6_off 10 = .ok (.iconst 0, 1) := by decide +kernel
theorem dX6_off_11 : decode cX6_off 11 = .ok (.istore_n 2, 1) := by decide +kernel
theorem dX6_off_12 : decode cX6_off 12 = .ok (.bipush (-5), 2) := by decide +kernel
theorem dX6_off_14 : decode cX6_off 14 = .ok (.istore_n 3, 1) := by decide +kernel
theorem dX6_off_15 : decode cX6_off 15 = .ok (.iconst 0, 1) := by decide +kernel
theorem dX6_off_16 : decode cX6_off 16 = .ok (.istore 4, 2) := by decide +kernel
theorem dX6_off_18 : decode cX6_off 18 = .ok (.iconst 0, 1) := by decide +kernel
theorem dX6_off_19 : decode cX6_off 19 = .ok (.istore 5, 2) := by decide +kernel
theorem dX6_off_21 : decode cX6_off 21 = .ok (.iload 5, 2) := by decide +kernel
theorem dX6_off_23 : decode cX6_off 23 = .ok (.aload_n 0, 1) := by decide +kernel
theorem dX6_off_24 : decode cX6_off 24 = .ok (.getfield 12, 3) := by decide +kernel
theorem dX6_off_27 : decode cX6_off 27 = .ok (.getfield 97, 3) := by decide +kernel
theorem dX6_off_30 : decode cX6_off 30 = .ok (.if_icmp .ge 68, 3) := by decide +kernel
theorem dX6_off_33 : decode cX6_off 33 = .ok (.iload 5, 2) := by decide +kernel
theorem dX6_off_35 : decode cX6_off 35 = .ok (.aload_n 0, 1) := by decide +kernel
theorem dX6_off_36 : decode cX6_off 36 = .ok (.getfield 12, 3) := by decide +kernel
theorem dX6_off_39 : decode cX6_off 39 = .ok (.getfield 186, 3) := by decide +kernel
theorem dX6_off_42 : decode cX6_off 42 = .ok (.if_icmp .ge 56, 3) := by decide +kernel
theorem dX6_off_45 : decode cX6_off 45 = .ok (.aload_n 0, 1) := by decide +kernel
theorem dX6_off_46 : decode cX6_off 46 = .ok (.getfield 12, 3) := by decide +kernel
theorem dX6_off_49 : decode cX6_off 49 = .ok (.getfield 107, 3) := by decide +kernel
theorem dX6_off_52 : decode cX6_off 52 = .ok (.iload 5, 2) := by decide +kernel
theorem dX6_off_54 : decode cX6_off 54 = .ok (.iaload, 1) := by decide +kernel
theorem dX6_off_55 : decode cX6_off 55 = .ok (.aload_n 0, 1) := by decide +kernel
theorem dX6_off_56 : decode cX6_off 56 = .ok (.getfield 12, 3) := by decide +kernel
theorem dX6_off_59 : decode cX6_off 59 = .ok (.getfield 189, 3) := by decide +kernel
theorem dX6_off_62 : decode cX6_off 62 = .ok (.iload 5, 2) := by decide +kernel
theorem dX6_off_64 : decode cX6_off 64 = .ok (.iaload, 1) := by decide +kernel
theorem dX6_off_65 : decode cX6_off 65 = .ok (.invokestatic 183, 3) := by decide +kernel
theorem dX6_off_68 : decode cX6_off 68 = .ok (.istore 6, 2) := by decide +kernel
theorem dX6_off_70 : decode cX6_off 70 = .ok (.iload 6, 2) := by decide +kernel
theorem dX6_off_72 : decode cX6_off 72 = .ok (.ifCond .le 6, 3) := by decide +kernel
theorem dX6_off_75 : decode cX6_off 75 = .ok (.iinc 2 1, 3) := by decide +kernel
theorem dX6_off_78 : decode cX6_off 78 = .ok (.iload 6, 2) := by decide +kernel
theorem dX6_off_80 : decode cX6_off 80 = .ok (.iload 4, 2) := by decide +kernel
theorem dX6_off_82 : decode cX6_off 82 = .ok (.if_icmp .le 10, 3) := by decide +kernel
theorem dX6_off_85 : decode cX6_off 85 = .ok (.iload 6, 2) := by decide +kernel
theorem dX6_off_87 : decode cX6_off 87 = .ok (.istore 4, 2) := by decide +kernel
theorem dX6_off_89 : decode cX6_off 89 = .ok (.iload 5, 2) := by decide +kernel
theorem dX6_off_91 : decode cX6_off 91 = .ok (.istore_n 3, 1) := by decide +kernel
theorem dX6_off_92 : decode cX6_off 92 = .ok (.iinc 5 1, 3) := by decide +kernel
theorem dX6_off_95 : decode cX6_off 95 = .ok (.goto (-74), 3) := by decide +kernel
theorem dX6_off_98 : decode cX6_off 98 = .ok (.iload_n 1, 1) := by decide +kernel
theorem dX6_off_99 : decode cX6_off 99 = .ok (.ifCond .ne 7, 3) := by decide +kernel
theorem dX6_off_102 : decode cX6_off 102 = .ok (.iload_n 2, 1) := by decide +kernel
theorem dX6_off_103 : decode cX6_off 103 = .ok (.goto 4, 3) := by decide +kernel
theorem dX6_off_106 : decode cX6_off 106 = .ok (.iload_n 3, 1) := by decide +kernel
theorem dX6_off_107 : decode cX6_off 107 = .ok (.ireturn, 1) := by decide +kernel
theorem dX6_whom_0 : decode cX6_whom 0 = .ok (.aload_n 0, 1) := by decide +kernel
theorem dX6_whom_1 : decode cX6_whom 1 = .ok (.iload_n 1, 1) := by decide +kernel
theorem dX6_whom_2 : decode cX6_whom 2 = .ok (.invokevirtual 110, 3) := by decide +kernel
theorem dX6_whom_5 : decode cX6_whom 5 = .ok (.ifCond .eq 12, 3) := by decide +kernel
theorem dX6_whom_8 : decode cX6_whom 8 = .ok (.iload_n 2, 1) := by decide +kernel
theorem dX6_whom_9 : decode cX6_whom 9 = .ok (.bipush 8, 2) := by decide +kernel
theorem dX6_whom_11 : decode cX6_whom 11 = .ok (.invokestatic 89, 3) := by decide +kernel
theorem dX6_whom_14 : decode cX6_whom 14 = .ok (.ifCond .ne 5, 3) := by decide +kernel
theorem dX6_whom_17 : decode cX6_whom 17 = .ok (.iconst (-1), 1) := by decide +kernel
theorem dX6_whom_18 : decode cX6_whom 18 = .ok (.ireturn, 1) := by decide +kernel
theorem dX6_whom_19 : decode cX6_whom 19 = .ok (.iload_n 3, 1) := by decide +kernel
theorem dX6_whom_20 : decode cX6_whom 20 = .ok (.sipush 1000, 3) := by decide +kernel
theorem dX6_whom_23 : decode cX6_whom 23 = .ok (.invokestatic 89, 3) := by decide +kernel
theorem dX6_whom_26 : decode cX6_whom 26 = .ok (.ifCond .ne 6, 3) := by decide +kernel
theorem dX6_whom_29 : decode cX6_whom 29 = .ok (.bipush (-2), 2) := by decide +kernel
theorem dX6_whom_31 : decode cX6_whom 31 = .ok (.ireturn, 1) := by decide +kernel
theorem dX6_whom_32 : decode cX6_whom 32 = .ok (.aload_n 0, 1) := by decide +kernel
theorem dX6_whom_33 : decode cX6_whom 33 = .ok (.invokevirtual 114, 3) := by decide +kernel
theorem dX6_whom_36 : decode cX6_whom 36 = .ok (.pop, 1) := by decide +kernel
theorem dX6_whom_37 : decode cX6_whom 37 = .ok (.iconst 0, 1) := by decide +kernel
theorem dX6_whom_38 : decode cX6_whom 38 = .ok (.istore 4, 2) := by decide +kernel
theorem dX6_whom_40 : decode cX6_whom 40 = .ok (.iconst 0, 1) := by decide +kernel
theorem dX6_whom_41 : decode cX6_whom 41 = .ok (.istore 5, 2) := by decide +kernel
theorem dX6_whom_43 : decode cX6_whom 43 = .ok (.iload 5, 2) := by decide +kernel
theorem dX6_whom_45 : decode cX6_whom 45 = .ok (.bipush 7, 2) := by decide +kernel
theorem dX6_whom_47 : decode cX6_whom 47 = .ok (.if_icmp .ge 33, 3) := by decide +kernel
theorem dX6_whom_50 : decode cX6_whom 50 = .ok (.aload_n 0, 1) := by decide +kernel
theorem dX6_whom_51 : decode cX6_whom 51 = .ok (.getfield 58, 3) := by decide +kernel
theorem dX6_whom_54 : decode cX6_whom 54 = .ok (.iload_n 2, 1) := by decide +kernel
theorem dX6_whom_55 : decode cX6_whom 55 = .ok (.iload_n 1, 1) := by decide +kernel
theorem dX6_whom_56 : decode cX6_whom 56 = .ok (.iload 5, 2) := by decide +kernel
theorem dX6_whom_58 : decode cX6_whom 58 = .ok (.invokevirtual 192, 3) := by decide +kernel
theorem dX6_whom_61 : decode cX6_whom 61 = .ok (.iload_n 3, 1) := by decide +kernel
theorem dX6_whom_62 : decode cX6_whom 62 = .ok (.if_icmp .ne 12, 3) := by decide +kernel
theorem dX6_whom_65 : decode cX6_whom 65 = .ok (.iload 4, 2) := by decide +kernel
theorem dX6_whom_67 : decode cX6_whom 67 = .ok (.iconst 1, 1) := by decide +kernel
theorem dX6_whom_68 : decode cX6_whom 68 = .ok (.iload 5, 2) := by decide +kernel
theorem dX6_whom_70 : decode cX6_whom 70 = .ok (.ishl, 1) := by decide +kernel
theorem dX6_whom_71 : decode cX6_whom 71 = .ok (.ior, 1) := by decide +kernel
theorem dX6_whom_72 : decode cX6_whom 72 = .ok (.istore 4, 2) := by decide +kernel
theorem dX6_whom_74 : decode cX6_whom 74 = .ok (.iinc 5 1, 3) := by decide +kernel
theorem dX6_whom_77 : decode cX6_whom 77 = .ok (.goto (-34), 3) := by decide +kernel
theorem dX6_whom_80 : decode cX6_whom 80 = .ok (.iload 4, 2) := by decide +kernel
theorem dX6_whom_82 : decode cX6_whom 82 = .ok (.ireturn, 1) := by decide +kernel
theorem dX6_out_0 : decode cX6_out 0 = .ok (.aload_n 0, 1) := by decide +kernel
theorem dX6_out_1 : decode cX6_out 1 = .ok (.getfield 12, 3) := by decide +kernel
theorem dX6_out_4 : decode cX6_out 4 = .ok (.getfield 97, 3) := by decide +kernel
theorem dX6_out_7 : decode cX6_out 7 = .ok (.iconst 2, 1) := by decide +kernel
theorem dX6_out_8 : decode cX6_out 8 = .ok (.if_icmp .ge 6, 3) := by decide +kernel
theorem dX6_out_11 : decode cX6_out 11 = .ok (.bipush (-5), 2) := by decide +kernel
theorem dX6_out_13 : decode cX6_out 13 = .ok (.ireturn, 1) := by decide +kernel
theorem dX6_out_14 : decode cX6_out 14 = .ok (.aload_n 0, 1) := by decide +kernel
theorem dX6_out_15 : decode cX6_out 15 = .ok (.invokevirtual 114, 3) := by decide +kernel
theorem dX6_out_18 : decode cX6_out 18 = .ok (.pop, 1) := by decide +kernel
theorem dX6_out_19 : decode cX6_out 19 = .ok (.iconst (-1), 1) := by decide +kernel
theorem dX6_out_20 : decode cX6_out 20 = .ok (.istore_n 1, 1) := by decide +kernel
theorem dX6_out_21 : decode cX6_out 21 = .ok (.iconst 0, 1) := by decide +kernel
theorem dX6_out_22 : decode cX6_out 22 = .ok (.istore_n 2, 1) := by decide +kernel
theorem dX6_out_23 : decode cX6_out 23 = .ok (.iconst 0, 1) := by decide +kernel
theorem dX6_out_24 : decode cX6_out 24 = .ok (.istore_n 3, 1) := by decide +kernel
theorem dX6_out_25 : decode cX6_out 25 = .ok (.iload_n 3, 1) := by decide +kernel
theorem dX6_out_26 : decode cX6_out 26 = .ok (.aload_n 0, 1) := by decide +kernel
theorem dX6_out_27 : decode cX6_out 27 = .ok (.getfield 12, 3) := by decide +kernel
theorem dX6_out_30 : decode cX6_out 30 = .ok (.getfield 97, 3) := by decide +kernel
theorem dX6_out_33 : decode cX6_out 33 = .ok (.if_icmp .ge 35, 3) := by decide +kernel
theorem dX6_out_36 : decode cX6_out 36 = .ok (.aload_n 0, 1) := by decide +kernel
theorem dX6_out_37 : decode cX6_out 37 = .ok (.getfield 58, 3) := by decide +kernel
theorem dX6_out_40 : decode cX6_out 40 = .ok (.iload_n 3, 1) := by decide +kernel
theorem dX6_out_41 : decode cX6_out 41 = .ok (.invokevirtual 196, 3) := by decide +kernel
theorem dX6_out_44 : decode cX6_out 44 = .ok (.istore 4, 2) := by decide +kernel
theorem dX6_out_46 : decode cX6_out 46 = .ok (.iload_n 1, 1) := by decide +kernel
theorem dX6_out_47 : decode cX6_out 47 = .ok (.iconst (-1), 1) := by decide +kernel
theorem dX6_out_48 : decode cX6_out 48 = .ok (.if_icmp .eq 9, 3) := by decide +kernel
theorem dX6_out_51 : decode cX6_out 51 = .ok (.iload 4, 2) := by decide +kernel
theorem dX6_out_53 : decode cX6_out 53 = .ok (.iload_n 2, 1) := by decide +kernel
theorem dX6_out_54 : decode cX6_out 54 = .ok (.if_icmp .ge 8, 3) := by decide +kernel
theorem dX6_out_57 : decode cX6_out 57 = .ok (.iload_n 3, 1) := by decide +kernel
theorem dX6_out_58 : decode cX6_out 58 = .ok (.istore_n 1, 1) := by decide +kernel
theorem dX6_out_59 : decode cX6_out 59 = .ok (.iload 4, 2) := by decide +kernel
theorem dX6_out_61 : decode cX6_out 61 = .ok (.istore_n 2, 1) := by decide +kernel
theorem dX6_out_62 : decode cX6_out 62 = .ok (.iinc 3 1, 3) := by decide +kernel
theorem dX6_out_65 : decode cX6_out 65 = .ok (.goto (-40), 3) := by decide +kernel
theorem dX6_out_68 : decode cX6_out 68 = .ok (.iload_n 1, 1) := by decide +kernel
theorem dX6_out_69 : decode cX6_out 69 = .ok (.ireturn, 1) := by decide +kernel
theorem dX6_act_0 : decode cX6_act 0 = .ok (.aload_n 0, 1) := by decide +kernel
theorem dX6_act_1 : decode cX6_act 1 = .ok (.getfield 41, 3) := by decide +kernel
theorem dX6_act_4 : decode cX6_act 4 = .ok (.iconst 0, 1) := by decide +kernel
theorem dX6_act_5 : decode cX6_act 5 = .ok (.putfield 199, 3) := by decide +kernel
theorem dX6_act_8 : decode cX6_act 8 = .ok (.aload_n 0, 1) := by decide +kernel
theorem dX6_act_9 : decode cX6_act 9 = .ok (.iload_n 1, 1) := by decide +kernel
theorem dX6_act_10 : decode cX6_act 10 = .ok (.invokevirtual 110, 3) := by decide +kernel
theorem dX6_act_13 : decode cX6_act 13 = .ok (.ifCond .eq 11, 3) := by decide +kernel
theorem dX6_act_16 : decode cX6_act 16 = .ok (.iload_n 2, 1) := by decide +kernel
theorem dX6_act_17 : decode cX6_act 17 = .ok (.iconst 3, 1) := by decide +kernel
theorem dX6_act_18 : decode cX6_act 18 = .ok (.invokestatic 89, 3) := by decide +kernel
theorem dX6_act_21 : decode cX6_act 21 = .ok (.ifCond .ne 5, 3) := by decide +kernel
theorem dX6_act_24 : decode cX6_act 24 = .ok (.iconst 0, 1) := by decide +kernel
theorem dX6_act_25 : decode cX6_act 25 = .ok (.ireturn, 1) := by decide +kernel
theorem dX6_act_26 : decode cX6_act 26 = .ok (.aload_n 0, 1) := by decide +kernel
theorem dX6_act_27 : decode cX6_act 27 = .ok (.getfield 41, 3) := by decide +kernel
theorem dX6_act_30 : decode cX6_act 30 = .ok (.aload_n 0, 1) := by decide +kernel
theorem dX6_act_31 : decode cX6_act 31 = .ok (.getfield 12, 3) := by decide +kernel
theorem dX6_act_34 : decode cX6_act 34 = .ok (.getfield 100, 3) := by decide +kernel
theorem dX6_act_37 : decode cX6_act 37 = .ok (.iload_n 1, 1) := by decide +kernel
theorem dX6_act_38 : decode cX6_act 38 = .ok (.iaload, 1) := by decide +kernel
theorem dX6_act_39 : decode cX6_act 39 = .ok (.putfield 202, 3) := by decide +kernel
theorem dX6_act_42 : decode cX6_act 42 = .ok (.aload_n 0, 1) := by decide +kernel
theorem dX6_act_43 : decode cX6_act 43 = .ok (.getfield 41, 3) := by decide +kernel
theorem dX6_act_46 : decode cX6_act 46 = .ok (.iload_n 1, 1) := by decide +kernel
theorem dX6_act_47 : decode cX6_act 47 = .ok (.putfield 204, 3) := by decide +kernel
theorem dX6_act_50 : decode cX6_act 50 = .ok (.aload_n 0, 1) := by decide +kernel
theorem dX6_act_51 : decode cX6_act 51 = .ok (.getfield 41, 3) := by decide +kernel
theorem dX6_act_54 : decode cX6_act 54 = .ok (.aload_n 0, 1) := by decide +kernel
theorem dX6_act_55 : decode cX6_act 55 = .ok (.getfield 12, 3) := by decide +kernel
theorem dX6_act_58 : decode cX6_act 58 = .ok (.getfield 104, 3) := by decide +kernel
theorem dX6_act_61 : decode cX6_act 61 = .ok (.iload_n 1, 1) := by decide +kernel
theorem dX6_act_62 : decode cX6_act 62 = .ok (.iaload, 1) := by decide +kernel
theorem dX6_act_63 : decode cX6_act 63 = .ok (.putfield 207, 3) := by decide +kernel
theorem dX6_act_66 : decode cX6_act 66 = .ok (.aload_n 0, 1) := by decide +kernel
theorem dX6_act_67 : decode cX6_act 67 = .ok (.getfield 41, 3) := by decide +kernel
theorem dX6_act_70 : decode cX6_act 70 = .ok (.aload_n 0, 1) := by decide +kernel
theorem dX6_act_71 : decode cX6_act 71 = .ok (.getfield 41, 3) := by decide +kernel
theorem dX6_act_74 : decode cX6_act 74 = .ok (.getfield 202, 3) := by decide +kernel
theorem dX6_act_77 : decode cX6_act 77 = .ok (.iload_n 2, 1) := by decide +kernel
theorem dX6_act_78 : decode cX6_act 78 = .ok (.iload_n 3, 1) := by decide +kernel
theorem dX6_act_79 : decode cX6_act 79 = .ok (.iconst 0, 1) := by decide +kernel
theorem dX6_act_80 : decode cX6_act 80 = .ok (.invokevirtual 209, 3) := by decide +kernel
theorem dX6_act_83 : decode cX6_act 83 = .ok (.ireturn, 1) := by decide +kernel
theorem dX6_trace_0 : decode cX6_trace 0 = .ok (.iload_n 1, 1) := by decide +kernel
theorem dX6_trace_1 : decode cX6_trace 1 = .ok (.ifCond .lt 20, 3) := by decide +kernel
theorem dX6_trace_4 : decode cX6_trace 4 = .ok (.iload_n 1, 1) := by decide +kernel
theorem dX6_trace_5 : decode cX6_trace 5 = .ok (.aload_n 0, 1) := by decide +kernel
theorem dX6_trace_6 : decode cX6_trace 6 = .ok (.getfield 41, 3) := by decide +kernel
theorem dX6_trace_9 : decode cX6_trace 9 = .ok (.getfield 199, 3) := by decide +kernel
theorem dX6_trace_12 : decode cX6_trace 12 = .ok (.if_icmp .ge 9, 3) := by decide +kernel
theorem dX6_trace_15 : decode cX6_trace 15 = .ok (.iload_n 1, 1) := by decide +kernel
theorem dX6_trace_16 : decode cX6_trace 16 = .ok (.bipush 20, 2) := by decide +kernel
theorem dX6_trace_18 : decode cX6_trace 18 = .ok (.if_icmp .lt 5, 3) := by decide +kernel
theorem dX6_trace_21 : decode cX6_trace 21 = .ok (.iconst (-1), 1) := by decide +kernel
theorem dX6_trace_22 : decode cX6_trace 22 = .ok (.ireturn, 1) := by decide +kernel
theorem dX6_trace_23 : decode cX6_trace 23 = .ok (.aload_n 0, 1) := by decide +kernel
theorem dX6_trace_24 : decode cX6_trace 24 = .ok (.getfield 41, 3) := by decide +kernel
theorem dX6_trace_27 : decode cX6_trace 27 = .ok (.getfield 213, 3) := by decide +kernel
theorem dX6_trace_30 : decode cX6_trace 30 = .ok (.iload_n 1, 1) := by decide +kernel
theorem dX6_trace_31 : decode cX6_trace 31 = .ok (.iaload, 1) := by decide +kernel
theorem dX6_trace_32 : decode cX6_trace 32 = .ok (.ireturn, 1) := by decide +kernel
theorem dX6_as_0 : decode cX6_as 0 = .ok (.aload_n 0, 1) := by decide +kernel
theorem dX6_as_1 : decode cX6_as 1 = .ok (.iload_n 1, 1) := by decide +kernel
theorem dX6_as_2 : decode cX6_as 2 = .ok (.invokevirtual 110, 3) := by decide +kernel
theorem dX6_as_5 : decode cX6_as 5 = .ok (.ifCond .eq 12, 3) := by decide +kernel
theorem dX6_as_8 : decode cX6_as 8 = .ok (.iload_n 2, 1) := by decide +kernel
theorem dX6_as_9 : decode cX6_as 9 = .ok (.bipush 7, 2) := by decide +kernel
theorem dX6_as_11 : decode cX6_as 11 = .ok (.invokestatic 89, 3) := by decide +kernel
theorem dX6_as_14 : decode cX6_as 14 = .ok (.ifCond .ne 5, 3) := by decide +kernel
theorem dX6_as_17 : decode cX6_as 17 = .ok (.iconst (-1), 1) := by decide +kernel
theorem dX6_as_18 : decode cX6_as 18 = .ok (.ireturn, 1) := by decide +kernel
theorem dX6_as_19 : decode cX6_as 19 = .ok (.aload_n 0, 1) := by decide +kernel
theorem dX6_as_20 : decode cX6_as 20 = .ok (.getfield 12, 3) := by decide +kernel
theorem dX6_as_23 : decode cX6_as 23 = .ok (.getfield 100, 3) := by decide +kernel
theorem dX6_as_26 : decode cX6_as 26 = .ok (.iload_n 1, 1) := by decide +kernel
theorem dX6_as_27 : decode cX6_as 27 = .ok (.iaload, 1) := by decide +kernel
theorem dX6_as_28 : decode cX6_as 28 = .ok (.iload_n 2, 1) := by decide +kernel
theorem dX6_as_29 : decode cX6_as 29 = .ok (.invokestatic 216, 3) := by decide +kernel
theorem dX6_as_32 : decode cX6_as 32 = .ok (.ifCond .eq 15, 3) := by decide +kernel
theorem dX6_as_35 : decode cX6_as 35 = .ok (.aload_n 0, 1) := by decide +kernel
theorem dX6_as_36 : decode cX6_as 36 = .ok (.getfield 12, 3) := by decide +kernel
theorem dX6_as_39 : decode cX6_as 39 = .ok (.getfield 104, 3) := by decide +kernel
theorem dX6_as_42 : decode cX6_as 42 = .ok (.iload_n 1, 1) := by decide +kernel
theorem dX6_as_43 : decode cX6_as 43 = .ok (.iaload, 1) := by decide +kernel
theorem dX6_as_44 : decode cX6_as 44 = .ok (.goto 5, 3) := by decide +kernel
theorem dX6_as_47 : decode cX6_as 47 = .ok (.bipush (-6), 2) := by decide +kernel
theorem dX6_as_49 : decode cX6_as 49 = .ok (.ireturn, 1) := by decide +kernel
theorem dX6_image_0 : decode cX6_image 0 = .ok (.aload_n 0, 1) := by decide +kernel
theorem dX6_image_1 : decode cX6_image 1 = .ok (.getfield 16, 3) := by decide +kernel
theorem dX6_image_4 : decode cX6_image 4 = .ok (.aload_n 0, 1) := by decide +kernel
theorem dX6_image_5 : decode cX6_image 5 = .ok (.getfield 12, 3) := by decide +kernel
theorem dX6_image_8 : decode cX6_image 8 = .ok (.invokevirtual 219, 3) := by decide +kernel
theorem dX6_image_11 : decode cX6_image 11 = .ok (.aload_n 0, 1) := by decide +kernel
theorem dX6_image_12 : decode cX6_image 12 = .ok (.iconst 1, 1) := by decide +kernel
theorem dX6_image_13 : decode cX6_image 13 = .ok (.putfield 19, 3) := by decide +kernel
theorem dX6_image_16 : decode cX6_image 16 = .ok (.aload_n 0, 1) := by decide +kernel
theorem dX6_image_17 : decode cX6_image 17 = .ok (.getfield 12, 3) := by decide +kernel
theorem dX6_image_20 : decode cX6_image 20 = .ok (.getfield 97, 3) := by decide +kernel
theorem dX6_image_23 : decode cX6_image 23 = .ok (.ireturn, 1) := by decide +kernel
theorem dX6_undo_0 : decode cX6_undo 0 = .ok (.aload_n 0, 1) := by decide +kernel
theorem dX6_undo_1 : decode cX6_undo 1 = .ok (.getfield 19, 3) := by decide +kernel
theorem dX6_undo_4 : decode cX6_undo 4 = .ok (.ifCond .ne 6, 3) := by decide +kernel
theorem dX6_undo_7 : decode cX6_undo 7 = .ok (.bipush (-3), 2) := by decide +kernel
theorem dX6_undo_9 : decode cX6_undo 9 = .ok (.ireturn, 1) := by decide +kernel
theorem dX6_undo_10 : decode cX6_undo 10 = .ok (.aload_n 0, 1) := by decide +kernel
theorem dX6_undo_11 : decode cX6_undo 11 = .ok (.getfield 12, 3) := by decide +kernel
theorem dX6_undo_14 : decode cX6_undo 14 = .ok (.aload_n 0, 1) := by decide +kernel
theorem dX6_undo_15 : decode cX6_undo 15 = .ok (.getfield 16, 3) := by decide +kernel
theorem dX6_undo_18 : decode cX6_undo 18 = .ok (.invokevirtual 219, 3) := by decide +kernel
theorem dX6_undo_21 : decode cX6_undo 21 = .ok (.aload_n 0, 1) := by decide +kernel
theorem dX6_undo_22 : decode cX6_undo 22 = .ok (.getfield 12, 3) := by decide +kernel
theorem dX6_undo_25 : decode cX6_undo 25 = .ok (.getfield 97, 3) := by decide +kernel
theorem dX6_undo_28 : decode cX6_undo 28 = .ok (.ireturn, 1) := by decide +kernel
theorem dX6_count_0 : decode cX6_count 0 = .ok (.iload_n 1, 1) := by decide +kernel
theorem dX6_count_1 : decode cX6_count 1 = .ok (.tableswitch 99 0 6 #[43, 51, 59, 67, 75, 83, 91], 43) := by decide +kernel
theorem dX6_count_44 : decode cX6_count 44 = .ok (.aload_n 0, 1) := by decide +kernel
theorem dX6_count_45 : decode cX6_count 45 = .ok (.getfield 12, 3) := by decide +kernel
theorem dX6_count_48 : decode cX6_count 48 = .ok (.getfield 97, 3) := by decide +kernel
theorem dX6_count_51 : decode cX6_count 51 = .ok (.ireturn, 1) := by decide +kernel
theorem dX6_count_52 : decode cX6_count 52 = .ok (.aload_n 0, 1) := by decide +kernel
theorem dX6_count_53 : decode cX6_count 53 = .ok (.getfield 12, 3) := by decide +kernel
theorem dX6_count_56 : decode cX6_count 56 = .ok (.getfield 70, 3) := by decide +kernel
theorem dX6_count_59 : decode cX6_count 59 = .ok (.ireturn, 1) := by decide +kernel
theorem dX6_count_60 : decode cX6_count 60 = .ok (.aload_n 0, 1) := by decide +kernel
theorem dX6_count_61 : decode cX6_count 61 = .ok (.getfield 12, 3) := by decide +kernel
theorem dX6_count_64 : decode cX6_count 64 = .ok (.getfield 154, 3) := by decide +kernel
theorem dX6_count_67 : decode cX6_count 67 = .ok (.ireturn, 1) := by decide +kernel
theorem dX6_count_68 : decode cX6_count 68 = .ok (.aload_n 0, 1) := by decide +kernel
theorem dX6_count_69 : decode cX6_count 69 = .ok (.getfield 12, 3) := by decide +kernel
theorem dX6_count_72 : decode cX6_count 72 = .ok (.getfield 186, 3) := by decide +kernel
theorem dX6_count_75 : decode cX6_count 75 = .ok (.ireturn, 1) := by decide +kernel
theorem dX6_count_76 : decode cX6_count 76 = .ok (.aload_n 0, 1) := by decide +kernel
theorem dX6_count_77 : decode cX6_count 77 = .ok (.getfield 12, 3) := by decide +kernel
theorem dX6_count_80 : decode cX6_count 80 = .ok (.getfield 62, 3) := by decide +kernel
theorem dX6_count_83 : decode cX6_count 83 = .ok (.ireturn, 1) := by decide +kernel
theorem dX6_count_84 : decode cX6_count 84 = .ok (.aload_n 0, 1) := by decide +kernel
theorem dX6_count_85 : decode cX6_count 85 = .ok (.getfield 41, 3) := by decide +kernel
theorem dX6_count_88 : decode cX6_count 88 = .ok (.getfield 199, 3) := by decide +kernel
theorem dX6_count_91 : decode cX6_count 91 = .ok (.ireturn, 1) := by decide +kernel
theorem dX6_count_92 : decode cX6_count 92 = .ok (.aload_n 0, 1) := by decide +kernel
theorem dX6_count_93 : decode cX6_count 93 = .ok (.getfield 12, 3) := by decide +kernel
theorem dX6_count_96 : decode cX6_count 96 = .ok (.getfield 127, 3) := by decide +kernel
theorem dX6_count_99 : decode cX6_count 99 = .ok (.ireturn, 1) := by decide +kernel
theorem dX6_count_100 : decode cX6_count 100 = .ok (.iconst (-1), 1) := by decide +kernel
theorem dX6_count_101 : decode cX6_count 101 = .ok (.ireturn, 1) := by decide +kernel
theorem dX6_isPlayer_0 : decode cX6_isPlayer 0 = .ok (.iload_n 1, 1) := by decide +kernel
theorem dX6_isPlayer_1 : decode cX6_isPlayer 1 = .ok (.aload_n 0, 1) := by decide +kernel
theorem dX6_isPlayer_2 : decode cX6_isPlayer 2 = .ok (.getfield 12, 3) := by decide +kernel
theorem dX6_isPlayer_5 : decode cX6_isPlayer 5 = .ok (.getfield 97, 3) := by decide +kernel
theorem dX6_isPlayer_8 : decode cX6_isPlayer 8 = .ok (.invokestatic 89, 3) := by decide +kernel
theorem dX6_isPlayer_11 : decode cX6_isPlayer 11 = .ok (.ireturn, 1) := by decide +kernel
theorem dX6_held_0 : decode cX6_held 0 = .ok (.aload_n 0, 1) := by decide +kernel
theorem dX6_held_1 : decode cX6_held 1 = .ok (.getfield 25, 3) := by decide +kernel
theorem dX6_held_4 : decode cX6_held 4 = .ok (.aload_n 0, 1) := by decide +kernel
theorem dX6_held_5 : decode cX6_held 5 = .ok (.getfield 12, 3) := by decide +kernel
theorem dX6_held_8 : decode cX6_held 8 = .ok (.getfield 70, 3) := by decide +kernel
theorem dX6_held_11 : decode cX6_held 11 = .ok (.aaload, 1) := by decide +kernel
theorem dX6_held_12 : decode cX6_held 12 = .ok (.areturn, 1) := by decide +kernel
theorem dX6_listen_0 : decode cX6_listen 0 = .ok (.aload_n 0, 1) := by decide +kernel
theorem dX6_listen_1 : decode cX6_listen 1 = .ok (.getfield 58, 3) := by decide +kernel
theorem dX6_listen_4 : decode cX6_listen 4 = .ok (.aload_n 0, 1) := by decide +kernel
theorem dX6_listen_5 : decode cX6_listen 5 = .ok (.invokevirtual 76, 3) := by decide +kernel
theorem dX6_listen_8 : decode cX6_listen 8 = .ok (.invokevirtual 222, 3) := by decide +kernel
theorem dX6_listen_11 : decode cX6_listen 11 = .ok (.aload_n 0, 1) := by decide +kernel
theorem dX6_listen_12 : decode cX6_listen 12 = .ok (.getfield 58, 3) := by decide +kernel
theorem dX6_listen_15 : decode cX6_listen 15 = .ok (.areturn, 1) := by decide +kernel
theorem dX6_findWay_0 : decode cX6_findWay 0 = .ok (.aload_n 0, 1) := by decide +kernel
theorem dX6_findWay_1 : decode cX6_findWay 1 = .ok (.getfield 12, 3) := by decide +kernel
theorem dX6_findWay_4 : decode cX6_findWay 4 = .ok (.invokevirtual 176, 3) := by decide +kernel
theorem dX6_findWay_7 : decode cX6_findWay 7 = .ok (.ifCond .eq 6, 3) := by decide +kernel
theorem dX6_findWay_10 : decode cX6_findWay 10 = .ok (.bipush (-5), 2) := by decide +kernel
theorem dX6_findWay_12 : decode cX6_findWay 12 = .ok (.ireturn, 1) := by decide +kernel
theorem dX6_findWay_13 : decode cX6_findWay 13 = .ok (.aload_n 0, 1) := by decide +kernel
theorem dX6_findWay_14 : decode cX6_findWay 14 = .ok (.getfield 12, 3) := by decide +kernel
theorem dX6_findWay_17 : decode cX6_findWay 17 = .ok (.getfield 97, 3) := by decide +kernel
theorem dX6_findWay_20 : decode cX6_findWay 20 = .ok (.bipush 6, 2) := by decide +kernel
theorem dX6_findWay_22 : decode cX6_findWay 22 = .ok (.if_icmp .le 6, 3) := by decide +kernel
theorem dX6_findWay_25 : decode cX6_findWay 25 = .ok (.bipush (-9), 2) := by decide +kernel
theorem dX6_findWay_27 : decode cX6_findWay 27 = .ok (.ireturn, 1) := by decide +kernel
theorem dX6_findWay_28 : decode cX6_findWay 28 = .ok (.aload_n 0, 1) := by decide +kernel
theorem dX6_findWay_29 : decode cX6_findWay 29 = .ok (.getfield 34, 3) := by decide +kernel
theorem dX6_findWay_32 : decode cX6_findWay 32 = .ok (.invokevirtual 226, 3) := by decide +kernel
theorem dX6_findWay_35 : decode cX6_findWay 35 = .ok (.iconst 0, 1) := by decide +kernel
theorem dX6_findWay_36 : decode cX6_findWay 36 = .ok (.ireturn, 1) := by decide +kernel
theorem dX6_isBelow_0 : decode cX6_isBelow 0 = .ok (.iload_n 0, 1) := by decide +kernel
theorem dX6_isBelow_1 : decode cX6_isBelow 1 = .ok (.ifCond .lt 12, 3) := by decide +kernel
theorem dX6_isBelow_4 : decode cX6_isBelow 4 = .ok (.iload_n 0, 1) := by decide +kernel
theorem dX6_isBelow_5 : decode cX6_isBelow 5 = .ok (.iload_n 1, 1) := by decide +kernel
theorem dX6_isBelow_6 : decode cX6_isBelow 6 = .ok (.if_icmp .ge 7, 3) := by decide +kernel
theorem dX6_isBelow_9 : decode cX6_isBelow 9 = .ok (.iconst 1, 1) := by decide +kernel
theorem dX6_isBelow_10 : decode cX6_isBelow 10 = .ok (.goto 4, 3) := by decide +kernel
theorem dX6_isBelow_13 : decode cX6_isBelow 13 = .ok (.iconst 0, 1) := by decide +kernel
theorem dX6_isBelow_14 : decode cX6_isBelow 14 = .ok (.ireturn, 1) := by decide +kernel
theorem dX6_rowOf_0 : decode cX6_rowOf 0 = .ok (.iload_n 0, 1) := by decide +kernel
theorem dX6_rowOf_1 : decode cX6_rowOf 1 = .ok (.iconst 3, 1) := by decide +kernel
theorem dX6_rowOf_2 : decode cX6_rowOf 2 = .ok (.ishr, 1) := by decide +kernel
theorem dX6_rowOf_3 : decode cX6_rowOf 3 = .ok (.ireturn, 1) := by decide +kernel
theorem dX6_columnOf_0 : decode cX6_columnOf 0 = .ok (.iload_n 0, 1) := by decide +kernel
theorem dX6_columnOf_1 : decode cX6_columnOf 1 = .ok (.bipush 7, 2) := by decide +kernel
theorem dX6_columnOf_3 : decode cX6_columnOf 3 = .ok (.iand, 1) := by decide +kernel
theorem dX6_columnOf_4 : decode cX6_columnOf 4 = .ok (.ireturn, 1) := by decide +kernel
theorem dX6_placeOfSeat_0 : decode cX6_placeOfSeat 0 = .ok (.iload_n 0, 1) := by decide +kernel
theorem dX6_placeOfSeat_1 : decode cX6_placeOfSeat 1 = .ok (.bipush 8, 2) := by decide +kernel
theorem dX6_placeOfSeat_3 : decode cX6_placeOfSeat 3 = .ok (.isub, 1) := by decide +kernel
theorem dX6_placeOfSeat_4 : decode cX6_placeOfSeat 4 = .ok (.ireturn, 1) := by decide +kernel
theorem dX6_far_0 : decode cX6_far 0 = .ok (.iload_n 0, 1) := by decide +kernel
theorem dX6_far_1 : decode cX6_far 1 = .ok (.invokestatic 229, 3) := by decide +kernel
theorem dX6_far_4 : decode cX6_far 4 = .ok (.iload_n 1, 1) := by decide +kernel
theorem dX6_far_5 : decode cX6_far 5 = .ok (.invokestatic 229, 3) := by decide +kernel
theorem dX6_far_8 : decode cX6_far 8 = .ok (.isub, 1) := by decide +kernel
theorem dX6_far_9 : decode cX6_far 9 = .ok (.invokestatic 232, 3) := by decide +kernel
theorem dX6_far_12 : decode cX6_far 12 = .ok (.iload_n 0, 1) := by decide +kernel
theorem dX6_far_13 : decode cX6_far 13 = .ok (.invokestatic 235, 3) := by decide +kernel
theorem dX6_far_16 : decode cX6_far 16 = .ok (.iload_n 1, 1) := by decide +kernel
theorem dX6_far_17 : decode cX6_far 17 = .ok (.invokestatic 235, 3) := by decide +kernel
theorem dX6_far_20 : decode cX6_far 20 = .ok (.isub, 1) := by decide +kernel
theorem dX6_far_21 : decode cX6_far 21 = .ok (.invokestatic 232, 3) := by decide +kernel
theorem dX6_far_24 : decode cX6_far 24 = .ok (.invokestatic 149, 3) := by decide +kernel
theorem dX6_far_27 : decode cX6_far 27 = .ok (.ireturn, 1) := by decide +kernel
theorem dX6_isUnder_0 : decode cX6_isUnder 0 = .ok (.iload_n 0, 1) := by decide +kernel
theorem dX6_isUnder_1 : decode cX6_isUnder 1 = .ok (.istore_n 2, 1) := by decide +kernel
theorem dX6_isUnder_2 : decode cX6_isUnder 2 = .ok (.iconst 0, 1) := by decide +kernel
theorem dX6_isUnder_3 : decode cX6_isUnder 3 = .ok (.istore_n 3, 1) := by decide +kernel
theorem dX6_isUnder_4 : decode cX6_isUnder 4 = .ok (.iload_n 3, 1) := by decide +kernel
theorem dX6_isUnder_5 : decode cX6_isUnder 5 = .ok (.bipush 7, 2) := by decide +kernel
theorem dX6_isUnder_7 : decode cX6_isUnder 7 = .ok (.if_icmp .ge 27, 3) := by decide +kernel
theorem dX6_isUnder_10 : decode cX6_isUnder 10 = .ok (.iload_n 2, 1) := by decide +kernel
theorem dX6_isUnder_11 : decode cX6_isUnder 11 = .ok (.iconst (-1), 1) := by decide +kernel
theorem dX6_isUnder_12 : decode cX6_isUnder 12 = .ok (.if_icmp .eq 22, 3) := by decide +kernel
theorem dX6_isUnder_15 : decode cX6_isUnder 15 = .ok (.iload_n 2, 1) := by decide +kernel
theorem dX6_isUnder_16 : decode cX6_isUnder 16 = .ok (.iload_n 1, 1) := by decide +kernel
theorem dX6_isUnder_17 : decode cX6_isUnder 17 = .ok (.if_icmp .ne 5, 3) := by decide +kernel
theorem dX6_isUnder_20 : decode cX6_isUnder 20 = .ok (.iconst 1, 1) := by decide +kernel
theorem dX6_isUnder_21 : decode cX6_isUnder 21 = .ok (.ireturn, 1) := by decide +kernel
theorem dX6_isUnder_22 : decode cX6_isUnder 22 = .ok (.getstatic 238, 3) := by decide +kernel
theorem dX6_isUnder_25 : decode cX6_isUnder 25 = .ok (.iload_n 2, 1) := by decide +kernel
theorem dX6_isUnder_26 : decode cX6_isUnder 26 = .ok (.iaload, 1) := by decide +kernel
theorem dX6_isUnder_27 : decode cX6_isUnder 27 = .ok (.istore_n 2, 1) := by decide +kernel
theorem dX6_isUnder_28 : decode cX6_isUnder 28 = .ok (.iinc 3 1, 3) := by decide +kernel
theorem dX6_isUnder_31 : decode cX6_isUnder 31 = .ok (.goto (-27), 3) := by decide +kernel
theorem dX6_isUnder_34 : decode cX6_isUnder 34 = .ok (.iconst 0, 1) := by decide +kernel
theorem dX6_isUnder_35 : decode cX6_isUnder 35 = .ok (.ireturn, 1) := by decide +kernel
end
section
theorem dX7_init_0 : decode cX7_init 0 = .ok (.aload_n 0, 1) := by decide +kernel
theorem dX7_init_1 : decode cX7_init 1 = .ok (.invokespecial 1, 3) := by decide +kernel
theorem dX7_init_4 : decode cX7_init 4 = .ok (.aload_n 0, 1) := by decide +kernel
theorem dX7_init_5 : decode cX7_init 5 = .ok (.sipush 900, 3) := by decide +kernel
theorem dX7_init_8 : decode cX7_init 8 = .ok (.newarray .int, 2) := by decide +kernel
theorem dX7_init_10 : decode cX7_init 10 = .ok (.putfield 7, 3) := by decide +kernel
theorem dX7_init_13 : decode cX7_init 13 = .ok (.aload_n 0, 1) := by decide +kernel
theorem dX7_init_14 : decode cX7_init 14 = .ok (.sipush 900, 3) := by decide +kernel
theorem dX7_init_17 : decode cX7_init 17 = .ok (.newarray .int, 2) := by decide +kernel
theorem dX7_init_19 : decode cX7_init 19 = .ok (.putfield 13, 3) := by decide +kernel
theorem dX7_init_22 : decode cX7_init 22 = .ok (.aload_n 0, 1) := by decide +kernel
theorem dX7_init_23 : decode cX7_init 23 = .ok (.iconst 5, 1) := by decide +kernel
theorem dX7_init_24 : decode cX7_init 24 = .ok (.newarray .int, 2) := by decide +kernel
theorem dX7_init_26 : decode cX7_init 26 = .ok (.putfield 16, 3) := by decide +kernel
theorem dX7_init_29 : decode cX7_init 29 = .ok (.aload_n 0, 1) := by decide +kernel
theorem dX7_init_30 : decode cX7_init 30 = .ok (.bipush 64, 2) := by decide +kernel
theorem dX7_init_32 : decode cX7_init 32 = .ok (.newarray .boolean, 2) := by decide +kernel
theorem dX7_init_34 : decode cX7_init 34 = .ok (.putfield 19, 3) := by decide +kernel
theorem dX7_init_37 : decode cX7_init 37 = .ok (.aload_n 0, 1) := by decide +kernel
theorem dX7_init_38 : decode cX7_init 38 = .ok (.iconst (-1), 1) := by decide +kernel
theorem dX7_init_39 : decode cX7_init 39 = .ok (.putfield 23, 3) := by decide +kernel
theorem dX7_init_42 : decode cX7_init 42 = .ok (.aload_n 0, 1) := by decide +kernel
theorem dX7_init_43 : decode cX7_init 43 = .ok (.bipush 10, 2) := by decide +kernel
theorem dX7_init_45 : decode cX7_init 45 = .ok (.newarray .int, 2) := by decide +kernel
theorem dX7_init_47 : decode cX7_init 47 = .ok (.putfield 27, 3) := by decide +kernel
theorem dX7_init_50 : decode cX7_init 50 = .ok (.aload_n 0, 1) := by decide +kernel
theorem dX7_init_51 : decode cX7_init 51 = .ok (.bipush 10, 2) := by decide +kernel
theorem dX7_init_53 : decode cX7_init 53 = .ok (.newarray .int, 2) := by decide +kernel
theorem dX7_init_55 : decode cX7_init 55 = .ok (.putfield 30, 3) := by decide +kernel
theorem dX7_init_58 : decode cX7_init 58 = .ok (.aload_n 0, 1) := by decide +kernel
theorem dX7_init_59 : decode cX7_init 59 = .ok (.bipush 20, 2) := by decide +kernel
theorem dX7_init_61 : decode cX7_init 61 = .ok (.newarray .int, 2) := by decide +kernel
theorem dX7_init_63 : decode cX7_init 63 = .ok (.putfield 33, 3) := by decide +kernel
theorem dX7_init_66 : decode cX7_init 66 = .ok (.aload_n 0, 1) := by decide +kernel
theorem dX7_init_67 : decode cX7_init 67 = .ok (.getfield 7, 3) := by decide +kernel
theorem dX7_init_70 : decode cX7_init 70 = .ok (.iconst 5, 1) := by decide +kernel
theorem dX7_init_71 : decode cX7_init 71 = .ok (.bipush 60, 2) := by decide +kernel
theorem dX7_init_73 : decode cX7_init 73 = .ok (.iastore, 1) := by decide +kernel
theorem dX7_init_74 : decode cX7_init 74 = .ok (.aload_n 0, 1) := by decide +kernel
theorem dX7_init_75 : decode cX7_init 75 = .ok (.getfield 7, 3) := by decide +kernel
theorem dX7_init_78 : decode cX7_init 78 = .ok (.bipush 6, 2) := by decide +kernel
theorem dX7_init_80 : decode cX7_init 80 = .ok (.iconst (-1), 1) := by decide +kernel
theorem dX7_init_81 : decode cX7_init 81 = .ok (.iastore, 1) := by decide +kernel
theorem dX7_init_82 : decode cX7_init 82 = .ok (.return_, 1) := by decide +kernel
theorem dX7_in_0 : decode cX7_in 0 = .ok (.iload_n 0, 1) := by decide +kernel
theorem dX7_in_1 : decode cX7_in 1 = .ok (.iload_n 1, 1) := by decide +kernel
theorem dX7_in_2 : decode cX7_in 2 = .ok (.if_icmp .lt 12, 3) := by decide +kernel
theorem dX7_in_5 : decode cX7_in 5 = .ok (.iload_n 0, 1) := by decide +kernel
theorem dX7_in_6 : decode cX7_in 6 = .ok (.iload_n 2, 1) := by decide +kernel
theorem dX7_in_7 : decode cX7_in 7 = .ok (.if_icmp .gt 7, 3) := by decide +kernel
theorem dX7_in_10 : decode cX7_in 10 = .ok (.iconst 1, 1) := by decide +kernel
theorem dX7_in_11 : decode cX7_in 11 = .ok (.goto 4, 3) := by decide +kernel
theorem dX7_in_14 : decode cX7_in 14 = .ok (.iconst 0, 1) := by decide +kernel
theorem dX7_in_15 : decode cX7_in 15 = .ok (.ireturn, 1) := by decide +kernel
theorem dX7_size_0 : decode cX7_size 0 = .ok (.iload_n 0, 1) := by decide +kernel
theorem dX7_size_1 : decode cX7_size 1 = .ok (.ifCond .ge 8, 3) := by decide +kernel
theorem dX7_size_4 : decode cX7_size 4 = .ok (.iload_n 0, 1) := by decide +kernel
theorem dX7_size_5 : decode cX7_size 5 = .ok (.ineg, 1) := by decide +kernel
theorem dX7_size_6 : decode cX7_size 6 = .ok (.goto 4, 3) := by decide +kernel
theorem dX7_size_9 : decode cX7_size 9 = .ok (.iload_n 0, 1) := by decide +kernel
theorem dX7_size_10 : decode cX7_size 10 = .ok (.ireturn, 1) := by decide +kernel
theorem dX7_isDot_0 : decode cX7_isDot 0 = .ok (.iload_n 0, 1) := by decide +kernel
theorem dX7_isDot_1 : decode cX7_isDot 1 = .ok (.iconst 0, 1) := by decide +kernel
theorem dX7_isDot_2 : decode cX7_isDot 2 = .ok (.bipush 63, 2) := by decide +kernel
theorem dX7_isDot_4 : decode cX7_isDot 4 = .ok (.invokestatic 39, 3) := by decide +kernel
theorem dX7_isDot_7 : decode cX7_isDot 7 = .ok (.ireturn, 1) := by decide +kernel
theorem dX7_isSeat_0 : decode cX7_isSeat 0 = .ok (.iload_n 0, 1) := by decide +kernel
theorem dX7_isSeat_1 : decode cX7_isSeat 1 = .ok (.iconst 0, 1) := by decide +kernel
theorem dX7_isSeat_2 : decode cX7_isSeat 2 = .ok (.bipush 7, 2) := by decide +kernel
theorem dX7_isSeat_4 : decode cX7_isSeat 4 = .ok (.invokestatic 39, 3) := by decide +kernel
theorem dX7_isSeat_7 : decode cX7_isSeat 7 = .ok (.ireturn, 1) := by decide +kernel
theorem dX7_isPlayer_0 : decode cX7_isPlayer 0 = .ok (.iload_n 1, 1) := by decide +kernel
theorem dX7_isPlayer_1 : decode cX7_isPlayer 1 = .ok (.iconst 0, 1) := by decide +kernel
theorem dX7_isPlayer_2 : decode cX7_isPlayer 2 = .ok (.aload_n 0, 1) := by decide +kernel
theorem dX7_isPlayer_3 : decode cX7_isPlayer 3 = .ok (.getfield 7, 3) := by decide +kernel
theorem dX7_isPlayer_6 : decode cX7_isPlayer 6 = .ok (.iconst 0, 1) := by decide +kernel
theorem dX7_isPlayer_7 : decode cX7_isPlayer 7 = .ok (.iaload, 1) := by decide +kernel
theorem dX7_isPlayer_8 : decode cX7_isPlayer 8 = .ok (.iconst 1, 1) := by decide +kernel
theorem dX7_isPlayer_9 : decode cX7_isPlayer 9 = .ok (.isub, 1) := by decide +kernel
theorem dX7_isPlayer_10 : decode cX7_isPlayer 10 = .ok (.invokestatic 39, 3) := by decide +kernel
theorem dX7_isPlayer_13 : decode cX7_isPlayer 13 = .ok (.ireturn, 1) := by decide +kernel
theorem dX7_far_0 : decode cX7_far 0 = .ok (.iload_n 0, 1) := by decide +kernel
theorem dX7_far_1 : decode cX7_far 1 = .ok (.bipush 8, 2) := by decide +kernel
theorem dX7_far_3 : decode cX7_far 3 = .ok (.iadd, 1) := by decide +kernel
theorem dX7_far_4 : decode cX7_far 4 = .ok (.bipush 8, 2) := by decide +kernel
theorem dX7_far_6 : decode cX7_far 6 = .ok (.idiv, 1) := by decide +kernel
theorem dX7_far_7 : decode cX7_far 7 = .ok (.iload_n 1, 1) := by decide +kernel
theorem dX7_far_8 : decode cX7_far 8 = .ok (.bipush 8, 2) := by decide +kernel
theorem dX7_far_10 : decode cX7_far 10 = .ok (.iadd, 1) := by decide +kernel
theorem dX7_far_11 : decode cX7_far 11 = .ok (.bipush 8, 2) := by decide +kernel
theorem dX7_far_13 : decode cX7_far 13 = .ok (.idiv, 1) := by decide +kernel
theorem dX7_far_14 : decode cX7_far 14 = .ok (.isub, 1) := by decide +kernel
theorem dX7_far_15 : decode cX7_far 15 = .ok (.invokestatic 43, 3) := by decide +kernel
theorem dX7_far_18 : decode cX7_far 18 = .ok (.istore_n 2, 1) := by decide +kernel
theorem dX7_far_19 : decode cX7_far 19 = .ok (.iload_n 0, 1) := by decide +kernel
theorem dX7_far_20 : decode cX7_far 20 = .ok (.bipush 8, 2) := by decide +kernel
theorem dX7_far_22 : decode cX7_far 22 = .ok (.iadd, 1) := by decide +kernel
theorem dX7_far_23 : decode cX7_far 23 = .ok (.bipush 8, 2) := by decide +kernel
theorem dX7_far_25 : decode cX7_far 25 = .ok (.irem, 1) := by decide +kernel
theorem dX7_far_26 : decode cX7_far 26 = .ok (.iload_n 1, 1) := by decide +kernel
theorem dX7_far_27 : decode cX7_far 27 = .ok (.bipush 8, 2) := by decide +kernel
theorem dX7_far_29 : decode cX7_far 29 = .ok (.iadd, 1) := by decide +kernel
theorem dX7_far_30 : decode cX7_far 30 = .ok (.bipush 8, 2) := by decide +kernel
theorem dX7_far_32 : decode cX7_far 32 = .ok (.irem, 1) := by decide +kernel
theorem dX7_far_33 : decode cX7_far 33 = .ok (.isub, 1) := by decide +kernel
theorem dX7_far_34 : decode cX7_far 34 = .ok (.invokestatic 43, 3) := by decide +kernel
theorem dX7_far_37 : decode cX7_far 37 = .ok (.istore_n 3, 1) := by decide +kernel
theorem dX7_far_38 : decode cX7_far 38 = .ok (.iload_n 2, 1) := by decide +kernel
theorem dX7_far_39 : decode cX7_far 39 = .ok (.iload_n 3, 1) := by decide +kernel
theorem dX7_far_40 : decode cX7_far 40 = .ok (.if_icmp .le 7, 3) := by decide +kernel
theorem dX7_far_43 : decode cX7_far 43 = .ok (.iload_n 2, 1) := by decide +kernel
theorem dX7_far_44 : decode cX7_far 44 = .ok (.goto 4, 3) := by decide +kernel
theorem dX7_far_47 : decode cX7_far 47 = .ok (.iload_n 3, 1) := by decide +kernel
theorem dX7_far_48 : decode cX7_far 48 = .ok (.ireturn, 1) := by decide +kernel
theorem dX7_feed_0 : decode cX7_feed 0 = .ok (.iload_n 3, 1) := by decide +kernel
theorem dX7_feed_1 : decode cX7_feed 1 = .ok (.iconst 1, 1) := by decide +kernel
theorem dX7_feed_2 : decode cX7_feed 2 = .ok (.bipush 8, 2) := by decide +kernel
theorem dX7_feed_4 : decode cX7_feed 4 = .ok (.invokestatic 39, 3) := by decide +kernel
theorem dX7_feed_7 : decode cX7_feed 7 = .ok (.ifCond .ne 6, 3) := by decide +kernel
theorem dX7_feed_10 : decode cX7_feed 10 = .ok (.bipush (-2), 2) := by decide +kernel
theorem dX7_feed_12 : decode cX7_feed 12 = .ok (.ireturn, 1) := by decide +kernel
theorem dX7_feed_13 : decode cX7_feed 13 = .ok (.aload_n 0, 1) := by decide +kernel
theorem dX7_feed_14 : decode cX7_feed 14 = .ok (.getfield 7, 3) := by decide +kernel
theorem dX7_feed_17 : decode cX7_feed 17 = .ok (.iconst 4, 1) := by decide +kernel
theorem dX7_feed_18 : decode cX7_feed 18 = .ok (.iaload, 1) := by decide +kernel
theorem dX7_feed_19 : decode cX7_feed 19 = .ok (.iload_n 3, 1) := by decide +kernel
theorem dX7_feed_20 : decode cX7_feed 20 = .ok (.iadd, 1) := by decide +kernel
theorem dX7_feed_21 : decode cX7_feed 21 = .ok (.bipush 120, 2) := by decide +kernel
theorem dX7_feed_23 : decode cX7_feed 23 = .ok (.if_icmp .le 6, 3) := by decide +kernel
theorem dX7_feed_26 : decode cX7_feed 26 = .ok (.bipush (-4), 2) := by decide +kernel
theorem dX7_feed_28 : decode cX7_feed 28 = .ok (.ireturn, 1) := by decide +kernel
theorem dX7_feed_29 : decode cX7_feed 29 = .ok (.iload_n 3, 1) := by decide +kernel
theorem dX7_feed_30 : decode cX7_feed 30 = .ok (.iconst 1, 1) := by decide +kernel
theorem dX7_feed_31 : decode cX7_feed 31 = .ok (.isub, 1) := by decide +kernel
theorem dX7_feed_32 : decode cX7_feed 32 = .ok (.istore 4, 2) := by decide +kernel
theorem dX7_feed_34 : decode cX7_feed 34 = .ok (.iload 4, 2) := by decide +kernel
theorem dX7_feed_36 : decode cX7_feed 36 = .ok (.ifCond .lt 45, 3) := by decide +kernel
theorem dX7_feed_39 : decode cX7_feed 39 = .ok (.aload_n 0, 1) := by decide +kernel
theorem dX7_feed_40 : decode cX7_feed 40 = .ok (.getfield 7, 3) := by decide +kernel
theorem dX7_feed_43 : decode cX7_feed 43 = .ok (.bipush 10, 2) := by decide +kernel
theorem dX7_feed_45 : decode cX7_feed 45 = .ok (.aload_n 0, 1) := by decide +kernel
theorem dX7_feed_46 : decode cX7_feed 46 = .ok (.getfield 7, 3) := by decide +kernel
theorem dX7_feed_49 : decode cX7_feed 49 = .ok (.iconst 4, 1) := by decide +kernel
theorem dX7_feed_50 : decode cX7_feed 50 = .ok (.iaload, 1) := by decide +kernel
theorem dX7_feed_51 : decode cX7_feed 51 = .ok (.iadd, 1) := by decide +kernel
theorem dX7_feed_52 : decode cX7_feed 52 = .ok (.lload_n 1, 1) := by decide +kernel
theorem dX7_feed_53 : decode cX7_feed 53 = .ok (.bipush 8, 2) := by decide +kernel
theorem dX7_feed_55 : decode cX7_feed 55 = .ok (.iload 4, 2) := by decide +kernel
theorem dX7_feed_57 : decode cX7_feed 57 = .ok (.imul, 1) := by decide +kernel
theorem dX7_feed_58 : decode cX7_feed 58 = .ok (.lshr, 1) := by decide +kernel
theorem dX7_feed_59 : decode cX7_feed 59 = .ok (.ldc2_w 47, 3) := by decide +kernel
theorem dX7_feed_62 : decode cX7_feed 62 = .ok (.land, 1) := by decide +kernel
theorem dX7_feed_63 : decode cX7_feed 63 = .ok (.l2i, 1) := by decide +kernel
theorem dX7_feed_64 : decode cX7_feed 64 = .ok (.iastore, 1) := by decide +kernel
theorem dX7_feed_65 : decode cX7_feed 65 = .ok (.aload_n 0, 1) := by decide +kernel
theorem dX7_feed_66 : decode cX7_feed 66 = .ok (.getfield 7, 3) := by decide +kernel
theorem dX7_feed_69 : decode cX7_feed 69 = .ok (.iconst 4, 1) := by decide +kernel
theorem dX7_feed_70 : decode cX7_feed 70 = .ok (.dup2, 1) := by decide +kernel
theorem dX7_feed_71 : decode cX7_feed 71 = .ok (.iaload, 1) := by decide +kernel
theorem dX7_feed_72 : decode cX7_feed 72 = .ok (.iconst 1, 1) := by decide +kernel
theorem dX7_feed_73 : decode cX7_feed 73 = .ok (.iadd, 1) := by decide +kernel
theorem dX7_feed_74 : decode cX7_feed 74 = .ok (.iastore, 1) := by decide +kernel
theorem dX7_feed_75 : decode cX7_feed 75 = .ok (.iinc 4 (-1), 3) := by decide +kernel
theorem dX7_feed_78 : decode cX7_feed 78 = .ok (.goto (-44), 3) := by decide +kernel
theorem dX7_feed_81 : decode cX7_feed 81 = .ok (.aload_n 0, 1) := by decide +kernel
theorem dX7_feed_82 : decode cX7_feed 82 = .ok (.getfield 7, 3) := by decide +kernel
theorem dX7_feed_85 : decode cX7_feed 85 = .ok (.iconst 4, 1) := by decide +kernel
theorem dX7_feed_86 : decode cX7_feed 86 = .ok (.iaload, 1) := by decide +kernel
theorem dX7_feed_87 : decode cX7_feed 87 = .ok (.ireturn, 1) := by decide +kernel
theorem dX7_here_0 : decode cX7_here 0 = .ok (.aload_n 0, 1) := by decide +kernel
theorem dX7_here_1 : decode cX7_here 1 = .ok (.getfield 49, 3) := by decide +kernel
theorem dX7_here_4 : decode cX7_here 4 = .ok (.aload_n 0, 1) := by decide +kernel
theorem dX7_here_5 : decode cX7_here 5 = .ok (.getfield 52, 3) := by decide +kernel
theorem dX7_here_8 : decode cX7_here 8 = .ok (.if_icmp .ge 18, 3) := by decide +kernel
theorem dX7_here_11 : decode cX7_here 11 = .ok (.aload_n 0, 1) := by decide +kernel
theorem dX7_here_12 : decode cX7_here 12 = .ok (.getfield 7, 3) := by decide +kernel
theorem dX7_here_15 : decode cX7_here 15 = .ok (.bipush 10, 2) := by decide +kernel
theorem dX7_here_17 : decode cX7_here 17 = .ok (.aload_n 0, 1) := by decide +kernel
theorem dX7_here_18 : decode cX7_here 18 = .ok (.getfield 49, 3) := by decide +kernel
theorem dX7_here_21 : decode cX7_here 21 = .ok (.iadd, 1) := by decide +kernel
theorem dX7_here_22 : decode cX7_here 22 = .ok (.iaload, 1) := by decide +kernel
theorem dX7_here_23 : decode cX7_here 23 = .ok (.goto 4, 3) := by decide +kernel
theorem dX7_here_26 : decode cX7_here 26 = .ok (.iconst (-1), 1) := by decide +kernel
theorem dX7_here_27 : decode cX7_here 27 = .ok (.ireturn, 1) := by decide +kernel
theorem dX7_must_0 : decode cX7_must 0 = .ok (.aload_n 0, 1) := by decide +kernel
theorem dX7_must_1 : decode cX7_must 1 = .ok (.aload_n 0, 1) := by decide +kernel
theorem dX7_must_2 : decode cX7_must 2 = .ok (.getfield 55, 3) := by decide +kernel
theorem dX7_must_5 : decode cX7_must 5 = .ok (.ifCond .ne 11, 3) := by decide +kernel
theorem dX7_must_8 : decode cX7_must 8 = .ok (.aload_n 0, 1) := by decide +kernel
theorem dX7_must_9 : decode cX7_must 9 = .ok (.invokevirtual 59, 3) := by decide +kernel
theorem dX7_must_12 : decode cX7_must 12 = .ok (.iload_n 1, 1) := by decide +kernel
theorem dX7_must_13 : decode cX7_must 13 = .ok (.if_icmp .eq 7, 3) := by decide +kernel
theorem dX7_must_16 : decode cX7_must 16 = .ok (.iconst 1, 1) := by decide +kernel
theorem dX7_must_17 : decode cX7_must 17 = .ok (.goto 4, 3) := by decide +kernel
theorem dX7_must_20 : decode cX7_must 20 = .ok (.iconst 0, 1) := by decide +kernel
theorem dX7_must_21 : decode cX7_must 21 = .ok (.putfield 55, 3) := by decide +kernel
theorem dX7_must_24 : decode cX7_must 24 = .ok (.aload_n 0, 1) := by decide +kernel
theorem dX7_must_25 : decode cX7_must 25 = .ok (.dup, 1) := by decide +kernel
theorem dX7_must_26 : decode cX7_must 26 = .ok (.getfield 49, 3) := by decide +kernel
theorem dX7_must_29 : decode cX7_must 29 = .ok (.aload_n 0, 1) := by decide +kernel
theorem dX7_must_30 : decode cX7_must 30 = .ok (.getfield 55, 3) := by decide +kernel
theorem dX7_must_33 : decode cX7_must 33 = .ok (.ifCond .eq 7, 3) := by decide +kernel
theorem dX7_must_36 : decode cX7_must 36 = .ok (.iconst 0, 1) := by decide +kernel
theorem dX7_must_37 : decode cX7_must 37 = .ok (.goto 4, 3) := by decide +kernel
theorem dX7_must_40 : decode cX7_must 40 = .ok (.iconst 1, 1) := by decide +kernel
theorem dX7_must_41 : decode cX7_must 41 = .ok (.iadd, 1) := by decide +kernel
theorem dX7_must_42 : decode cX7_must 42 = .ok (.putfield 49, 3) := by decide +kernel
theorem dX7_must_45 : decode cX7_must 45 = .ok (.return_, 1) := by decide +kernel
theorem dX7_spells_0 : decode cX7_spells 0 = .ok (.iconst 0, 1) := by decide +kernel
theorem dX7_spells_1 : decode cX7_spells 1 = .ok (.istore_n 2, 1) := by decide +kernel
theorem dX7_spells_2 : decode cX7_spells 2 = .ok (.iload_n 2, 1) := by decide +kernel
theorem dX7_spells_3 : decode cX7_spells 3 = .ok (.aload_n 1, 1) := by decide +kernel
theorem dX7_spells_4 : decode cX7_spells 4 = .ok (.invokevirtual 63, 3) := by decide +kernel
theorem dX7_spells_7 : decode cX7_spells 7 = .ok (.if_icmp .ge 18, 3) := by decide +kernel
theorem dX7_spells_10 : decode cX7_spells 10 = .ok (.aload_n 0, 1) := by decide +kernel
theorem dX7_spells_11 : decode cX7_spells 11 = .ok (.aload_n 1, 1) := by decide +kernel
theorem dX7_spells_12 : decode cX7_spells 12 = .ok (.iload_n 2, 1) := by decide +kernel
theorem dX7_spells_13 : decode cX7_spells 13 = .ok (.invokevirtual 68, 3) := by decide +kernel
theorem dX7_spells_16 : decode cX7_spells 16 = .ok (.invokevirtual 72, 3) := by decide +kernel
theorem dX7_spells_19 : decode cX7_spells 19 = .ok (.iinc 2 1, 3) := by decide +kernel
theorem dX7_spells_22 : decode cX7_spells 22 = .ok (.goto (-20), 3) := by decide +kernel
theorem dX7_spells_25 : decode cX7_spells 25 = .ok (.return_, 1) := by decide +kernel
theorem dX7_figures_0 : decode cX7_figures 0 = .ok (.aload_n 0, 1) := by decide +kernel
theorem dX7_figures_1 : decode cX7_figures 1 = .ok (.aload_n 0, 1) := by decide +kernel
theorem dX7_figures_2 : decode cX7_figures 2 = .ok (.getfield 55, 3) := by decide +kernel
theorem dX7_figures_5 : decode cX7_figures 5 = .ok (.ifCond .ne 17, 3) := by decide +kernel
theorem dX7_figures_8 : decode cX7_figures 8 = .ok (.aload_n 0, 1) := by decide +kernel
theorem dX7_figures_9 : decode cX7_figures 9 = .ok (.invokevirtual 59, 3) := by decide +kernel
theorem dX7_figures_12 : decode cX7_figures 12 = .ok (.bipush 48, 2) := by decide +kernel
theorem dX7_figures_14 : decode cX7_figures 14 = .ok (.bipush 57, 2) := by decide +kernel
theorem dX7_figures_16 : decode cX7_figures 16 = .ok (.invokestatic 39, 3) := by decide +kernel
theorem dX7_figures_19 : decode cX7_figures 19 = .ok (.ifCond .ne 7, 3) := by decide +kernel
theorem dX7_figures_22 : decode cX7_figures 22 = .ok (.iconst 1, 1) := by decide +kernel
theorem dX7_figures_23 : decode cX7_figures 23 = .ok (.goto 4, 3) := by decide +kernel
theorem dX7_figures_26 : decode cX7_figures 26 = .ok (.iconst 0, 1) := by decide +kernel
theorem dX7_figures_27 : decode cX7_figures 27 = .ok (.putfield 55, 3) := by decide +kernel
theorem dX7_figures_30 : decode cX7_figures 30 = .ok (.iconst 0, 1) := by decide +kernel
theorem dX7_figures_31 : decode cX7_figures 31 = .ok (.istore_n 1, 1) := by decide +kernel
theorem dX7_figures_32 : decode cX7_figures 32 = .ok (.iconst 0, 1) := by decide +kernel
theorem dX7_figures_33 : decode cX7_figures 33 = .ok (.istore_n 2, 1) := by decide +kernel
theorem dX7_figures_34 : decode cX7_figures 34 = .ok (.iload_n 2, 1) := by decide +kernel
theorem dX7_figures_35 : decode cX7_figures 35 = .ok (.iconst 2, 1) := by decide +kernel
theorem dX7_figures_36 : decode cX7_figures 36 = .ok (.if_icmp .ge 61, 3) := by decide +kernel
theorem dX7_figures_39 : decode cX7_figures 39 = .ok (.aload_n 0, 1) := by decide +kernel
theorem dX7_figures_40 : decode cX7_figures 40 = .ok (.getfield 55, 3) := by decide +kernel
theorem dX7_figures_43 : decode cX7_figures 43 = .ok (.ifCond .ne 54, 3) := by decide +kernel
theorem dX7_figures_46 : decode cX7_figures 46 = .ok (.aload_n 0, 1) := by decide +kernel
theorem dX7_figures_47 : decode cX7_figures 47 = .ok (.invokevirtual 59, 3) := by decide +kernel
theorem dX7_figures_50 : decode cX7_figures 50 = .ok (.bipush 48, 2) := by decide +kernel
theorem dX7_figures_52 : decode cX7_figures 52 = .ok (.bipush 57, 2) := by decide +kernel
theorem dX7_figures_54 : decode cX7_figures 54 = .ok (.invokestatic 39, 3) := by decide +kernel
theorem dX7_figures_57 : decode cX7_figures 57 = .ok (.ifCond .eq 40, 3) := by decide +kernel
theorem dX7_figures_60 : decode cX7_figures 60 = .ok (.iload_n 2, 1) := by decide +kernel
theorem dX7_figures_61 : decode cX7_figures 61 = .ok (.ifCond .eq 7, 3) := by decide +kernel
theorem dX7_figures_64 : decode cX7_figures 64 = .ok (.iload_n 1, 1) := by decide +kernel
theorem dX7_figures_65 : decode cX7_figures 65 = .ok (.ifCond .le 32, 3) := by decide +kernel
theorem dX7_figures_68 : decode cX7_figures 68 = .ok (.bipush 10, 2) := by decide +kernel
theorem dX7_figures_70 : decode cX7_figures 70 = .ok (.iload_n 1, 1) := by decide +kernel
theorem dX7_figures_71 : decode cX7_figures 71 = .ok (.imul, 1) := by decide +kernel
theorem dX7_figures_72 : decode cX7_figures 72 = .ok (.aload_n 0, 1) := by decide +kernel
theorem dX7_figures_73 : decode cX7_figures 73 = .ok (.invokevirtual 59, 3) := by decide +kernel
theorem dX7_figures_76 : decode cX7_figures 76 = .ok (.iadd, 1) := by decide +kernel
theorem dX7_figures_77 : decode cX7_figures 77 = .ok (.bipush 48, 2) := by decide +kernel
theorem dX7_figures_79 : decode cX7_figures 79 = .ok (.isub, 1) := by decide +kernel
theorem dX7_figures_80 : decode cX7_figures 80 = .ok (.istore_n 1, 1) := by decide +kernel
theorem dX7_figures_81 : decode cX7_figures 81 = .ok (.aload_n 0, 1) := by decide +kernel
theorem dX7_figures_82 : decode cX7_figures 82 = .ok (.dup, 1) := by decide +kernel
theorem dX7_figures_83 : decode cX7_figures 83 = .ok (.getfield 49, 3) := by decide +kernel
theorem dX7_figures_86 : decode cX7_figures 86 = .ok (.iconst 1, 1) := by decide +kernel
theorem dX7_figures_87 : decode cX7_figures 87 = .ok (.iadd, 1) := by decide +kernel
theorem dX7_figures_88 : decode cX7_figures 88 = .ok (.putfield 49, 3) := by decide +kernel
theorem dX7_figures_91 : decode cX7_figures 91 = .ok (.iinc 2 1, 3) := by decide +kernel
theorem dX7_figures_94 : decode cX7_figures 94 = .ok (.goto (-60), 3) := by decide +kernel
theorem dX7_figures_97 : decode cX7_figures 97 = .ok (.iload_n 1, 1) := by decide +kernel
theorem dX7_figures_98 : decode cX7_figures 98 = .ok (.ireturn, 1) := by decide +kernel
theorem dX7_among_0 : decode cX7_among 0 = .ok (.iconst 0, 1) := by decide +kernel
theorem dX7_among_1 : decode cX7_among 1 = .ok (.istore_n 2, 1) := by decide +kernel
theorem dX7_among_2 : decode cX7_among 2 = .ok (.iload_n 2, 1) := by decide +kernel
theorem dX7_among_3 : decode cX7_among 3 = .ok (.aload_n 1, 1) := by decide +kernel
theorem dX7_among_4 : decode cX7_among 4 = .ok (.invokevirtual 63, 3) := by decide +kernel
theorem dX7_among_7 : decode cX7_among 7 = .ok (.if_icmp .ge 33, 3) := by decide +kernel
theorem dX7_among_10 : decode cX7_among 10 = .ok (.aload_n 0, 1) := by decide +kernel
theorem dX7_among_11 : decode cX7_among 11 = .ok (.invokevirtual 59, 3) := by decide +kernel
theorem dX7_among_14 : decode cX7_among 14 = .ok (.aload_n 1, 1) := by decide +kernel
theorem dX7_among_15 : decode cX7_among 15 = .ok (.iload_n 2, 1) := by decide +kernel
theorem dX7_among_16 : decode cX7_among 16 = .ok (.invokevirtual 68, 3) := by decide +kernel
theorem dX7_among_19 : decode cX7_among 19 = .ok (.if_icmp .ne 15, 3) := by decide +kernel
theorem dX7_among_22 : decode cX7_among 22 = .ok (.aload_n 0, 1) := by decide +kernel
theorem dX7_among_23 : decode cX7_among 23 = .ok (.dup, 1) := by decide +kernel
theorem dX7_among_24 : decode cX7_among 24 = .ok (.getfield 49, 3) := by decide +kernel
theorem dX7_among_27 : decode cX7_among 27 = .ok (.iconst 1, 1) := by decide +kernel
theorem dX7_among_28 : decode cX7_among 28 = .ok (.iadd, 1) := by decide +kernel
theorem dX7_among_29 : decode cX7_among 29 = .ok (.putfield 49, 3) := by decide +kernel
theorem dX7_among_32 : decode cX7_among 32 = .ok (.iload_n 2, 1) := by decide +kernel
theorem dX7_among_33 : decode cX7_among 33 = .ok (.ireturn, 1) := by decide +kernel
theorem dX7_among_34 : decode cX7_among 34 = .ok (.iinc 2 1, 3) := by decide +kernel
theorem dX7_among_37 : decode cX7_among 37 = .ok (.goto (-35), 3) := by decide +kernel
theorem dX7_among_40 : decode cX7_among 40 = .ok (.iconst (-1), 1) := by decide +kernel
theorem dX7_among_41 : decode cX7_among 41 = .ok (.ireturn, 1) := by decide +kernel
theorem dX7_emits_0 : decode cX7_emits 0 = .ok (.aload_n 0, 1) := by decide +kernel
theorem dX7_emits_1 : decode cX7_emits 1 = .ok (.getfield 55, 3) := by decide +kernel
theorem dX7_emits_4 : decode cX7_emits 4 = .ok (.ifCond .ne 52, 3) := by decide +kernel
theorem dX7_emits_7 : decode cX7_emits 7 = .ok (.aload_n 0, 1) := by decide +kernel
theorem dX7_emits_8 : decode cX7_emits 8 = .ok (.getfield 7, 3) := by decide +kernel
theorem dX7_emits_11 : decode cX7_emits 11 = .ok (.sipush 200, 3) := by decide +kernel
theorem dX7_emits_14 : decode cX7_emits 14 = .ok (.sipush 140, 3) := by decide +kernel
theorem dX7_emits_17 : decode cX7_emits 17 = .ok (.aload_n 0, 1) := by decide +kernel
theorem dX7_emits_18 : decode cX7_emits 18 = .ok (.getfield 76, 3) := by decide +kernel
theorem dX7_emits_21 : decode cX7_emits 21 = .ok (.imul, 1) := by decide +kernel
theorem dX7_emits_22 : decode cX7_emits 22 = .ok (.iadd, 1) := by decide +kernel
theorem dX7_emits_23 : decode cX7_emits 23 = .ok (.aload_n 0, 1) := by decide +kernel
theorem dX7_emits_24 : decode cX7_emits 24 = .ok (.getfield 7, 3) := by decide +kernel
theorem dX7_emits_27 : decode cX7_emits 27 = .ok (.sipush 195, 3) := by decide +kernel
theorem dX7_emits_30 : decode cX7_emits 30 = .ok (.aload_n 0, 1) := by decide +kernel
theorem dX7_emits_31 : decode cX7_emits 31 = .ok (.getfield 76, 3) := by decide +kernel
theorem dX7_emits_34 : decode cX7_emits 34 = .ok (.iadd, 1) := by decide +kernel
theorem dX7_emits_35 : decode cX7_emits 35 = .ok (.iaload, 1) := by decide +kernel
theorem dX7_emits_36 : decode cX7_emits 36 = .ok (.iadd, 1) := by decide +kernel
theorem dX7_emits_37 : decode cX7_emits 37 = .ok (.iload_n 1, 1) := by decide +kernel
theorem dX7_emits_38 : decode cX7_emits 38 = .ok (.iastore, 1) := by decide +kernel
theorem dX7_emits_39 : decode cX7_emits 39 = .ok (.aload_n 0, 1) := by decide +kernel
theorem dX7_emits_40 : decode cX7_emits 40 = .ok (.getfield 7, 3) := by decide +kernel
theorem dX7_emits_43 : decode cX7_emits 43 = .ok (.sipush 195, 3) := by decide +kernel
theorem dX7_emits_46 : decode cX7_emits 46 = .ok (.aload_n 0, 1) := by decide +kernel
theorem dX7_emits_47 : decode cX7_emits 47 = .ok (.getfield 76, 3) := by decide +kernel
theorem dX7_emits_50 : decode cX7_emits 50 = .ok (.iadd, 1) := by decide +kernel
theorem dX7_emits_51 : decode cX7_emits 51 = .ok (.dup2, 1) := by decide +kernel
theorem dX7_emits_52 : decode cX7_emits 52 = .ok (.iaload, 1) := by decide +kernel
theorem dX7_emits_53 : decode cX7_emits 53 = .ok (.iconst 1, 1) := by decide +kernel
theorem dX7_emits_54 : decode cX7_emits 54 = .ok (.iadd, 1) := by decide +kernel
theorem dX7_emits_55 : decode cX7_emits 55 = .ok (.iastore, 1) := by decide +kernel
theorem dX7_emits_56 : decode cX7_emits 56 = .ok (.return_, 1) := by decide +kernel
theorem dX7_factor_0 : decode cX7_factor 0 = .ok (.aload_n 0, 1) := by decide +kernel
theorem dX7_factor_1 : decode cX7_factor 1 = .ok (.getfield 55, 3) := by decide +kernel
theorem dX7_factor_4 : decode cX7_factor 4 = .ok (.ifCond .eq 4, 3) := by decide +kernel
theorem dX7_factor_7 : decode cX7_factor 7 = .ok (.return_, 1) := by decide +kernel
theorem dX7_factor_8 : decode cX7_factor 8 = .ok (.aload_n 0, 1) := by decide +kernel
theorem dX7_factor_9 : decode cX7_factor 9 = .ok (.invokevirtual 59, 3) := by decide +kernel
theorem dX7_factor_12 : decode cX7_factor 12 = .ok (.istore_n 1, 1) := by decide +kernel
theorem dX7_factor_13 : decode cX7_factor 13 = .ok (.iload_n 1, 1) := by decide +kernel
theorem dX7_factor_14 : decode cX7_factor 14 = .ok (.bipush 33, 2) := by decide +kernel
theorem dX7_factor_16 : decode cX7_factor 16 = .ok (.if_icmp .eq 9, 3) := by decide +kernel
theorem dX7_factor_19 : decode cX7_factor 19 = .ok (.iload_n 1, 1) := by decide +kernel
theorem dX7_factor_20 : decode cX7_factor 20 = .ok (.bipush 40, 2) := by decide +kernel
theorem dX7_factor_22 : decode cX7_factor 22 = .ok (.if_icmp .ne 90, 3) := by decide +kernel
theorem dX7_factor_25 : decode cX7_factor 25 = .ok (.aload_n 0, 1) := by decide +kernel
theorem dX7_factor_26 : decode cX7_factor 26 = .ok (.aload_n 0, 1) := by decide +kernel
theorem dX7_factor_27 : decode cX7_factor 27 = .ok (.getfield 79, 3) := by decide +kernel
theorem dX7_factor_30 : decode cX7_factor 30 = .ok (.iconst 5, 1) := by decide +kernel
theorem dX7_factor_31 : decode cX7_factor 31 = .ok (.if_icmp .ne 7, 3) := by decide +kernel
theorem dX7_factor_34 : decode cX7_factor 34 = .ok (.iconst 1, 1) := by decide +kernel
theorem dX7_factor_35 : decode cX7_factor 35 = .ok (.goto 4, 3) := by decide +kernel
theorem dX7_factor_38 : decode cX7_factor 38 = .ok (.iconst 0, 1) := by decide +kernel
theorem dX7_factor_39 : decode cX7_factor 39 = .ok (.putfield 55, 3) := by decide +kernel
theorem dX7_factor_42 : decode cX7_factor 42 = .ok (.aload_n 0, 1) := by decide +kernel
theorem dX7_factor_43 : decode cX7_factor 43 = .ok (.dup, 1) := by decide +kernel
theorem dX7_factor_44 : decode cX7_factor 44 = .ok (.getfield 79, 3) := by decide +kernel
theorem dX7_factor_47 : decode cX7_factor 47 = .ok (.iconst 1, 1) := by decide +kernel
theorem dX7_factor_48 : decode cX7_factor 48 = .ok (.iadd, 1) := by decide +kernel
theorem dX7_factor_49 : decode cX7_factor 49 = .ok (.putfield 79, 3) := by decide +kernel
theorem dX7_factor_52 : decode cX7_factor 52 = .ok (.aload_n 0, 1) := by decide +kernel
theorem dX7_factor_53 : decode cX7_factor 53 = .ok (.dup, 1) := by decide +kernel
theorem dX7_factor_54 : decode cX7_factor 54 = .ok (.getfield 49, 3) := by decide +kernel
theorem dX7_factor_57 : decode cX7_factor 57 = .ok (.aload_n 0, 1) := by decide +kernel
theorem dX7_factor_58 : decode cX7_factor 58 = .ok (.getfield 55, 3) := by decide +kernel
theorem dX7_factor_61 : decode cX7_factor 61 = .ok (.ifCond .eq 7, 3) := by decide +kernel
theorem dX7_factor_64 : decode cX7_factor 64 = .ok (.iconst 0, 1) := by decide +kernel
theorem dX7_factor_65 : decode cX7_factor 65 = .ok (.goto 4, 3) := by decide +kernel
theorem dX7_factor_68 : decode cX7_factor 68 = .ok (.iconst 1, 1) := by decide +kernel
theorem dX7_factor_69 : decode cX7_factor 69 = .ok (.iadd, 1) := by decide +kernel
theorem dX7_factor_70 : decode cX7_factor 70 = .ok (.putfield 49, 3) := by decide +kernel
theorem dX7_factor_73 : decode cX7_factor 73 = .ok (.iload_n 1, 1) := by decide +kernel
theorem dX7_factor_74 : decode cX7_factor 74 = .ok (.bipush 33, 2) := by decide +kernel
theorem dX7_factor_76 : decode cX7_factor 76 = .ok (.if_icmp .ne 15, 3) := by decide +kernel
theorem dX7_factor_79 : decode cX7_factor 79 = .ok (.aload_n 0, 1) := by decide +kernel
theorem dX7_factor_80 : decode cX7_factor 80 = .ok (.invokevirtual 82, 3) := by decide +kernel
theorem dX7_factor_83 : decode cX7_factor 83 = .ok (.aload_n 0, 1) := by decide +kernel
theorem dX7_factor_84 : decode cX7_factor 84 = .ok (.iconst (-1), 1) := by decide +kernel
theorem dX7_factor_85 : decode cX7_factor 85 = .ok (.invokevirtual 85, 3) := by decide +kernel
theorem dX7_factor_88 : decode cX7_factor 88 = .ok (.goto 13, 3) := by decide +kernel
theorem dX7_factor_91 : decode cX7_factor 91 = .ok (.aload_n 0, 1) := by decide +kernel
theorem dX7_factor_92 : decode cX7_factor 92 = .ok (.invokevirtual 88, 3) := by decide +kernel
theorem dX7_factor_95 : decode cX7_factor 95 = .ok (.aload_n 0, 1) := by decide +kernel
theorem dX7_factor_96 : decode cX7_factor 96 = .ok (.bipush 41, 2) := by decide +kernel
theorem dX7_factor_98 : decode cX7_factor 98 = .ok (.invokevirtual 72, 3) := by decide +kernel
theorem dX7_factor_101 : decode cX7_factor 101 = .ok (.aload_n 0, 1) := by decide +kernel
theorem dX7_factor_102 : decode cX7_factor 102 = .ok (.dup, 1) := by decide +kernel
theorem dX7_factor_103 : decode cX7_factor 103 = .ok (.getfield 79, 3) := by decide +kernel
theorem dX7_factor_106 : decode cX7_factor 106 = .ok (.iconst 1, 1) := by decide +kernel
theorem dX7_factor_107 : decode cX7_factor 107 = .ok (.isub, 1) := by decide +kernel
theorem dX7_factor_108 : decode cX7_factor 108 = .ok (.putfield 79, 3) := by decide +kernel
theorem dX7_factor_111 : decode cX7_factor 111 = .ok (.return_, 1) := by decide +kernel
theorem dX7_factor_112 : decode cX7_factor 112 = .ok (.aload_n 0, 1) := by decide +kernel
theorem dX7_factor_113 : decode cX7_factor 113 = .ok (.ldc 91, 2) := by decide +kernel
theorem dX7_factor_115 : decode cX7_factor 115 = .ok (.invokevirtual 93, 3) := by decide +kernel
theorem dX7_factor_118 : decode cX7_factor 118 = .ok (.istore_n 2, 1) := by decide +kernel
theorem dX7_factor_119 : decode cX7_factor 119 = .ok (.aload_n 0, 1) := by decide +kernel
theorem dX7_factor_120 : decode cX7_factor 120 = .ok (.iload_n 2, 1) := by decide +kernel
theorem dX7_factor_121 : decode cX7_factor 121 = .ok (.iconst (-1), 1) := by decide +kernel
theorem dX7_factor_122 : decode cX7_factor 122 = .ok (.if_icmp .ne 7, 3) := by decide +kernel
theorem dX7_factor_125 : decode cX7_factor 125 = .ok (.iconst 1, 1) := by decide +kernel
theorem dX7_factor_126 : decode cX7_factor 126 = .ok (.goto 4, 3) := by decide +kernel
theorem dX7_factor_129 : decode cX7_factor 129 = .ok (.iconst 0, 1) := by decide +kernel
theorem dX7_factor_130 : decode cX7_factor 130 = .ok (.putfield 55, 3) := by decide +kernel
theorem dX7_factor_133 : decode cX7_factor 133 = .ok (.aload_n 0, 1) := by decide +kernel
theorem dX7_factor_134 : decode cX7_factor 134 = .ok (.getfield 55, 3) := by decide +kernel
theorem dX7_factor_137 : decode cX7_factor 137 = .ok (.ifCond .eq 7, 3) := by decide +kernel
theorem dX7_factor_140 : decode cX7_factor 140 = .ok (.iconst 0, 1) := by decide +kernel
theorem dX7_factor_141 : decode cX7_factor 141 = .ok (.goto 9, 3) := by decide +kernel
theorem dX7_factor_144 : decode cX7_factor 144 = .ok (.aload_n 0, 1) := by decide +kernel
theorem dX7_factor_145 : decode cX7_factor 145 = .ok (.ldc 97, 2) := by decide +kernel
theorem dX7_factor_147 : decode cX7_factor 147 = .ok (.invokevirtual 93, 3) := by decide +kernel
theorem dX7_factor_150 : decode cX7_factor 150 = .ok (.istore_n 3, 1) := by decide +kernel
theorem dX7_factor_151 : decode cX7_factor 151 = .ok (.aload_n 0, 1) := by decide +kernel
theorem dX7_factor_152 : decode cX7_factor 152 = .ok (.aload_n 0, 1) := by decide +kernel
theorem dX7_factor_153 : decode cX7_factor 153 = .ok (.getfield 55, 3) := by decide +kernel
theorem dX7_factor_156 : decode cX7_factor 156 = .ok (.ifCond .ne 8, 3) := by decide +kernel
theorem dX7_factor_159 : decode cX7_factor 159 = .ok (.iload_n 3, 1) := by decide +kernel
theorem dX7_factor_160 : decode cX7_factor 160 = .ok (.iconst (-1), 1) := by decide +kernel
theorem dX7_factor_161 : decode cX7_factor 161 = .ok (.if_icmp .ne 7, 3) := by decide +kernel
theorem dX7_factor_164 : decode cX7_factor 164 = .ok (.iconst 1, 1) := by decide +kernel
theorem dX7_factor_165 : decode cX7_factor 165 = .ok (.goto 4, 3) := by decide +kernel
theorem dX7_factor_168 : decode cX7_factor 168 = .ok (.iconst 0, 1) := by decide +kernel
theorem dX7_factor_169 : decode cX7_factor 169 = .ok (.putfield 55, 3) := by decide +kernel
theorem dX7_factor_172 : decode cX7_factor 172 = .ok (.aload_n 0, 1) := by decide +kernel
theorem dX7_factor_173 : decode cX7_factor 173 = .ok (.invokevirtual 99, 3) := by decide +kernel
theorem dX7_factor_176 : decode cX7_factor 176 = .ok (.istore 4, 2) := by decide +kernel
theorem dX7_factor_178 : decode cX7_factor 178 = .ok (.aload_n 0, 1) := by decide +kernel
theorem dX7_factor_179 : decode cX7_factor 179 = .ok (.iload_n 2, 1) := by decide +kernel
theorem dX7_factor_180 : decode cX7_factor 180 = .ok (.bipush 8, 2) := by decide +kernel
theorem dX7_factor_182 : decode cX7_factor 182 = .ok (.iload_n 3, 1) := by decide +kernel
theorem dX7_factor_183 : decode cX7_factor 183 = .ok (.imul, 1) := by decide +kernel
theorem dX7_factor_184 : decode cX7_factor 184 = .ok (.iadd, 1) := by decide +kernel
theorem dX7_factor_185 : decode cX7_factor 185 = .ok (.bipush 32, 2) := by decide +kernel
theorem dX7_factor_187 : decode cX7_factor 187 = .ok (.iload 4, 2) := by decide +kernel
theorem dX7_factor_189 : decode cX7_factor 189 = .ok (.imul, 1) := by decide +kernel
theorem dX7_factor_190 : decode cX7_factor 190 = .ok (.iadd, 1) := by decide +kernel
theorem dX7_factor_191 : decode cX7_factor 191 = .ok (.invokevirtual 85, 3) := by decide +kernel
theorem dX7_factor_194 : decode cX7_factor 194 = .ok (.return_, 1) := by decide +kernel
theorem dX7_every_0 : decode cX7_every 0 = .ok (.aload_n 0, 1) := by decide +kernel
theorem dX7_every_1 : decode cX7_every 1 = .ok (.invokevirtual 82, 3) := by decide +kernel
theorem dX7_every_4 : decode cX7_every 4 = .ok (.aload_n 0, 1) := by decide +kernel
theorem dX7_every_5 : decode cX7_every 5 = .ok (.getfield 55, 3) := by decide +kernel
theorem dX7_every_8 : decode cX7_every 8 = .ok (.ifCond .ne 35, 3) := by decide +kernel
theorem dX7_every_11 : decode cX7_every 11 = .ok (.aload_n 0, 1) := by decide +kernel
theorem dX7_every_12 : decode cX7_every 12 = .ok (.invokevirtual 59, 3) := by decide +kernel
theorem dX7_every_15 : decode cX7_every 15 = .ok (.bipush 38, 2) := by decide +kernel
theorem dX7_every_17 : decode cX7_every 17 = .ok (.if_icmp .ne 26, 3) := by decide +kernel
theorem dX7_every_20 : decode cX7_every 20 = .ok (.aload_n 0, 1) := by decide +kernel
theorem dX7_every_21 : decode cX7_every 21 = .ok (.dup, 1) := by decide +kernel
theorem dX7_every_22 : decode cX7_every 22 = .ok (.getfield 49, 3) := by decide +kernel
theorem dX7_every_25 : decode cX7_every 25 = .ok (.iconst 1, 1) := by decide +kernel
theorem dX7_every_26 : decode cX7_every 26 = .ok (.iadd, 1) := by decide +kernel
theorem dX7_every_27 : decode cX7_every 27 = .ok (.putfield 49, 3) := by decide +kernel
theorem dX7_every_30 : decode cX7_every 30 = .ok (.aload_n 0, 1) := by decide +kernel
theorem dX7_every_31 : decode cX7_every 31 = .ok (.invokevirtual 82, 3) := by decide +kernel
theorem dX7_every_34 : decode cX7_every 34 = .ok (.aload_n 0, 1) := by decide +kernel
theorem dX7_every_35 : decode cX7_every 35 = .ok (.bipush (-2), 2) := by decide +kernel
theorem dX7_every_37 : decode cX7_every 37 = .ok (.invokevirtual 85, 3) := by decide +kernel
theorem dX7_every_40 : decode cX7_every 40 = .ok (.goto (-36), 3) := by decide +kernel
theorem dX7_every_43 : decode cX7_every 43 = .ok (.return_, 1) := by decide +kernel
theorem dX7_some_0 : decode cX7_some 0 = .ok (.aload_n 0, 1) := by decide +kernel
theorem dX7_some_1 : decode cX7_some 1 = .ok (.invokevirtual 102, 3) := by decide +kernel
theorem dX7_some_4 : decode cX7_some 4 = .ok (.aload_n 0, 1) := by decide +kernel
theorem dX7_some_5 : decode cX7_some 5 = .ok (.getfield 55, 3) := by decide +kernel
theorem dX7_some_8 : decode cX7_some 8 = .ok (.ifCond .ne 35, 3) := by decide +kernel
theorem dX7_some_11 : decode cX7_some 11 = .ok (.aload_n 0, 1) := by decide +kernel
theorem dX7_some_12 : decode cX7_some 12 = .ok (.invokevirtual 59, 3) := by decide +kernel
theorem dX7_some_15 : decode cX7_some 15 = .ok (.bipush 124, 2) := by decide +kernel
theorem dX7_some_17 : decode cX7_some 17 = .ok (.if_icmp .ne 26, 3) := by decide +kernel
theorem dX7_some_20 : decode cX7_some 20 = .ok (.aload_n 0, 1) := by decide +kernel
theorem dX7_some_21 : decode cX7_some 21 = .ok (.dup, 1) := by decide +kernel
theorem dX7_some_22 : decode cX7_some 22 = .ok (.getfield 49, 3) := by decide +kernel
theorem dX7_some_25 : decode cX7_some 25 = .ok (.iconst 1, 1) := by decide +kernel
theorem dX7_some_26 : decode cX7_some 26 = .ok (.iadd, 1) := by decide +kernel
theorem dX7_some_27 : decode cX7_some 27 = .ok (.putfield 49, 3) := by decide +kernel
theorem dX7_some_30 : decode cX7_some 30 = .ok (.aload_n 0, 1) := by decide +kernel
theorem dX7_some_31 : decode cX7_some 31 = .ok (.invokevirtual 102, 3) := by decide +kernel
theorem dX7_some_34 : decode cX7_some 34 = .ok (.aload_n 0, 1) := by decide +kernel
theorem dX7_some_35 : decode cX7_some 35 = .ok (.bipush (-3), 2) := by decide +kernel
theorem dX7_some_37 : decode cX7_some 37 = .ok (.invokevirtual 85, 3) := by decide +kernel
theorem dX7_some_40 : decode cX7_some 40 = .ok (.goto (-36), 3) := by decide +kernel
theorem dX7_some_43 : decode cX7_some 43 = .ok (.return_, 1) := by decide +kernel
theorem dX7_much_0 : decode cX7_much 0 = .ok (.aload_n 0, 1) := by decide +kernel
theorem dX7_much_1 : decode cX7_much 1 = .ok (.aload_n 2, 1) := by decide +kernel
theorem dX7_much_2 : decode cX7_much 2 = .ok (.invokevirtual 105, 3) := by decide +kernel
theorem dX7_much_5 : decode cX7_much 5 = .ok (.aload_n 0, 1) := by decide +kernel
theorem dX7_much_6 : decode cX7_much 6 = .ok (.invokevirtual 99, 3) := by decide +kernel
theorem dX7_much_9 : decode cX7_much 9 = .ok (.istore_n 3, 1) := by decide +kernel
theorem dX7_much_10 : decode cX7_much 10 = .ok (.aload_n 0, 1) := by decide +kernel
theorem dX7_much_11 : decode cX7_much 11 = .ok (.bipush 32, 2) := by decide +kernel
theorem dX7_much_13 : decode cX7_much 13 = .ok (.invokevirtual 72, 3) := by decide +kernel
theorem dX7_much_16 : decode cX7_much 16 = .ok (.aload_n 0, 1) := by decide +kernel
theorem dX7_much_17 : decode cX7_much 17 = .ok (.invokevirtual 88, 3) := by decide +kernel
theorem dX7_much_20 : decode cX7_much 20 = .ok (.aload_n 0, 1) := by decide +kernel
theorem dX7_much_21 : decode cX7_much 21 = .ok (.iload_n 1, 1) := by decide +kernel
theorem dX7_much_22 : decode cX7_much 22 = .ok (.iload_n 3, 1) := by decide +kernel
theorem dX7_much_23 : decode cX7_much 23 = .ok (.isub, 1) := by decide +kernel
theorem dX7_much_24 : decode cX7_much 24 = .ok (.invokevirtual 85, 3) := by decide +kernel
theorem dX7_much_27 : decode cX7_much 27 = .ok (.return_, 1) := by decide +kernel
theorem dX7_tellsHere_0 : decode cX7_tellsHere 0 = .ok (.aload_n 0, 1) := by decide +kernel
theorem dX7_tellsHere_1 : decode cX7_tellsHere 1 = .ok (.aload_n 2, 1) := by decide +kernel
theorem dX7_tellsHere_2 : decode cX7_tellsHere 2 = .ok (.invokevirtual 105, 3) := by decide +kernel
theorem dX7_tellsHere_5 : decode cX7_tellsHere 5 = .ok (.aload_n 0, 1) := by decide +kernel
theorem dX7_tellsHere_6 : decode cX7_tellsHere 6 = .ok (.invokevirtual 99, 3) := by decide +kernel
theorem dX7_tellsHere_9 : decode cX7_tellsHere 9 = .ok (.istore_n 3, 1) := by decide +kernel
theorem dX7_tellsHere_10 : decode cX7_tellsHere 10 = .ok (.aload_n 0, 1) := by decide +kernel
theorem dX7_tellsHere_11 : decode cX7_tellsHere 11 = .ok (.getfield 55, 3) := by decide +kernel
theorem dX7_tellsHere_14 : decode cX7_tellsHere 14 = .ok (.ifCond .ne 15, 3) := by decide +kernel
theorem dX7_tellsHere_17 : decode cX7_tellsHere 17 = .ok (.aload_n 0, 1) := by decide +kernel
theorem dX7_tellsHere_18 : decode cX7_tellsHere 18 = .ok (.getfield 7, 3) := by decide +kernel
theorem dX7_tellsHere_21 : decode cX7_tellsHere 21 = .ok (.iload_n 1, 1) := by decide +kernel
theorem dX7_tellsHere_22 : decode cX7_tellsHere 22 = .ok (.aload_n 0, 1) := by decide +kernel
theorem dX7_tellsHere_23 : decode cX7_tellsHere 23 = .ok (.getfield 76, 3) := by decide +kernel
theorem dX7_tellsHere_26 : decode cX7_tellsHere 26 = .ok (.iadd, 1) := by decide +kernel
theorem dX7_tellsHere_27 : decode cX7_tellsHere 27 = .ok (.iload_n 3, 1) := by decide +kernel
theorem dX7_tellsHere_28 : decode cX7_tellsHere 28 = .ok (.iastore, 1) := by decide +kernel
theorem dX7_tellsHere_29 : decode cX7_tellsHere 29 = .ok (.return_, 1) := by decide +kernel
theorem dX7_clauseHere_0 : decode cX7_clauseHere 0 = .ok (.aload_n 0, 1) := by decide +kernel
theorem dX7_clauseHere_1 : decode cX7_clauseHere 1 = .ok (.invokevirtual 59, 3) := by decide +kernel
theorem dX7_clauseHere_4 : decode cX7_clauseHere 4 = .ok (.lookupswitch 125 #[(98, 113), (108, 36), (115, 74)], 36) := by decide +kernel
theorem dX7_clauseHere_40 : decode cX7_clauseHere 40 = .ok (.aload_n 0, 1) := by decide +kernel
theorem dX7_clauseHere_41 : decode cX7_clauseHere 41 = .ok (.bipush 108, 2) := by decide +kernel
theorem dX7_clauseHere_43 : decode cX7_clauseHere 43 = .ok (.invokevirtual 72, 3) := by decide +kernel
theorem dX7_clauseHere_46 : decode cX7_clauseHere 46 = .ok (.aload_n 0, 1) := by decide +kernel
theorem dX7_clauseHere_47 : decode cX7_clauseHere 47 = .ok (.invokevirtual 59, 3) := by decide +kernel
theorem dX7_clauseHere_50 : decode cX7_clauseHere 50 = .ok (.bipush 111, 2) := by decide +kernel
theorem dX7_clauseHere_52 : decode cX7_clauseHere 52 = .ok (.if_icmp .ne 14, 3) := by decide +kernel
theorem dX7_clauseHere_55 : decode cX7_clauseHere 55 = .ok (.aload_n 0, 1) := by decide +kernel
theorem dX7_clauseHere_56 : decode cX7_clauseHere 56 = .ok (.bipush (-10), 2) := by decide +kernel
theorem dX7_clauseHere_58 : decode cX7_clauseHere 58 = .ok (.ldc 109, 2) := by decide +kernel
theorem dX7_clauseHere_60 : decode cX7_clauseHere 60 = .ok (.invokevirtual 111, 3) := by decide +kernel
theorem dX7_clauseHere_63 : decode cX7_clauseHere 63 = .ok (.goto 71, 3) := by decide +kernel
theorem dX7_clauseHere_66 : decode cX7_clauseHere 66 = .ok (.aload_n 0, 1) := by decide +kernel
theorem dX7_clauseHere_67 : decode cX7_clauseHere 67 = .ok (.sipush (-200), 3) := by decide +kernel
theorem dX7_clauseHere_70 : decode cX7_clauseHere 70 = .ok (.ldc 115, 2) := by decide +kernel
theorem dX7_clauseHere_72 : decode cX7_clauseHere 72 = .ok (.invokevirtual 111, 3) := by decide +kernel
theorem dX7_clauseHere_75 : decode cX7_clauseHere 75 = .ok (.goto 59, 3) := by decide +kernel
theorem dX7_clauseHere_78 : decode cX7_clauseHere 78 = .ok (.aload_n 0, 1) := by decide +kernel
theorem dX7_clauseHere_79 : decode cX7_clauseHere 79 = .ok (.bipush 115, 2) := by decide +kernel
theorem dX7_clauseHere_81 : decode cX7_clauseHere 81 = .ok (.invokevirtual 72, 3) := by decide +kernel
theorem dX7_clauseHere_84 : decode cX7_clauseHere 84 = .ok (.aload_n 0, 1) := by decide +kernel
theorem dX7_clauseHere_85 : decode cX7_clauseHere 85 = .ok (.invokevirtual 59, 3) := by decide +kernel
theorem dX7_clauseHere_88 : decode cX7_clauseHere 88 = .ok (.bipush 112, 2) := by decide +kernel
theorem dX7_clauseHere_90 : decode cX7_clauseHere 90 = .ok (.if_icmp .ne 15, 3) := by decide +kernel
theorem dX7_clauseHere_93 : decode cX7_clauseHere 93 = .ok (.aload_n 0, 1) := by decide +kernel
theorem dX7_clauseHere_94 : decode cX7_clauseHere 94 = .ok (.sipush 180, 3) := by decide +kernel
theorem dX7_clauseHere_97 : decode cX7_clauseHere 97 = .ok (.ldc 117, 2) := by decide +kernel
theorem dX7_clauseHere_99 : decode cX7_clauseHere 99 = .ok (.invokevirtual 119, 3) := by decide +kernel
theorem dX7_clauseHere_102 : decode cX7_clauseHere 102 = .ok (.goto 32, 3) := by decide +kernel
theorem dX7_clauseHere_105 : decode cX7_clauseHere 105 = .ok (.aload_n 0, 1) := by decide +kernel
theorem dX7_clauseHere_106 : decode cX7_clauseHere 106 = .ok (.sipush 190, 3) := by decide +kernel
theorem dX7_clauseHere_109 : decode cX7_clauseHere 109 = .ok (.ldc 122, 2) := by decide +kernel
theorem dX7_clauseHere_111 : decode cX7_clauseHere 111 = .ok (.invokevirtual 119, 3) := by decide +kernel
theorem dX7_clauseHere_114 : decode cX7_clauseHere 114 = .ok (.goto 20, 3) := by decide +kernel
theorem dX7_clauseHere_117 : decode cX7_clauseHere 117 = .ok (.aload_n 0, 1) := by decide +kernel
theorem dX7_clauseHere_118 : decode cX7_clauseHere 118 = .ok (.sipush 185, 3) := by decide +kernel
theorem dX7_clauseHere_121 : decode cX7_clauseHere 121 = .ok (.ldc 124, 2) := by decide +kernel
theorem dX7_clauseHere_123 : decode cX7_clauseHere 123 = .ok (.invokevirtual 119, 3) := by decide +kernel
theorem dX7_clauseHere_126 : decode cX7_clauseHere 126 = .ok (.goto 8, 3) := by decide +kernel
theorem dX7_clauseHere_129 : decode cX7_clauseHere 129 = .ok (.aload_n 0, 1) := by decide +kernel
theorem dX7_clauseHere_130 : decode cX7_clauseHere 130 = .ok (.iconst 1, 1) := by decide +kernel
theorem dX7_clauseHere_131 : decode cX7_clauseHere 131 = .ok (.putfield 55, 3) := by decide +kernel
theorem dX7_clauseHere_134 : decode cX7_clauseHere 134 = .ok (.return_, 1) := by decide +kernel
theorem dX7_show_0 : decode cX7_show 0 = .ok (.aload_n 0, 1) := by decide +kernel
theorem dX7_show_1 : decode cX7_show 1 = .ok (.getfield 7, 3) := by decide +kernel
theorem dX7_show_4 : decode cX7_show 4 = .ok (.iconst 1, 1) := by decide +kernel
theorem dX7_show_5 : decode cX7_show 5 = .ok (.iaload, 1) := by decide +kernel
theorem dX7_show_6 : decode cX7_show 6 = .ok (.iconst 5, 1) := by decide +kernel
theorem dX7_show_7 : decode cX7_show 7 = .ok (.if_icmp .ne 6, 3) := by decide +kernel
theorem dX7_show_10 : decode cX7_show 10 = .ok (.bipush (-4), 2) := by decide +kernel
theorem dX7_show_12 : decode cX7_show 12 = .ok (.ireturn, 1) := by decide +kernel
theorem dX7_show_13 : decode cX7_show 13 = .ok (.aload_n 0, 1) := by decide +kernel
theorem dX7_show_14 : decode cX7_show 14 = .ok (.aload_n 0, 1) := by decide +kernel
theorem dX7_show_15 : decode cX7_show 15 = .ok (.getfield 7, 3) := by decide +kernel
theorem dX7_show_18 : decode cX7_show 18 = .ok (.iconst 1, 1) := by decide +kernel
theorem dX7_show_19 : decode cX7_show 19 = .ok (.iaload, 1) := by decide +kernel
theorem dX7_show_20 : decode cX7_show 20 = .ok (.putfield 76, 3) := by decide +kernel
theorem dX7_show_23 : decode cX7_show 23 = .ok (.aload_n 0, 1) := by decide +kernel
theorem dX7_show_24 : decode cX7_show 24 = .ok (.aload_n 0, 1) := by decide +kernel
theorem dX7_show_25 : decode cX7_show 25 = .ok (.getfield 7, 3) := by decide +kernel
theorem dX7_show_28 : decode cX7_show 28 = .ok (.iconst 4, 1) := by decide +kernel
theorem dX7_show_29 : decode cX7_show 29 = .ok (.iaload, 1) := by decide +kernel
theorem dX7_show_30 : decode cX7_show 30 = .ok (.putfield 52, 3) := by decide +kernel
theorem dX7_show_33 : decode cX7_show 33 = .ok (.aload_n 0, 1) := by decide +kernel
theorem dX7_show_34 : decode cX7_show 34 = .ok (.getfield 7, 3) := by decide +kernel
theorem dX7_show_37 : decode cX7_show 37 = .ok (.iconst 4, 1) := by decide +kernel
theorem dX7_show_38 : decode cX7_show 38 = .ok (.iconst 0, 1) := by decide +kernel
theorem dX7_show_39 : decode cX7_show 39 = .ok (.iastore, 1) := by decide +kernel
theorem dX7_show_40 : decode cX7_show 40 = .ok (.aload_n 0, 1) := by decide +kernel
theorem dX7_show_41 : decode cX7_show 41 = .ok (.getfield 7, 3) := by decide +kernel
theorem dX7_show_44 : decode cX7_show 44 = .ok (.sipush 180, 3) := by decide +kernel
theorem dX7_show_47 : decode cX7_show 47 = .ok (.aload_n 0, 1) := by decide +kernel
theorem dX7_show_48 : decode cX7_show 48 = .ok (.getfield 76, 3) := by decide +kernel
theorem dX7_show_51 : decode cX7_show 51 = .ok (.iadd, 1) := by decide +kernel
theorem dX7_show_52 : decode cX7_show 52 = .ok (.iconst 3, 1) := by decide +kernel
theorem dX7_show_53 : decode cX7_show 53 = .ok (.iastore, 1) := by decide +kernel
theorem dX7_show_54 : decode cX7_show 54 = .ok (.aload_n 0, 1) := by decide +kernel
theorem dX7_show_55 : decode cX7_show 55 = .ok (.getfield 7, 3) := by decide +kernel
theorem dX7_show_58 : decode cX7_show 58 = .ok (.sipush 185, 3) := by decide +kernel
theorem dX7_show_61 : decode cX7_show 61 = .ok (.aload_n 0, 1) := by decide +kernel
theorem dX7_show_62 : decode cX7_show 62 = .ok (.getfield 76, 3) := by decide +kernel
theorem dX7_show_65 : decode cX7_show 65 = .ok (.iadd, 1) := by decide +kernel
theorem dX7_show_66 : decode cX7_show 66 = .ok (.bipush 50, 2) := by decide +kernel
theorem dX7_show_68 : decode cX7_show 68 = .ok (.iastore, 1) := by decide +kernel
theorem dX7_show_69 : decode cX7_show 69 = .ok (.aload_n 0, 1) := by decide +kernel
theorem dX7_show_70 : decode cX7_show 70 = .ok (.getfield 7, 3) := by decide +kernel
theorem dX7_show_73 : decode cX7_show 73 = .ok (.sipush 190, 3) := by decide +kernel
theorem dX7_show_76 : decode cX7_show 76 = .ok (.aload_n 0, 1) := by decide +kernel
theorem dX7_show_77 : decode cX7_show 77 = .ok (.getfield 76, 3) := by decide +kernel
theorem dX7_show_80 : decode cX7_show 80 = .ok (.iadd, 1) := by decide +kernel
theorem dX7_show_81 : decode cX7_show 81 = .ok (.iconst 2, 1) := by decide +kernel
theorem dX7_show_82 : decode cX7_show 82 = .ok (.iastore, 1) := by decide +kernel
theorem dX7_show_83 : decode cX7_show 83 = .ok (.aload_n 0, 1) := by decide +kernel
theorem dX7_show_84 : decode cX7_show 84 = .ok (.getfield 7, 3) := by decide +kernel
theorem dX7_show_87 : decode cX7_show 87 = .ok (.sipush 195, 3) := by decide +kernel
theorem dX7_show_90 : decode cX7_show 90 = .ok (.aload_n 0, 1) := by decide +kernel
theorem dX7_show_91 : decode cX7_show 91 = .ok (.getfield 76, 3) := by decide +kernel
theorem dX7_show_94 : decode cX7_show 94 = .ok (.iadd, 1) := by decide +kernel
theorem dX7_show_95 : decode cX7_show 95 = .ok (.iconst 0, 1) := by decide +kernel
theorem dX7_show_96 : decode cX7_show 96 = .ok (.iastore, 1) := by decide +kernel
theorem dX7_show_97 : decode cX7_show 97 = .ok (.aload_n 0, 1) := by decide +kernel
theorem dX7_show_98 : decode cX7_show 98 = .ok (.iconst 0, 1) := by decide +kernel
theorem dX7_show_99 : decode cX7_show 99 = .ok (.putfield 49, 3) := by decide +kernel
theorem dX7_show_102 : decode cX7_show 102 = .ok (.aload_n 0, 1) := by decide +kernel
theorem dX7_show_103 : decode cX7_show 103 = .ok (.iconst 0, 1) := by decide +kernel
theorem dX7_show_104 : decode cX7_show 104 = .ok (.putfield 55, 3) := by decide +kernel
theorem dX7_show_107 : decode cX7_show 107 = .ok (.aload_n 0, 1) := by decide +kernel
theorem dX7_show_108 : decode cX7_show 108 = .ok (.iconst 0, 1) := by decide +kernel
theorem dX7_show_109 : decode cX7_show 109 = .ok (.putfield 79, 3) := by decide +kernel
theorem dX7_show_112 : decode cX7_show 112 = .ok (.iconst 1, 1) := by decide +kernel
theorem dX7_show_113 : decode cX7_show 113 = .ok (.istore_n 1, 1) := by decide +kernel
theorem dX7_show_114 : decode cX7_show 114 = .ok (.aload_n 0, 1) := by decide +kernel
theorem dX7_show_115 : decode cX7_show 115 = .ok (.invokevirtual 126, 3) := by decide +kernel
theorem dX7_show_118 : decode cX7_show 118 = .ok (.aload_n 0, 1) := by decide +kernel
theorem dX7_show_119 : decode cX7_show 119 = .ok (.getfield 55, 3) := by decide +kernel
theorem dX7_show_122 : decode cX7_show 122 = .ok (.ifCond .ne 38, 3) := by decide +kernel
theorem dX7_show_125 : decode cX7_show 125 = .ok (.iload_n 1, 1) := by decide +kernel
theorem dX7_show_126 : decode cX7_show 126 = .ok (.bipush 10, 2) := by decide +kernel
theorem dX7_show_128 : decode cX7_show 128 = .ok (.if_icmp .ge 32, 3) := by decide +kernel
theorem dX7_show_131 : decode cX7_show 131 = .ok (.aload_n 0, 1) := by decide +kernel
theorem dX7_show_132 : decode cX7_show 132 = .ok (.invokevirtual 59, 3) := by decide +kernel
theorem dX7_show_135 : decode cX7_show 135 = .ok (.bipush 59, 2) := by decide +kernel
theorem dX7_show_137 : decode cX7_show 137 = .ok (.if_icmp .ne 23, 3) := by decide +kernel
theorem dX7_show_140 : decode cX7_show 140 = .ok (.aload_n 0, 1) := by decide +kernel
theorem dX7_show_141 : decode cX7_show 141 = .ok (.dup, 1) := by decide +kernel
theorem dX7_show_142 : decode cX7_show 142 = .ok (.getfield 49, 3) := by decide +kernel
theorem dX7_show_145 : decode cX7_show 145 = .ok (.iconst 1, 1) := by decide +kernel
theorem dX7_show_146 : decode cX7_show 146 = .ok (.iadd, 1) := by decide +kernel
theorem dX7_show_147 : decode cX7_show 147 = .ok (.putfield 49, 3) := by decide +kernel
theorem dX7_show_150 : decode cX7_show 150 = .ok (.aload_n 0, 1) := by decide +kernel
theorem dX7_show_151 : decode cX7_show 151 = .ok (.invokevirtual 126, 3) := by decide +kernel
theorem dX7_show_154 : decode cX7_show 154 = .ok (.iinc 1 1, 3) := by decide +kernel
theorem dX7_show_157 : decode cX7_show 157 = .ok (.goto (-39), 3) := by decide +kernel
theorem dX7_show_160 : decode cX7_show 160 = .ok (.aload_n 0, 1) := by decide +kernel
theorem dX7_show_161 : decode cX7_show 161 = .ok (.getfield 55, 3) := by decide +kernel
theorem dX7_show_164 : decode cX7_show 164 = .ok (.ifCond .ne 14, 3) := by decide +kernel
theorem dX7_show_167 : decode cX7_show 167 = .ok (.aload_n 0, 1) := by decide +kernel
theorem dX7_show_168 : decode cX7_show 168 = .ok (.getfield 49, 3) := by decide +kernel
theorem dX7_show_171 : decode cX7_show 171 = .ok (.aload_n 0, 1) := by decide +kernel
theorem dX7_show_172 : decode cX7_show 172 = .ok (.getfield 52, 3) := by decide +kernel
theorem dX7_show_175 : decode cX7_show 175 = .ok (.if_icmp .eq 11, 3) := by decide +kernel
theorem dX7_show_178 : decode cX7_show 178 = .ok (.bipush (-10), 2) := by decide +kernel
theorem dX7_show_180 : decode cX7_show 180 = .ok (.aload_n 0, 1) := by decide +kernel
theorem dX7_show_181 : decode cX7_show 181 = .ok (.getfield 49, 3) := by decide +kernel
theorem dX7_show_184 : decode cX7_show 184 = .ok (.isub, 1) := by decide +kernel
theorem dX7_show_185 : decode cX7_show 185 = .ok (.ireturn, 1) := by decide +kernel
theorem dX7_show_186 : decode cX7_show 186 = .ok (.aload_n 0, 1) := by decide +kernel
theorem dX7_show_187 : decode cX7_show 187 = .ok (.getfield 7, 3) := by decide +kernel
theorem dX7_show_190 : decode cX7_show 190 = .ok (.iconst 1, 1) := by decide +kernel
theorem dX7_show_191 : decode cX7_show 191 = .ok (.dup2, 1) := by decide +kernel
theorem dX7_show_192 : decode cX7_show 192 = .ok (.iaload, 1) := by decide +kernel
theorem dX7_show_193 : decode cX7_show 193 = .ok (.iconst 1, 1) := by decide +kernel
theorem dX7_show_194 : decode cX7_show 194 = .ok (.iadd, 1) := by decide +kernel
theorem dX7_show_195 : decode cX7_show 195 = .ok (.iastore, 1) := by decide +kernel
theorem dX7_show_196 : decode cX7_show 196 = .ok (.aload_n 0, 1) := by decide +kernel
theorem dX7_show_197 : decode cX7_show 197 = .ok (.getfield 7, 3) := by decide +kernel
theorem dX7_show_200 : decode cX7_show 200 = .ok (.bipush 6, 2) := by decide +kernel
theorem dX7_show_202 : decode cX7_show 202 = .ok (.aload_n 0, 1) := by decide +kernel
theorem dX7_show_203 : decode cX7_show 203 = .ok (.getfield 76, 3) := by decide +kernel
theorem dX7_show_206 : decode cX7_show 206 = .ok (.iastore, 1) := by decide +kernel
theorem dX7_show_207 : decode cX7_show 207 = .ok (.aload_n 0, 1) := by decide +kernel
theorem dX7_show_208 : decode cX7_show 208 = .ok (.getfield 76, 3) := by decide +kernel
theorem dX7_show_211 : decode cX7_show 211 = .ok (.ireturn, 1) := by decide +kernel
theorem dX7_tellsOf_0 : decode cX7_tellsOf 0 = .ok (.aload_n 0, 1) := by decide +kernel
theorem dX7_tellsOf_1 : decode cX7_tellsOf 1 = .ok (.getfield 7, 3) := by decide +kernel
theorem dX7_tellsOf_4 : decode cX7_tellsOf 4 = .ok (.bipush 6, 2) := by decide +kernel
theorem dX7_tellsOf_6 : decode cX7_tellsOf 6 = .ok (.iaload, 1) := by decide +kernel
theorem dX7_tellsOf_7 : decode cX7_tellsOf 7 = .ok (.iconst (-1), 1) := by decide +kernel
theorem dX7_tellsOf_8 : decode cX7_tellsOf 8 = .ok (.if_icmp .ne 7, 3) := by decide +kernel
theorem dX7_tellsOf_11 : decode cX7_tellsOf 11 = .ok (.iload_n 2, 1) := by decide +kernel
theorem dX7_tellsOf_12 : decode cX7_tellsOf 12 = .ok (.goto 17, 3) := by decide +kernel
theorem dX7_tellsOf_15 : decode cX7_tellsOf 15 = .ok (.aload_n 0, 1) := by decide +kernel
theorem dX7_tellsOf_16 : decode cX7_tellsOf 16 = .ok (.getfield 7, 3) := by decide +kernel
theorem dX7_tellsOf_19 : decode cX7_tellsOf 19 = .ok (.iload_n 1, 1) := by decide +kernel
theorem dX7_tellsOf_20 : decode cX7_tellsOf 20 = .ok (.aload_n 0, 1) := by decide +kernel
theorem dX7_tellsOf_21 : decode cX7_tellsOf 21 = .ok (.getfield 7, 3) := by decide +kernel
theorem dX7_tellsOf_24 : decode cX7_tellsOf 24 = .ok (.bipush 6, 2) := by decide +kernel
theorem dX7_tellsOf_26 : decode cX7_tellsOf 26 = .ok (.iaload, 1) := by decide +kernel
theorem dX7_tellsOf_27 : decode cX7_tellsOf 27 = .ok (.iadd, 1) := by decide +kernel
theorem dX7_tellsOf_28 : decode cX7_tellsOf 28 = .ok (.iaload, 1) := by decide +kernel
theorem dX7_tellsOf_29 : decode cX7_tellsOf 29 = .ok (.ireturn, 1) := by decide +kernel
theorem dX7_atLeastOne_0 : decode cX7_atLeastOne 0 = .ok (.iload_n 1, 1) := by decide +kernel
theorem dX7_atLeastOne_1 : decode cX7_atLeastOne 1 = .ok (.iconst 1, 1) := by decide +kernel
theorem dX7_atLeastOne_2 : decode cX7_atLeastOne 2 = .ok (.if_icmp .ge 7, 3) := by decide +kernel
theorem dX7_atLeastOne_5 : decode cX7_atLeastOne 5 = .ok (.iconst 1, 1) := by decide +kernel
theorem dX7_atLeastOne_6 : decode cX7_atLeastOne 6 = .ok (.goto 4, 3) := by decide +kernel
theorem dX7_atLeastOne_9 : decode cX7_atLeastOne 9 = .ok (.iload_n 1, 1) := by decide +kernel
theorem dX7_atLeastOne_10 : decode cX7_atLeastOne 10 = .ok (.ireturn, 1) := by decide +kernel
theorem dX7_speed_0 : decode cX7_speed 0 = .ok (.aload_n 0, 1) := by decide +kernel
theorem dX7_speed_1 : decode cX7_speed 1 = .ok (.sipush 180, 3) := by decide +kernel
theorem dX7_speed_4 : decode cX7_speed 4 = .ok (.iconst 3, 1) := by decide +kernel
theorem dX7_speed_5 : decode cX7_speed 5 = .ok (.invokevirtual 129, 3) := by decide +kernel
theorem dX7_speed_8 : decode cX7_speed 8 = .ok (.ireturn, 1) := by decide +kernel
theorem dX7_told_0 : decode cX7_told 0 = .ok (.iload_n 1, 1) := by decide +kernel
theorem dX7_told_1 : decode cX7_told 1 = .ok (.tableswitch 59 0 2 #[27, 32, 46], 27) := by decide +kernel
theorem dX7_told_28 : decode cX7_told 28 = .ok (.aload_n 0, 1) := by decide +kernel
theorem dX7_told_29 : decode cX7_told 29 = .ok (.invokevirtual 133, 3) := by decide +kernel
theorem dX7_told_32 : decode cX7_told 32 = .ok (.ireturn, 1) := by decide +kernel
theorem dX7_told_33 : decode cX7_told 33 = .ok (.aload_n 0, 1) := by decide +kernel
theorem dX7_told_34 : decode cX7_told 34 = .ok (.aload_n 0, 1) := by decide +kernel
theorem dX7_told_35 : decode cX7_told 35 = .ok (.sipush 185, 3) := by decide +kernel
theorem dX7_told_38 : decode cX7_told 38 = .ok (.bipush 50, 2) := by decide +kernel
theorem dX7_told_40 : decode cX7_told 40 = .ok (.invokevirtual 129, 3) := by decide +kernel
theorem dX7_told_43 : decode cX7_told 43 = .ok (.invokevirtual 136, 3) := by decide +kernel
theorem dX7_told_46 : decode cX7_told 46 = .ok (.ireturn, 1) := by decide +kernel
theorem dX7_told_47 : decode cX7_told 47 = .ok (.aload_n 0, 1) := by decide +kernel
theorem dX7_told_48 : decode cX7_told 48 = .ok (.aload_n 0, 1) := by decide +kernel
theorem dX7_told_49 : decode cX7_told 49 = .ok (.sipush 190, 3) := by decide +kernel
theorem dX7_told_52 : decode cX7_told 52 = .ok (.iconst 2, 1) := by decide +kernel
theorem dX7_told_53 : decode cX7_told 53 = .ok (.invokevirtual 129, 3) := by decide +kernel
theorem dX7_told_56 : decode cX7_told 56 = .ok (.invokevirtual 136, 3) := by decide +kernel
theorem dX7_told_59 : decode cX7_told 59 = .ok (.ireturn, 1) := by decide +kernel
theorem dX7_told_60 : decode cX7_told 60 = .ok (.iconst (-1), 1) := by decide +kernel
theorem dX7_told_61 : decode cX7_told 61 = .ok (.ireturn, 1) := by decide +kernel
theorem dX7_looks_0 : decode cX7_looks 0 = .ok (.aload_n 0, 1) := by decide +kernel
theorem dX7_looks_1 : decode cX7_looks 1 = .ok (.getfield 16, 3) := by decide +kernel
theorem dX7_looks_4 : decode cX7_looks 4 = .ok (.iconst 0, 1) := by decide +kernel
theorem dX7_looks_5 : decode cX7_looks 5 = .ok (.iload_n 1, 1) := by decide +kernel
theorem dX7_looks_6 : decode cX7_looks 6 = .ok (.iastore, 1) := by decide +kernel
theorem dX7_looks_7 : decode cX7_looks 7 = .ok (.aload_n 0, 1) := by decide +kernel
theorem dX7_looks_8 : decode cX7_looks 8 = .ok (.getfield 16, 3) := by decide +kernel
theorem dX7_looks_11 : decode cX7_looks 11 = .ok (.iconst 1, 1) := by decide +kernel
theorem dX7_looks_12 : decode cX7_looks 12 = .ok (.aload_n 0, 1) := by decide +kernel
theorem dX7_looks_13 : decode cX7_looks 13 = .ok (.getfield 7, 3) := by decide +kernel
theorem dX7_looks_16 : decode cX7_looks 16 = .ok (.sipush 150, 3) := by decide +kernel
theorem dX7_looks_19 : decode cX7_looks 19 = .ok (.iload_n 1, 1) := by decide +kernel
theorem dX7_looks_20 : decode cX7_looks 20 = .ok (.iadd, 1) := by decide +kernel
theorem dX7_looks_21 : decode cX7_looks 21 = .ok (.iaload, 1) := by decide +kernel
theorem dX7_looks_22 : decode cX7_looks 22 = .ok (.bipush 8, 2) := by decide +kernel
theorem dX7_looks_24 : decode cX7_looks 24 = .ok (.idiv, 1) := by decide +kernel
theorem dX7_looks_25 : decode cX7_looks 25 = .ok (.iastore, 1) := by decide +kernel
theorem dX7_looks_26 : decode cX7_looks 26 = .ok (.aload_n 0, 1) := by decide +kernel
theorem dX7_looks_27 : decode cX7_looks 27 = .ok (.getfield 16, 3) := by decide +kernel
theorem dX7_looks_30 : decode cX7_looks 30 = .ok (.iconst 2, 1) := by decide +kernel
theorem dX7_looks_31 : decode cX7_looks 31 = .ok (.aload_n 0, 1) := by decide +kernel
theorem dX7_looks_32 : decode cX7_looks 32 = .ok (.getfield 7, 3) := by decide +kernel
theorem dX7_looks_35 : decode cX7_looks 35 = .ok (.sipush 150, 3) := by decide +kernel
theorem dX7_looks_38 : decode cX7_looks 38 = .ok (.iload_n 1, 1) := by decide +kernel
theorem dX7_looks_39 : decode cX7_looks 39 = .ok (.iadd, 1) := by decide +kernel
theorem dX7_looks_40 : decode cX7_looks 40 = .ok (.iaload, 1) := by decide +kernel
theorem dX7_looks_41 : decode cX7_looks 41 = .ok (.bipush 8, 2) := by decide +kernel
theorem dX7_looks_43 : decode cX7_looks 43 = .ok (.irem, 1) := by decide +kernel
theorem dX7_looks_44 : decode cX7_looks 44 = .ok (.iastore, 1) := by decide +kernel
theorem dX7_looks_45 : decode cX7_looks 45 = .ok (.aload_n 0, 1) := by decide +kernel
theorem dX7_looks_46 : decode cX7_looks 46 = .ok (.getfield 16, 3) := by decide +kernel
theorem dX7_looks_49 : decode cX7_looks 49 = .ok (.iconst 3, 1) := by decide +kernel
theorem dX7_looks_50 : decode cX7_looks 50 = .ok (.iload_n 2, 1) := by decide +kernel
theorem dX7_looks_51 : decode cX7_looks 51 = .ok (.iastore, 1) := by decide +kernel
theorem dX7_looks_52 : decode cX7_looks 52 = .ok (.aload_n 0, 1) := by decide +kernel
theorem dX7_looks_53 : decode cX7_looks 53 = .ok (.getfield 16, 3) := by decide +kernel
theorem dX7_looks_56 : decode cX7_looks 56 = .ok (.iconst 4, 1) := by decide +kernel
theorem dX7_looks_57 : decode cX7_looks 57 = .ok (.aload_n 0, 1) := by decide +kernel
theorem dX7_looks_58 : decode cX7_looks 58 = .ok (.getfield 7, 3) := by decide +kernel
theorem dX7_looks_61 : decode cX7_looks 61 = .ok (.sipush 140, 3) := by decide +kernel
theorem dX7_looks_64 : decode cX7_looks 64 = .ok (.iload_n 1, 1) := by decide +kernel
theorem dX7_looks_65 : decode cX7_looks 65 = .ok (.iadd, 1) := by decide +kernel
theorem dX7_looks_66 : decode cX7_looks 66 = .ok (.iaload, 1) := by decide +kernel
theorem dX7_looks_67 : decode cX7_looks 67 = .ok (.iastore, 1) := by decide +kernel
theorem dX7_looks_68 : decode cX7_looks 68 = .ok (.aload_n 0, 1) := by decide +kernel
theorem dX7_looks_69 : decode cX7_looks 69 = .ok (.iconst 1, 1) := by decide +kernel
theorem dX7_looks_70 : decode cX7_looks 70 = .ok (.putfield 139, 3) := by decide +kernel
theorem dX7_looks_73 : decode cX7_looks 73 = .ok (.aload_n 0, 1) := by decide +kernel
theorem dX7_looks_74 : decode cX7_looks 74 = .ok (.iconst 0, 1) := by decide +kernel
theorem dX7_looks_75 : decode cX7_looks 75 = .ok (.putfield 142, 3) := by decide +kernel
theorem dX7_looks_78 : decode cX7_looks 78 = .ok (.aload_n 0, 1) := by decide +kernel
theorem dX7_looks_79 : decode cX7_looks 79 = .ok (.sipush 195, 3) := by decide +kernel
theorem dX7_looks_82 : decode cX7_looks 82 = .ok (.iconst 0, 1) := by decide +kernel
theorem dX7_looks_83 : decode cX7_looks 83 = .ok (.invokevirtual 129, 3) := by decide +kernel
theorem dX7_looks_86 : decode cX7_looks 86 = .ok (.istore_n 3, 1) := by decide +kernel
theorem dX7_looks_87 : decode cX7_looks 87 = .ok (.sipush 200, 3) := by decide +kernel
theorem dX7_looks_90 : decode cX7_looks 90 = .ok (.sipush 140, 3) := by decide +kernel
theorem dX7_looks_93 : decode cX7_looks 93 = .ok (.aload_n 0, 1) := by decide +kernel
theorem dX7_looks_94 : decode cX7_looks 94 = .ok (.getfield 7, 3) := by decide +kernel
theorem dX7_looks_97 : decode cX7_looks 97 = .ok (.bipush 6, 2) := by decide +kernel
theorem dX7_looks_99 : decode cX7_looks 99 = .ok (.iaload, 1) := by decide +kernel
theorem dX7_looks_100 : decode cX7_looks 100 = .ok (.imul, 1) := by decide +kernel
theorem dX7_looks_101 : decode cX7_looks 101 = .ok (.iadd, 1) := by decide +kernel
theorem dX7_looks_102 : decode cX7_looks 102 = .ok (.istore 4, 2) := by decide +kernel
theorem dX7_looks_104 : decode cX7_looks 104 = .ok (.iconst 0, 1) := by decide +kernel
theorem dX7_looks_105 : decode cX7_looks 105 = .ok (.istore 5, 2) := by decide +kernel
theorem dX7_looks_107 : decode cX7_looks 107 = .ok (.iload 4, 2) := by decide +kernel
theorem dX7_looks_109 : decode cX7_looks 109 = .ok (.istore 6, 2) := by decide +kernel
theorem dX7_looks_111 : decode cX7_looks 111 = .ok (.iload 6, 2) := by decide +kernel
theorem dX7_looks_113 : decode cX7_looks 113 = .ok (.iload 4, 2) := by decide +kernel
theorem dX7_looks_115 : decode cX7_looks 115 = .ok (.iload_n 3, 1) := by decide +kernel
theorem dX7_looks_116 : decode cX7_looks 116 = .ok (.iadd, 1) := by decide +kernel
theorem dX7_looks_117 : decode cX7_looks 117 = .ok (.if_icmp .ge 312, 3) := by decide +kernel
theorem dX7_looks_120 : decode cX7_looks 120 = .ok (.aload_n 0, 1) := by decide +kernel
theorem dX7_looks_121 : decode cX7_looks 121 = .ok (.getfield 7, 3) := by decide +kernel
theorem dX7_looks_124 : decode cX7_looks 124 = .ok (.iload 6, 2) := by decide +kernel
theorem dX7_looks_126 : decode cX7_looks 126 = .ok (.iaload, 1) := by decide +kernel
theorem dX7_looks_127 : decode cX7_looks 127 = .ok (.istore 7, 2) := by decide +kernel
theorem dX7_looks_129 : decode cX7_looks 129 = .ok (.iload 7, 2) := by decide +kernel
theorem dX7_looks_131 : decode cX7_looks 131 = .ok (.ifCond .lt 97, 3) := by decide +kernel
theorem dX7_looks_134 : decode cX7_looks 134 = .ok (.aload_n 0, 1) := by decide +kernel
theorem dX7_looks_135 : decode cX7_looks 135 = .ok (.getfield 16, 3) := by decide +kernel
theorem dX7_looks_138 : decode cX7_looks 138 = .ok (.iload 7, 2) := by decide +kernel
theorem dX7_looks_140 : decode cX7_looks 140 = .ok (.bipush 8, 2) := by decide +kernel
theorem dX7_looks_142 : decode cX7_looks 142 = .ok (.irem, 1) := by decide +kernel
theorem dX7_looks_143 : decode cX7_looks 143 = .ok (.iaload, 1) := by decide +kernel
theorem dX7_looks_144 : decode cX7_looks 144 = .ok (.istore 8, 2) := by decide +kernel
theorem dX7_looks_146 : decode cX7_looks 146 = .ok (.iload 7, 2) := by decide +kernel
theorem dX7_looks_148 : decode cX7_looks 148 = .ok (.bipush 8, 2) := by decide +kernel
theorem dX7_looks_150 : decode cX7_looks 150 = .ok (.idiv, 1) := by decide +kernel
theorem dX7_looks_151 : decode cX7_looks 151 = .ok (.iconst 4, 1) := by decide +kernel
theorem dX7_looks_152 : decode cX7_looks 152 = .ok (.irem, 1) := by decide +kernel
theorem dX7_looks_153 : decode cX7_looks 153 = .ok (.istore 9, 2) := by decide +kernel
theorem dX7_looks_155 : decode cX7_looks 155 = .ok (.iload 7, 2) := by decide +kernel
theorem dX7_looks_157 : decode cX7_looks 157 = .ok (.bipush 32, 2) := by decide +kernel
theorem dX7_looks_159 : decode cX7_looks 159 = .ok (.idiv, 1) := by decide +kernel
theorem dX7_looks_160 : decode cX7_looks 160 = .ok (.istore 10, 2) := by decide +kernel
theorem dX7_looks_162 : decode cX7_looks 162 = .ok (.aload_n 0, 1) := by decide +kernel
theorem dX7_looks_163 : decode cX7_looks 163 = .ok (.getfield 19, 3) := by decide +kernel
theorem dX7_looks_166 : decode cX7_looks 166 = .ok (.iload 5, 2) := by decide +kernel
theorem dX7_looks_168 : decode cX7_looks 168 = .ok (.iload 9, 2) := by decide +kernel
theorem dX7_looks_170 : decode cX7_looks 170 = .ok (.ifCond .ne 18, 3) := by decide +kernel
theorem dX7_looks_173 : decode cX7_looks 173 = .ok (.iload 8, 2) := by decide +kernel
theorem dX7_looks_175 : decode cX7_looks 175 = .ok (.iload 10, 2) := by decide +kernel
theorem dX7_looks_177 : decode cX7_looks 177 = .ok (.if_icmp .ge 7, 3) := by decide +kernel
theorem dX7_looks_180 : decode cX7_looks 180 = .ok (.iconst 1, 1) := by decide +kernel
theorem dX7_looks_181 : decode cX7_looks 181 = .ok (.goto 40, 3) := by decide +kernel
theorem dX7_looks_184 : decode cX7_looks 184 = .ok (.iconst 0, 1) := by decide +kernel
theorem dX7_looks_185 : decode cX7_looks 185 = .ok (.goto 36, 3) := by decide +kernel
theorem dX7_looks_188 : decode cX7_looks 188 = .ok (.iload 9, 2) := by decide +kernel
theorem dX7_looks_190 : decode cX7_looks 190 = .ok (.iconst 1, 1) := by decide +kernel
theorem dX7_looks_191 : decode cX7_looks 191 = .ok (.if_icmp .ne 18, 3) := by decide +kernel
theorem dX7_looks_194 : decode cX7_looks 194 = .ok (.iload 8, 2) := by decide +kernel
theorem dX7_looks_196 : decode cX7_looks 196 = .ok (.iload 10, 2) := by decide +kernel
theorem dX7_looks_198 : decode cX7_looks 198 = .ok (.if_icmp .ne 7, 3) := by decide +kernel
theorem dX7_looks_201 : decode cX7_looks 201 = .ok (.iconst 1, 1) := by decide +kernel
theorem dX7_looks_202 : decode cX7_looks 202 = .ok (.goto 19, 3) := by decide +kernel
theorem dX7_looks_205 : decode cX7_looks 205 = .ok (.iconst 0, 1) := by decide +kernel
theorem dX7_looks_206 : decode cX7_looks 206 = .ok (.goto 15, 3) := by decide +kernel
theorem dX7_looks_209 : decode cX7_looks 209 = .ok (.iload 8, 2) := by decide +kernel
theorem dX7_looks_211 : decode cX7_looks 211 = .ok (.iload 10, 2) := by decide +kernel
theorem dX7_looks_213 : decode cX7_looks 213 = .ok (.if_icmp .le 7, 3) := by decide +kernel
theorem dX7_looks_216 : decode cX7_looks 216 = .ok (.iconst 1, 1) := by decide +kernel
theorem dX7_looks_217 : decode cX7_looks 217 = .ok (.goto 4, 3) := by decide +kernel
theorem dX7_looks_220 : decode cX7_looks 220 = .ok (.iconst 0, 1) := by decide +kernel
theorem dX7_looks_221 : decode cX7_looks 221 = .ok (.bastore, 1) := by decide +kernel
theorem dX7_looks_222 : decode cX7_looks 222 = .ok (.iinc 5 1, 3) := by decide +kernel
theorem dX7_looks_225 : decode cX7_looks 225 = .ok (.goto 198, 3) := by decide +kernel
theorem dX7_looks_228 : decode cX7_looks 228 = .ok (.iload 7, 2) := by decide +kernel
theorem dX7_looks_230 : decode cX7_looks 230 = .ok (.iconst (-1), 1) := by decide +kernel
theorem dX7_looks_231 : decode cX7_looks 231 = .ok (.if_icmp .ne 32, 3) := by decide +kernel
theorem dX7_looks_234 : decode cX7_looks 234 = .ok (.aload_n 0, 1) := by decide +kernel
theorem dX7_looks_235 : decode cX7_looks 235 = .ok (.getfield 19, 3) := by decide +kernel
theorem dX7_looks_238 : decode cX7_looks 238 = .ok (.iload 5, 2) := by decide +kernel
theorem dX7_looks_240 : decode cX7_looks 240 = .ok (.iconst 1, 1) := by decide +kernel
theorem dX7_looks_241 : decode cX7_looks 241 = .ok (.isub, 1) := by decide +kernel
theorem dX7_looks_242 : decode cX7_looks 242 = .ok (.aload_n 0, 1) := by decide +kernel
theorem dX7_looks_243 : decode cX7_looks 243 = .ok (.getfield 19, 3) := by decide +kernel
theorem dX7_looks_246 : decode cX7_looks 246 = .ok (.iload 5, 2) := by decide +kernel
theorem dX7_looks_248 : decode cX7_looks 248 = .ok (.iconst 1, 1) := by decide +kernel
theorem dX7_looks_249 : decode cX7_looks 249 = .ok (.isub, 1) := by decide +kernel
theorem dX7_looks_250 : decode cX7_looks 250 = .ok (.baload, 1) := by decide +kernel
theorem dX7_looks_251 : decode cX7_looks 251 = .ok (.ifCond .ne 7, 3) := by decide +kernel
theorem dX7_looks_254 : decode cX7_looks 254 = .ok (.iconst 1, 1) := by decide +kernel
theorem dX7_looks_255 : decode cX7_looks 255 = .ok (.goto 4, 3) := by decide +kernel
theorem dX7_looks_258 : decode cX7_looks 258 = .ok (.iconst 0, 1) := by decide +kernel
theorem dX7_looks_259 : decode cX7_looks 259 = .ok (.bastore, 1) := by decide +kernel
theorem dX7_looks_260 : decode cX7_looks 260 = .ok (.goto 163, 3) := by decide +kernel
theorem dX7_looks_263 : decode cX7_looks 263 = .ok (.iload 7, 2) := by decide +kernel
theorem dX7_looks_265 : decode cX7_looks 265 = .ok (.bipush (-10), 2) := by decide +kernel
theorem dX7_looks_267 : decode cX7_looks 267 = .ok (.if_icmp .le 82, 3) := by decide +kernel
theorem dX7_looks_270 : decode cX7_looks 270 = .ok (.iinc 5 (-1), 3) := by decide +kernel
theorem dX7_looks_273 : decode cX7_looks 273 = .ok (.aload_n 0, 1) := by decide +kernel
theorem dX7_looks_274 : decode cX7_looks 274 = .ok (.getfield 19, 3) := by decide +kernel
theorem dX7_looks_277 : decode cX7_looks 277 = .ok (.iload 5, 2) := by decide +kernel
theorem dX7_looks_279 : decode cX7_looks 279 = .ok (.iconst 1, 1) := by decide +kernel
theorem dX7_looks_280 : decode cX7_looks 280 = .ok (.isub, 1) := by decide +kernel
theorem dX7_looks_281 : decode cX7_looks 281 = .ok (.iload 7, 2) := by decide +kernel
theorem dX7_looks_283 : decode cX7_looks 283 = .ok (.bipush (-2), 2) := by decide +kernel
theorem dX7_looks_285 : decode cX7_looks 285 = .ok (.if_icmp .ne 33, 3) := by decide +kernel
theorem dX7_looks_288 : decode cX7_looks 288 = .ok (.aload_n 0, 1) := by decide +kernel
theorem dX7_looks_289 : decode cX7_looks 289 = .ok (.getfield 19, 3) := by decide +kernel
theorem dX7_looks_292 : decode cX7_looks 292 = .ok (.iload 5, 2) := by decide +kernel
theorem dX7_looks_294 : decode cX7_looks 294 = .ok (.iconst 1, 1) := by decide +kernel
theorem dX7_looks_295 : decode cX7_looks 295 = .ok (.isub, 1) := by decide +kernel
theorem dX7_looks_296 : decode cX7_looks 296 = .ok (.baload, 1) := by decide +kernel
theorem dX7_looks_297 : decode cX7_looks 297 = .ok (.ifCond .eq 17, 3) := by decide +kernel
theorem dX7_looks_300 : decode cX7_looks 300 = .ok (.aload_n 0, 1) := by decide +kernel
theorem dX7_looks_301 : decode cX7_looks 301 = .ok (.getfield 19, 3) := by decide +kernel
theorem dX7_looks_304 : decode cX7_looks 304 = .ok (.iload 5, 2) := by decide +kernel
theorem dX7_looks_306 : decode cX7_looks 306 = .ok (.baload, 1) := by decide +kernel
theorem dX7_looks_307 : decode cX7_looks 307 = .ok (.ifCond .eq 7, 3) := by decide +kernel
theorem dX7_looks_310 : decode cX7_looks 310 = .ok (.iconst 1, 1) := by decide +kernel
theorem dX7_looks_311 : decode cX7_looks 311 = .ok (.goto 34, 3) := by decide +kernel
theorem dX7_looks_314 : decode cX7_looks 314 = .ok (.iconst 0, 1) := by decide +kernel
theorem dX7_looks_315 : decode cX7_looks 315 = .ok (.goto 30, 3) := by decide +kernel
theorem dX7_looks_318 : decode cX7_looks 318 = .ok (.aload_n 0, 1) := by decide +kernel
theorem dX7_looks_319 : decode cX7_looks 319 = .ok (.getfield 19, 3) := by decide +kernel
theorem dX7_looks_322 : decode cX7_looks 322 = .ok (.iload 5, 2) := by decide +kernel
theorem dX7_looks_324 : decode cX7_looks 324 = .ok (.iconst 1, 1) := by decide +kernel
theorem dX7_looks_325 : decode cX7_looks 325 = .ok (.isub, 1) := by decide +kernel
theorem dX7_looks_326 : decode cX7_looks 326 = .ok (.baload, 1) := by decide +kernel
theorem dX7_looks_327 : decode cX7_looks 327 = .ok (.ifCond .ne 13, 3) := by decide +kernel
theorem dX7_looks_330 : decode cX7_looks 330 = .ok (.aload_n 0, 1) := by decide +kernel
theorem dX7_looks_331 : decode cX7_looks 331 = .ok (.getfield 19, 3) := by decide +kernel
theorem dX7_looks_334 : decode cX7_looks 334 = .ok (.iload 5, 2) := by decide +kernel
theorem dX7_looks_336 : decode cX7_looks 336 = .ok (.baload, 1) := by decide +kernel
theorem dX7_looks_337 : decode cX7_looks 337 = .ok (.ifCond .eq 7, 3) := by decide +kernel
theorem dX7_looks_340 : decode cX7_looks 340 = .ok (.iconst 1, 1) := by decide +kernel
theorem dX7_looks_341 : decode cX7_looks 341 = .ok (.goto 4, 3) := by decide +kernel
theorem dX7_looks_344 : decode cX7_looks 344 = .ok (.iconst 0, 1) := by decide +kernel
theorem dX7_looks_345 : decode cX7_looks 345 = .ok (.bastore, 1) := by decide +kernel
theorem dX7_looks_346 : decode cX7_looks 346 = .ok (.goto 77, 3) := by decide +kernel
theorem dX7_looks_349 : decode cX7_looks 349 = .ok (.iconst 0, 1) := by decide +kernel
theorem dX7_looks_350 : decode cX7_looks 350 = .ok (.istore 5, 2) := by decide +kernel
theorem dX7_looks_352 : decode cX7_looks 352 = .ok (.aload_n 0, 1) := by decide +kernel
theorem dX7_looks_353 : decode cX7_looks 353 = .ok (.dup, 1) := by decide +kernel
theorem dX7_looks_354 : decode cX7_looks 354 = .ok (.getfield 139, 3) := by decide +kernel
theorem dX7_looks_357 : decode cX7_looks 357 = .ok (.aload_n 0, 1) := by decide +kernel
theorem dX7_looks_358 : decode cX7_looks 358 = .ok (.getfield 19, 3) := by decide +kernel
theorem dX7_looks_361 : decode cX7_looks 361 = .ok (.iconst 0, 1) := by decide +kernel
theorem dX7_looks_362 : decode cX7_looks 362 = .ok (.baload, 1) := by decide +kernel
theorem dX7_looks_363 : decode cX7_looks 363 = .ok (.ifCond .eq 19, 3) := by decide +kernel
theorem dX7_looks_366 : decode cX7_looks 366 = .ok (.iload 7, 2) := by decide +kernel
theorem dX7_looks_368 : decode cX7_looks 368 = .ok (.sipush (-200), 3) := by decide +kernel
theorem dX7_looks_371 : decode cX7_looks 371 = .ok (.if_icmp .le 11, 3) := by decide +kernel
theorem dX7_looks_374 : decode cX7_looks 374 = .ok (.bipush (-10), 2) := by decide +kernel
theorem dX7_looks_376 : decode cX7_looks 376 = .ok (.iload 7, 2) := by decide +kernel
theorem dX7_looks_378 : decode cX7_looks 378 = .ok (.isub, 1) := by decide +kernel
theorem dX7_looks_379 : decode cX7_looks 379 = .ok (.goto 4, 3) := by decide +kernel
theorem dX7_looks_382 : decode cX7_looks 382 = .ok (.iconst 0, 1) := by decide +kernel
theorem dX7_looks_383 : decode cX7_looks 383 = .ok (.iadd, 1) := by decide +kernel
theorem dX7_looks_384 : decode cX7_looks 384 = .ok (.putfield 139, 3) := by decide +kernel
theorem dX7_looks_387 : decode cX7_looks 387 = .ok (.aload_n 0, 1) := by decide +kernel
theorem dX7_looks_388 : decode cX7_looks 388 = .ok (.dup, 1) := by decide +kernel
theorem dX7_looks_389 : decode cX7_looks 389 = .ok (.getfield 142, 3) := by decide +kernel
theorem dX7_looks_392 : decode cX7_looks 392 = .ok (.aload_n 0, 1) := by decide +kernel
theorem dX7_looks_393 : decode cX7_looks 393 = .ok (.getfield 19, 3) := by decide +kernel
theorem dX7_looks_396 : decode cX7_looks 396 = .ok (.iconst 0, 1) := by decide +kernel
theorem dX7_looks_397 : decode cX7_looks 397 = .ok (.baload, 1) := by decide +kernel
theorem dX7_looks_398 : decode cX7_looks 398 = .ok (.ifCond .eq 20, 3) := by decide +kernel
theorem dX7_looks_401 : decode cX7_looks 401 = .ok (.iload 7, 2) := by decide +kernel
theorem dX7_looks_403 : decode cX7_looks 403 = .ok (.sipush (-200), 3) := by decide +kernel
theorem dX7_looks_406 : decode cX7_looks 406 = .ok (.if_icmp .gt 12, 3) := by decide +kernel
theorem dX7_looks_409 : decode cX7_looks 409 = .ok (.sipush (-200), 3) := by decide +kernel
theorem dX7_looks_412 : decode cX7_looks 412 = .ok (.iload 7, 2) := by decide +kernel
theorem dX7_looks_414 : decode cX7_looks 414 = .ok (.isub, 1) := by decide +kernel
theorem dX7_looks_415 : decode cX7_looks 415 = .ok (.goto 4, 3) := by decide +kernel
theorem dX7_looks_418 : decode cX7_looks 418 = .ok (.iconst 0, 1) := by decide +kernel
theorem dX7_looks_419 : decode cX7_looks 419 = .ok (.iadd, 1) := by decide +kernel
theorem dX7_looks_420 : decode cX7_looks 420 = .ok (.putfield 142, 3) := by decide +kernel
theorem dX7_looks_423 : decode cX7_looks 423 = .ok (.iinc 6 1, 3) := by decide +kernel
theorem dX7_looks_426 : decode cX7_looks 426 = .ok (.goto (-315), 3) := by decide +kernel
theorem dX7_looks_429 : decode cX7_looks 429 = .ok (.return_, 1) := by decide +kernel
theorem dX7_playerOn_0 : decode cX7_playerOn 0 = .ok (.iconst (-1), 1) := by decide +kernel
theorem dX7_playerOn_1 : decode cX7_playerOn 1 = .ok (.istore_n 2, 1) := by decide +kernel
theorem dX7_playerOn_2 : decode cX7_playerOn 2 = .ok (.iconst 0, 1) := by decide +kernel
theorem dX7_playerOn_3 : decode cX7_playerOn 3 = .ok (.istore_n 3, 1) := by decide +kernel
theorem dX7_playerOn_4 : decode cX7_playerOn 4 = .ok (.iload_n 3, 1) := by decide +kernel
theorem dX7_playerOn_5 : decode cX7_playerOn 5 = .ok (.aload_n 0, 1) := by decide +kernel
theorem dX7_playerOn_6 : decode cX7_playerOn 6 = .ok (.getfield 7, 3) := by decide +kernel
theorem dX7_playerOn_9 : decode cX7_playerOn 9 = .ok (.iconst 0, 1) := by decide +kernel
theorem dX7_playerOn_10 : decode cX7_playerOn 10 = .ok (.iaload, 1) := by decide +kernel
theorem dX7_playerOn_11 : decode cX7_playerOn 11 = .ok (.if_icmp .ge 29, 3) := by decide +kernel
theorem dX7_playerOn_14 : decode cX7_playerOn 14 = .ok (.aload_n 0, 1) := by decide +kernel
theorem dX7_playerOn_15 : decode cX7_playerOn 15 = .ok (.getfield 7, 3) := by decide +kernel
theorem dX7_playerOn_18 : decode cX7_playerOn 18 = .ok (.sipush 150, 3) := by decide +kernel
theorem dX7_playerOn_21 : decode cX7_playerOn 21 = .ok (.iload_n 3, 1) := by decide +kernel
theorem dX7_playerOn_22 : decode cX7_playerOn 22 = .ok (.iadd, 1) := by decide +kernel
theorem dX7_playerOn_23 : decode cX7_playerOn 23 = .ok (.iaload, 1) := by decide +kernel
theorem dX7_playerOn_24 : decode cX7_playerOn 24 = .ok (.iload_n 1, 1) := by decide +kernel
theorem dX7_playerOn_25 : decode cX7_playerOn 25 = .ok (.if_icmp .ne 7, 3) := by decide +kernel
theorem dX7_playerOn_28 : decode cX7_playerOn 28 = .ok (.iload_n 3, 1) := by decide +kernel
theorem dX7_playerOn_29 : decode cX7_playerOn 29 = .ok (.goto 4, 3) := by decide +kernel
theorem dX7_playerOn_32 : decode cX7_playerOn 32 = .ok (.iload_n 2, 1) := by decide +kernel
theorem dX7_playerOn_33 : decode cX7_playerOn 33 = .ok (.istore_n 2, 1) := by decide +kernel
theorem dX7_playerOn_34 : decode cX7_playerOn 34 = .ok (.iinc 3 1, 3) := by decide +kernel
theorem dX7_playerOn_37 : decode cX7_playerOn 37 = .ok (.goto (-33), 3) := by decide +kernel
theorem dX7_playerOn_40 : decode cX7_playerOn 40 = .ok (.iload_n 2, 1) := by decide +kernel
theorem dX7_playerOn_41 : decode cX7_playerOn 41 = .ok (.ireturn, 1) := by decide +kernel
theorem dX7_player_0 : decode cX7_player 0 = .ok (.iload_n 1, 1) := by decide +kernel
theorem dX7_player_1 : decode cX7_player 1 = .ok (.iconst 0, 1) := by decide +kernel
theorem dX7_player_2 : decode cX7_player 2 = .ok (.bipush 6, 2) := by decide +kernel
theorem dX7_player_4 : decode cX7_player 4 = .ok (.invokestatic 39, 3) := by decide +kernel
theorem dX7_player_7 : decode cX7_player 7 = .ok (.ifCond .eq 10, 3) := by decide +kernel
theorem dX7_player_10 : decode cX7_player 10 = .ok (.iload_n 3, 1) := by decide +kernel
theorem dX7_player_11 : decode cX7_player 11 = .ok (.invokestatic 145, 3) := by decide +kernel
theorem dX7_player_14 : decode cX7_player 14 = .ok (.ifCond .ne 5, 3) := by decide +kernel
theorem dX7_player_17 : decode cX7_player 17 = .ok (.iconst (-1), 1) := by decide +kernel
theorem dX7_player_18 : decode cX7_player 18 = .ok (.ireturn, 1) := by decide +kernel
theorem dX7_player_19 : decode cX7_player 19 = .ok (.iload_n 2, 1) := by decide +kernel
theorem dX7_player_20 : decode cX7_player 20 = .ok (.iconst 0, 1) := by decide +kernel
theorem dX7_player_21 : decode cX7_player 21 = .ok (.bipush 9, 2) := by decide +kernel
theorem dX7_player_23 : decode cX7_player 23 = .ok (.invokestatic 39, 3) := by decide +kernel
theorem dX7_player_26 : decode cX7_player 26 = .ok (.ifCond .ne 6, 3) := by decide +kernel
theorem dX7_player_29 : decode cX7_player 29 = .ok (.bipush (-2), 2) := by decide +kernel
theorem dX7_player_31 : decode cX7_player 31 = .ok (.ireturn, 1) := by decide +kernel
theorem dX7_player_32 : decode cX7_player 32 = .ok (.aload_n 0, 1) := by decide +kernel
theorem dX7_player_33 : decode cX7_player 33 = .ok (.iload_n 3, 1) := by decide +kernel
theorem dX7_player_34 : decode cX7_player 34 = .ok (.invokevirtual 149, 3) := by decide +kernel
theorem dX7_player_37 : decode cX7_player 37 = .ok (.iconst (-1), 1) := by decide +kernel
theorem dX7_player_38 : decode cX7_player 38 = .ok (.if_icmp .eq 6, 3) := by decide +kernel
theorem dX7_player_41 : decode cX7_player 41 = .ok (.bipush (-3), 2) := by decide +kernel
theorem dX7_player_43 : decode cX7_player 43 = .ok (.ireturn, 1) := by decide +kernel
theorem dX7_player_44 : decode cX7_player 44 = .ok (.aload_n 0, 1) := by decide +kernel
theorem dX7_player_45 : decode cX7_player 45 = .ok (.getfield 7, 3) := by decide +kernel
theorem dX7_player_48 : decode cX7_player 48 = .ok (.iconst 0, 1) := by decide +kernel
theorem dX7_player_49 : decode cX7_player 49 = .ok (.iaload, 1) := by decide +kernel
theorem dX7_player_50 : decode cX7_player 50 = .ok (.bipush 10, 2) := by decide +kernel
theorem dX7_player_52 : decode cX7_player 52 = .ok (.if_icmp .ne 6, 3) := by decide +kernel
theorem dX7_player_55 : decode cX7_player 55 = .ok (.bipush (-4), 2) := by decide +kernel
theorem dX7_player_57 : decode cX7_player 57 = .ok (.ireturn, 1) := by decide +kernel
theorem dX7_player_58 : decode cX7_player 58 = .ok (.aload_n 0, 1) := by decide +kernel
theorem dX7_player_59 : decode cX7_player 59 = .ok (.getfield 7, 3) := by decide +kernel
theorem dX7_player_62 : decode cX7_player 62 = .ok (.iconst 0, 1) := by decide +kernel
theorem dX7_player_63 : decode cX7_player 63 = .ok (.iaload, 1) := by decide +kernel
theorem dX7_player_64 : decode cX7_player 64 = .ok (.istore 4, 2) := by decide +kernel
theorem dX7_player_66 : decode cX7_player 66 = .ok (.aload_n 0, 1) := by decide +kernel
theorem dX7_player_67 : decode cX7_player 67 = .ok (.getfield 7, 3) := by decide +kernel
theorem dX7_player_70 : decode cX7_player 70 = .ok (.sipush 130, 3) := by decide +kernel
theorem dX7_player_73 : decode cX7_player 73 = .ok (.iload 4, 2) := by decide +kernel
theorem dX7_player_75 : decode cX7_player 75 = .ok (.iadd, 1) := by decide +kernel
theorem dX7_player_76 : decode cX7_player 76 = .ok (.iload_n 1, 1) := by decide +kernel
theorem dX7_player_77 : decode cX7_player 77 = .ok (.iastore, 1) := by decide +kernel
theorem dX7_player_78 : decode cX7_player 78 = .ok (.aload_n 0, 1) := by decide +kernel
theorem dX7_player_79 : decode cX7_player 79 = .ok (.getfield 7, 3) := by decide +kernel
theorem dX7_player_82 : decode cX7_player 82 = .ok (.sipush 140, 3) := by decide +kernel
theorem dX7_player_85 : decode cX7_player 85 = .ok (.iload 4, 2) := by decide +kernel
theorem dX7_player_87 : decode cX7_player 87 = .ok (.iadd, 1) := by decide +kernel
theorem dX7_player_88 : decode cX7_player 88 = .ok (.iload_n 2, 1) := by decide +kernel
theorem dX7_player_89 : decode cX7_player 89 = .ok (.iastore, 1) := by decide +kernel
theorem dX7_player_90 : decode cX7_player 90 = .ok (.aload_n 0, 1) := by decide +kernel
theorem dX7_player_91 : decode cX7_player 91 = .ok (.getfield 7, 3) := by decide +kernel
theorem dX7_player_94 : decode cX7_player 94 = .ok (.sipush 150, 3) := by decide +kernel
theorem dX7_player_97 : decode cX7_player 97 = .ok (.iload 4, 2) := by decide +kernel
theorem dX7_player_99 : decode cX7_player 99 = .ok (.iadd, 1) := by decide +kernel
theorem dX7_player_100 : decode cX7_player 100 = .ok (.iload_n 3, 1) := by decide +kernel
theorem dX7_player_101 : decode cX7_player 101 = .ok (.iastore, 1) := by decide +kernel
theorem dX7_player_102 : decode cX7_player 102 = .ok (.aload_n 0, 1) := by decide +kernel
theorem dX7_player_103 : decode cX7_player 103 = .ok (.getfield 7, 3) := by decide +kernel
theorem dX7_player_106 : decode cX7_player 106 = .ok (.iconst 0, 1) := by decide +kernel
theorem dX7_player_107 : decode cX7_player 107 = .ok (.dup2, 1) := by decide +kernel
theorem dX7_player_108 : decode cX7_player 108 = .ok (.iaload, 1) := by decide +kernel
theorem dX7_player_109 : decode cX7_player 109 = .ok (.iconst 1, 1) := by decide +kernel
theorem dX7_player_110 : decode cX7_player 110 = .ok (.iadd, 1) := by decide +kernel
theorem dX7_player_111 : decode cX7_player 111 = .ok (.iastore, 1) := by decide +kernel
theorem dX7_player_112 : decode cX7_player 112 = .ok (.iload 4, 2) := by decide +kernel
theorem dX7_player_114 : decode cX7_player 114 = .ok (.ireturn, 1) := by decide +kernel
theorem dX7_drum_0 : decode cX7_drum 0 = .ok (.iload_n 1, 1) := by decide +kernel
theorem dX7_drum_1 : decode cX7_drum 1 = .ok (.invokestatic 145, 3) := by decide +kernel
theorem dX7_drum_4 : decode cX7_drum 4 = .ok (.ifCond .ne 5, 3) := by decide +kernel
theorem dX7_drum_7 : decode cX7_drum 7 = .ok (.iconst (-1), 1) := by decide +kernel
theorem dX7_drum_8 : decode cX7_drum 8 = .ok (.ireturn, 1) := by decide +kernel
theorem dX7_drum_9 : decode cX7_drum 9 = .ok (.aload_n 0, 1) := by decide +kernel
theorem dX7_drum_10 : decode cX7_drum 10 = .ok (.getfield 7, 3) := by decide +kernel
theorem dX7_drum_13 : decode cX7_drum 13 = .ok (.iconst 5, 1) := by decide +kernel
theorem dX7_drum_14 : decode cX7_drum 14 = .ok (.iaload, 1) := by decide +kernel
theorem dX7_drum_15 : decode cX7_drum 15 = .ok (.istore_n 2, 1) := by decide +kernel
theorem dX7_drum_16 : decode cX7_drum 16 = .ok (.aload_n 0, 1) := by decide +kernel
theorem dX7_drum_17 : decode cX7_drum 17 = .ok (.getfield 7, 3) := by decide +kernel
theorem dX7_drum_20 : decode cX7_drum 20 = .ok (.iconst 5, 1) := by decide +kernel
theorem dX7_drum_21 : decode cX7_drum 21 = .ok (.iload_n 1, 1) := by decide +kernel
theorem dX7_drum_22 : decode cX7_drum 22 = .ok (.iastore, 1) := by decide +kernel
theorem dX7_drum_23 : decode cX7_drum 23 = .ok (.iload_n 2, 1) := by decide +kernel
theorem dX7_drum_24 : decode cX7_drum 24 = .ok (.ireturn, 1) := by decide +kernel
theorem dX7_put_0 : decode cX7_put 0 = .ok (.aload_n 0, 1) := by decide +kernel
theorem dX7_put_1 : decode cX7_put 1 = .ok (.iload_n 1, 1) := by decide +kernel
theorem dX7_put_2 : decode cX7_put 2 = .ok (.invokevirtual 152, 3) := by decide +kernel
theorem dX7_put_5 : decode cX7_put 5 = .ok (.ifCond .eq 10, 3) := by decide +kernel
theorem dX7_put_8 : decode cX7_put 8 = .ok (.iload_n 2, 1) := by decide +kernel
theorem dX7_put_9 : decode cX7_put 9 = .ok (.invokestatic 145, 3) := by decide +kernel
theorem dX7_put_12 : decode cX7_put 12 = .ok (.ifCond .ne 5, 3) := by decide +kernel
theorem dX7_put_15 : decode cX7_put 15 = .ok (.iconst (-1), 1) := by decide +kernel
theorem dX7_put_16 : decode cX7_put 16 = .ok (.ireturn, 1) := by decide +kernel
theorem dX7_put_17 : decode cX7_put 17 = .ok (.aload_n 0, 1) := by decide +kernel
theorem dX7_put_18 : decode cX7_put 18 = .ok (.iload_n 2, 1) := by decide +kernel
theorem dX7_put_19 : decode cX7_put 19 = .ok (.invokevirtual 149, 3) := by decide +kernel
theorem dX7_put_22 : decode cX7_put 22 = .ok (.iconst (-1), 1) := by decide +kernel
theorem dX7_put_23 : decode cX7_put 23 = .ok (.if_icmp .eq 15, 3) := by decide +kernel
theorem dX7_put_26 : decode cX7_put 26 = .ok (.aload_n 0, 1) := by decide +kernel
theorem dX7_put_27 : decode cX7_put 27 = .ok (.iload_n 2, 1) := by decide +kernel
theorem dX7_put_28 : decode cX7_put 28 = .ok (.invokevirtual 149, 3) := by decide +kernel
theorem dX7_put_31 : decode cX7_put 31 = .ok (.iload_n 1, 1) := by decide +kernel
theorem dX7_put_32 : decode cX7_put 32 = .ok (.if_icmp .eq 6, 3) := by decide +kernel
theorem dX7_put_35 : decode cX7_put 35 = .ok (.bipush (-3), 2) := by decide +kernel
theorem dX7_put_37 : decode cX7_put 37 = .ok (.ireturn, 1) := by decide +kernel
theorem dX7_put_38 : decode cX7_put 38 = .ok (.aload_n 0, 1) := by decide +kernel
theorem dX7_put_39 : decode cX7_put 39 = .ok (.getfield 7, 3) := by decide +kernel
theorem dX7_put_42 : decode cX7_put 42 = .ok (.sipush 150, 3) := by decide +kernel
theorem dX7_put_45 : decode cX7_put 45 = .ok (.iload_n 1, 1) := by decide +kernel
theorem dX7_put_46 : decode cX7_put 46 = .ok (.iadd, 1) := by decide +kernel
theorem dX7_put_47 : decode cX7_put 47 = .ok (.iaload, 1) := by decide +kernel
theorem dX7_put_48 : decode cX7_put 48 = .ok (.istore_n 3, 1) := by decide +kernel
theorem dX7_put_49 : decode cX7_put 49 = .ok (.aload_n 0, 1) := by decide +kernel
theorem dX7_put_50 : decode cX7_put 50 = .ok (.getfield 7, 3) := by decide +kernel
theorem dX7_put_53 : decode cX7_put 53 = .ok (.sipush 150, 3) := by decide +kernel
theorem dX7_put_56 : decode cX7_put 56 = .ok (.iload_n 1, 1) := by decide +kernel
theorem dX7_put_57 : decode cX7_put 57 = .ok (.iadd, 1) := by decide +kernel
theorem dX7_put_58 : decode cX7_put 58 = .ok (.iload_n 2, 1) := by decide +kernel
theorem dX7_put_59 : decode cX7_put 59 = .ok (.iastore, 1) := by decide +kernel
theorem dX7_put_60 : decode cX7_put 60 = .ok (.iload_n 3, 1) := by decide +kernel
theorem dX7_put_61 : decode cX7_put 61 = .ok (.ireturn, 1) := by decide +kernel
theorem dX7_nearestInColumn_0 : decode cX7_nearestInColumn 0 = .ok (.iconst (-1), 1) := by decide +kernel
theorem dX7_nearestInColumn_1 : decode cX7_nearestInColumn 1 = .ok (.istore_n 3, 1) := by decide +kernel
theorem dX7_nearestInColumn_2 : decode cX7_nearestInColumn 2 = .ok (.iconst 0, 1) := by decide +kernel
theorem dX7_nearestInColumn_3 : decode cX7_nearestInColumn 3 = .ok (.istore 4, 2) := by decide +kernel
theorem dX7_nearestInColumn_5 : decode cX7_nearestInColumn 5 = .ok (.iload 4, 2) := by decide +kernel
theorem dX7_nearestInColumn_7 : decode cX7_nearestInColumn 7 = .ok (.aload_n 0, 1) := by decide +kernel
theorem dX7_nearestInColumn_8 : decode cX7_nearestInColumn 8 = .ok (.getfield 7, 3) := by decide +kernel
theorem dX7_nearestInColumn_11 : decode cX7_nearestInColumn 11 = .ok (.iconst 0, 1) := by decide +kernel
theorem dX7_nearestInColumn_12 : decode cX7_nearestInColumn 12 = .ok (.iaload, 1) := by decide +kernel
theorem dX7_nearestInColumn_13 : decode cX7_nearestInColumn 13 = .ok (.if_icmp .ge 157, 3) := by decide +kernel
theorem dX7_nearestInColumn_16 : decode cX7_nearestInColumn 16 = .ok (.aload_n 0, 1) := by decide +kernel
theorem dX7_nearestInColumn_17 : decode cX7_nearestInColumn 17 = .ok (.getfield 7, 3) := by decide +kernel
theorem dX7_nearestInColumn_20 : decode cX7_nearestInColumn 20 = .ok (.sipush 150, 3) := by decide +kernel
theorem dX7_nearestInColumn_23 : decode cX7_nearestInColumn 23 = .ok (.iload 4, 2) := by decide +kernel
theorem dX7_nearestInColumn_25 : decode cX7_nearestInColumn 25 = .ok (.iadd, 1) := by decide +kernel
theorem dX7_nearestInColumn_26 : decode cX7_nearestInColumn 26 = .ok (.iaload, 1) := by decide +kernel
theorem dX7_nearestInColumn_27 : decode cX7_nearestInColumn 27 = .ok (.bipush 8, 2) := by decide +kernel
theorem dX7_nearestInColumn_29 : decode cX7_nearestInColumn 29 = .ok (.idiv, 1) := by decide +kernel
theorem dX7_nearestInColumn_30 : decode cX7_nearestInColumn 30 = .ok (.aload_n 0, 1) := by decide +kernel
theorem dX7_nearestInColumn_31 : decode cX7_nearestInColumn 31 = .ok (.getfield 7, 3) := by decide +kernel
theorem dX7_nearestInColumn_34 : decode cX7_nearestInColumn 34 = .ok (.sipush 150, 3) := by decide +kernel
theorem dX7_nearestInColumn_37 : decode cX7_nearestInColumn 37 = .ok (.iload_n 1, 1) := by decide +kernel
theorem dX7_nearestInColumn_38 : decode cX7_nearestInColumn 38 = .ok (.iadd, 1) := by decide +kernel
theorem dX7_nearestInColumn_39 : decode cX7_nearestInColumn 39 = .ok (.iaload, 1) := by decide +kernel
theorem dX7_nearestInColumn_40 : decode cX7_nearestInColumn 40 = .ok (.bipush 8, 2) := by decide +kernel
theorem dX7_nearestInColumn_42 : decode cX7_nearestInColumn 42 = .ok (.idiv, 1) := by decide +kernel
theorem dX7_nearestInColumn_43 : decode cX7_nearestInColumn 43 = .ok (.isub, 1) := by decide +kernel
theorem dX7_nearestInColumn_44 : decode cX7_nearestInColumn 44 = .ok (.istore 5, 2) := by decide +kernel
theorem dX7_nearestInColumn_46 : decode cX7_nearestInColumn 46 = .ok (.iload 4, 2) := by decide +kernel
theorem dX7_nearestInColumn_48 : decode cX7_nearestInColumn 48 = .ok (.aload_n 0, 1) := by decide +kernel
theorem dX7_nearestInColumn_49 : decode cX7_nearestInColumn 49 = .ok (.getfield 23, 3) := by decide +kernel
theorem dX7_nearestInColumn_52 : decode cX7_nearestInColumn 52 = .ok (.if_icmp .eq 54, 3) := by decide +kernel
theorem dX7_nearestInColumn_55 : decode cX7_nearestInColumn 55 = .ok (.aload_n 0, 1) := by decide +kernel
theorem dX7_nearestInColumn_56 : decode cX7_nearestInColumn 56 = .ok (.getfield 7, 3) := by decide +kernel
theorem dX7_nearestInColumn_59 : decode cX7_nearestInColumn 59 = .ok (.sipush 150, 3) := by decide +kernel
theorem dX7_nearestInColumn_62 : decode cX7_nearestInColumn 62 = .ok (.iload 4, 2) := by decide +kernel
theorem dX7_nearestInColumn_64 : decode cX7_nearestInColumn 64 = .ok (.iadd, 1) := by decide +kernel
theorem dX7_nearestInColumn_65 : decode cX7_nearestInColumn 65 = .ok (.iaload, 1) := by decide +kernel
theorem dX7_nearestInColumn_66 : decode cX7_nearestInColumn 66 = .ok (.bipush 8, 2) := by decide +kernel
theorem dX7_nearestInColumn_68 : decode cX7_nearestInColumn 68 = .ok (.irem, 1) := by decide +kernel
theorem dX7_nearestInColumn_69 : decode cX7_nearestInColumn 69 = .ok (.aload_n 0, 1) := by decide +kernel
theorem dX7_nearestInColumn_70 : decode cX7_nearestInColumn 70 = .ok (.getfield 7, 3) := by decide +kernel
theorem dX7_nearestInColumn_73 : decode cX7_nearestInColumn 73 = .ok (.sipush 150, 3) := by decide +kernel
theorem dX7_nearestInColumn_76 : decode cX7_nearestInColumn 76 = .ok (.iload_n 1, 1) := by decide +kernel
theorem dX7_nearestInColumn_77 : decode cX7_nearestInColumn 77 = .ok (.iadd, 1) := by decide +kernel
theorem dX7_nearestInColumn_78 : decode cX7_nearestInColumn 78 = .ok (.iaload, 1) := by decide +kernel
theorem dX7_nearestInColumn_79 : decode cX7_nearestInColumn 79 = .ok (.bipush 8, 2) := by decide +kernel
theorem dX7_nearestInColumn_81 : decode cX7_nearestInColumn 81 = .ok (.irem, 1) := by decide +kernel
theorem dX7_nearestInColumn_82 : decode cX7_nearestInColumn 82 = .ok (.if_icmp .ne 24, 3) := by decide +kernel
theorem dX7_nearestInColumn_85 : decode cX7_nearestInColumn 85 = .ok (.iload_n 2, 1) := by decide +kernel
theorem dX7_nearestInColumn_86 : decode cX7_nearestInColumn 86 = .ok (.ifCond .eq 11, 3) := by decide +kernel
theorem dX7_nearestInColumn_89 : decode cX7_nearestInColumn 89 = .ok (.iload 5, 2) := by decide +kernel
theorem dX7_nearestInColumn_91 : decode cX7_nearestInColumn 91 = .ok (.ifCond .le 15, 3) := by decide +kernel
theorem dX7_nearestInColumn_94 : decode cX7_nearestInColumn 94 = .ok (.goto 8, 3) := by decide +kernel
theorem dX7_nearestInColumn_97 : decode cX7_nearestInColumn 97 = .ok (.iload 5, 2) := by decide +kernel
theorem dX7_nearestInColumn_99 : decode cX7_nearestInColumn 99 = .ok (.ifCond .ge 7, 3) := by decide +kernel
theorem dX7_nearestInColumn_102 : decode cX7_nearestInColumn 102 = .ok (.iconst 1, 1) := by decide +kernel
theorem dX7_nearestInColumn_103 : decode cX7_nearestInColumn 103 = .ok (.goto 4, 3) := by decide +kernel
theorem dX7_nearestInColumn_106 : decode cX7_nearestInColumn 106 = .ok (.iconst 0, 1) := by decide +kernel
theorem dX7_nearestInColumn_107 : decode cX7_nearestInColumn 107 = .ok (.istore 6, 2) := by decide +kernel
theorem dX7_nearestInColumn_109 : decode cX7_nearestInColumn 109 = .ok (.iload 6, 2) := by decide +kernel
theorem dX7_nearestInColumn_111 : decode cX7_nearestInColumn 111 = .ok (.ifCond .eq 51, 3) := by decide +kernel
theorem dX7_nearestInColumn_114 : decode cX7_nearestInColumn 114 = .ok (.iload_n 3, 1) := by decide +kernel
theorem dX7_nearestInColumn_115 : decode cX7_nearestInColumn 115 = .ok (.iconst (-1), 1) := by decide +kernel
theorem dX7_nearestInColumn_116 : decode cX7_nearestInColumn 116 = .ok (.if_icmp .eq 41, 3) := by decide +kernel
theorem dX7_nearestInColumn_119 : decode cX7_nearestInColumn 119 = .ok (.iload 5, 2) := by decide +kernel
theorem dX7_nearestInColumn_121 : decode cX7_nearestInColumn 121 = .ok (.invokestatic 43, 3) := by decide +kernel
theorem dX7_nearestInColumn_124 : decode cX7_nearestInColumn 124 = .ok (.aload_n 0, 1) := by decide +kernel
theorem dX7_nearestInColumn_125 : decode cX7_nearestInColumn 125 = .ok (.getfield 7, 3) := by decide +kernel
theorem dX7_nearestInColumn_128 : decode cX7_nearestInColumn 128 = .ok (.sipush 150, 3) := by decide +kernel
theorem dX7_nearestInColumn_131 : decode cX7_nearestInColumn 131 = .ok (.iload_n 3, 1) := by decide +kernel
theorem dX7_nearestInColumn_132 : decode cX7_nearestInColumn 132 = .ok (.iadd, 1) := by decide +kernel
theorem dX7_nearestInColumn_133 : decode cX7_nearestInColumn 133 = .ok (.iaload, 1) := by decide +kernel
theorem dX7_nearestInColumn_134 : decode cX7_nearestInColumn 134 = .ok (.bipush 8, 2) := by decide +kernel
theorem dX7_nearestInColumn_136 : decode cX7_nearestInColumn 136 = .ok (.idiv, 1) := by decide +kernel
theorem dX7_nearestInColumn_137 : decode cX7_nearestInColumn 137 = .ok (.aload_n 0, 1) := by decide +kernel
theorem dX7_nearestInColumn_138 : decode cX7_nearestInColumn 138 = .ok (.getfield 7, 3) := by decide +kernel
theorem dX7_nearestInColumn_141 : decode cX7_nearestInColumn 141 = .ok (.sipush 150, 3) := by decide +kernel
theorem dX7_nearestInColumn_144 : decode cX7_nearestInColumn 144 = .ok (.iload_n 1, 1) := by decide +kernel
theorem dX7_nearestInColumn_145 : decode cX7_nearestInColumn 145 = .ok (.iadd, 1) := by decide +kernel
theorem dX7_nearestInColumn_146 : decode cX7_nearestInColumn 146 = .ok (.iaload, 1) := by decide +kernel
theorem dX7_nearestInColumn_147 : decode cX7_nearestInColumn 147 = .ok (.bipush 8, 2) := by decide +kernel
theorem dX7_nearestInColumn_149 : decode cX7_nearestInColumn 149 = .ok (.idiv, 1) := by decide +kernel
theorem dX7_nearestInColumn_150 : decode cX7_nearestInColumn 150 = .ok (.isub, 1) := by decide +kernel
theorem dX7_nearestInColumn_151 : decode cX7_nearestInColumn 151 = .ok (.invokestatic 43, 3) := by decide +kernel
theorem dX7_nearestInColumn_154 : decode cX7_nearestInColumn 154 = .ok (.if_icmp .ge 8, 3) := by decide +kernel
theorem dX7_nearestInColumn_157 : decode cX7_nearestInColumn 157 = .ok (.iload 4, 2) := by decide +kernel
theorem dX7_nearestInColumn_159 : decode cX7_nearestInColumn 159 = .ok (.goto 4, 3) := by decide +kernel
theorem dX7_nearestInColumn_162 : decode cX7_nearestInColumn 162 = .ok (.iload_n 3, 1) := by decide +kernel
theorem dX7_nearestInColumn_163 : decode cX7_nearestInColumn 163 = .ok (.istore_n 3, 1) := by decide +kernel
theorem dX7_nearestInColumn_164 : decode cX7_nearestInColumn 164 = .ok (.iinc 4 1, 3) := by decide +kernel
theorem dX7_nearestInColumn_167 : decode cX7_nearestInColumn 167 = .ok (.goto (-162), 3) := by decide +kernel
theorem dX7_nearestInColumn_170 : decode cX7_nearestInColumn 170 = .ok (.iload_n 3, 1) := by decide +kernel
theorem dX7_nearestInColumn_171 : decode cX7_nearestInColumn 171 = .ok (.ireturn, 1) := by decide +kernel
theorem dX7_listening_0 : decode cX7_listening 0 = .ok (.aload_n 0, 1) := by decide +kernel
theorem dX7_listening_1 : decode cX7_listening 1 = .ok (.invokevirtual 133, 3) := by decide +kernel
theorem dX7_listening_4 : decode cX7_listening 4 = .ok (.aload_n 0, 1) := by decide +kernel
theorem dX7_listening_5 : decode cX7_listening 5 = .ok (.getfield 7, 3) := by decide +kernel
theorem dX7_listening_8 : decode cX7_listening 8 = .ok (.sipush 150, 3) := by decide +kernel
theorem dX7_listening_11 : decode cX7_listening 11 = .ok (.iload_n 1, 1) := by decide +kernel
theorem dX7_listening_12 : decode cX7_listening 12 = .ok (.iadd, 1) := by decide +kernel
theorem dX7_listening_13 : decode cX7_listening 13 = .ok (.iaload, 1) := by decide +kernel
theorem dX7_listening_14 : decode cX7_listening 14 = .ok (.aload_n 0, 1) := by decide +kernel
theorem dX7_listening_15 : decode cX7_listening 15 = .ok (.getfield 7, 3) := by decide +kernel
theorem dX7_listening_18 : decode cX7_listening 18 = .ok (.iconst 5, 1) := by decide +kernel
theorem dX7_listening_19 : decode cX7_listening 19 = .ok (.iaload, 1) := by decide +kernel
theorem dX7_listening_20 : decode cX7_listening 20 = .ok (.invokestatic 155, 3) := by decide +kernel
theorem dX7_listening_23 : decode cX7_listening 23 = .ok (.imul, 1) := by decide +kernel
theorem dX7_listening_24 : decode cX7_listening 24 = .ok (.ireturn, 1) := by decide +kernel
theorem dX7_heardFrom_0 : decode cX7_heardFrom 0 = .ok (.aload_n 0, 1) := by decide +kernel
theorem dX7_heardFrom_1 : decode cX7_heardFrom 1 = .ok (.iload_n 2, 1) := by decide +kernel
theorem dX7_heardFrom_2 : decode cX7_heardFrom 2 = .ok (.aload_n 0, 1) := by decide +kernel
theorem dX7_heardFrom_3 : decode cX7_heardFrom 3 = .ok (.getfield 7, 3) := by decide +kernel
theorem dX7_heardFrom_6 : decode cX7_heardFrom 6 = .ok (.sipush 130, 3) := by decide +kernel
theorem dX7_heardFrom_9 : decode cX7_heardFrom 9 = .ok (.iload_n 2, 1) := by decide +kernel
theorem dX7_heardFrom_10 : decode cX7_heardFrom 10 = .ok (.iadd, 1) := by decide +kernel
theorem dX7_heardFrom_11 : decode cX7_heardFrom 11 = .ok (.iaload, 1) := by decide +kernel
theorem dX7_heardFrom_12 : decode cX7_heardFrom 12 = .ok (.invokevirtual 158, 3) := by decide +kernel
theorem dX7_heardFrom_15 : decode cX7_heardFrom 15 = .ok (.aload_n 0, 1) := by decide +kernel
theorem dX7_heardFrom_16 : decode cX7_heardFrom 16 = .ok (.invokevirtual 133, 3) := by decide +kernel
theorem dX7_heardFrom_19 : decode cX7_heardFrom 19 = .ok (.aload_n 0, 1) := by decide +kernel
theorem dX7_heardFrom_20 : decode cX7_heardFrom 20 = .ok (.getfield 7, 3) := by decide +kernel
theorem dX7_heardFrom_23 : decode cX7_heardFrom 23 = .ok (.sipush 150, 3) := by decide +kernel
theorem dX7_heardFrom_26 : decode cX7_heardFrom 26 = .ok (.iload_n 1, 1) := by decide +kernel
theorem dX7_heardFrom_27 : decode cX7_heardFrom 27 = .ok (.iadd, 1) := by decide +kernel
theorem dX7_heardFrom_28 : decode cX7_heardFrom 28 = .ok (.iaload, 1) := by decide +kernel
theorem dX7_heardFrom_29 : decode cX7_heardFrom 29 = .ok (.aload_n 0, 1) := by decide +kernel
theorem dX7_heardFrom_30 : decode cX7_heardFrom 30 = .ok (.getfield 7, 3) := by decide +kernel
theorem dX7_heardFrom_33 : decode cX7_heardFrom 33 = .ok (.sipush 150, 3) := by decide +kernel
theorem dX7_heardFrom_36 : decode cX7_heardFrom 36 = .ok (.iload_n 2, 1) := by decide +kernel
theorem dX7_heardFrom_37 : decode cX7_heardFrom 37 = .ok (.iadd, 1) := by decide +kernel
theorem dX7_heardFrom_38 : decode cX7_heardFrom 38 = .ok (.iaload, 1) := by decide +kernel
theorem dX7_heardFrom_39 : decode cX7_heardFrom 39 = .ok (.invokestatic 155, 3) := by decide +kernel
theorem dX7_heardFrom_42 : decode cX7_heardFrom 42 = .ok (.imul, 1) := by decide +kernel
theorem dX7_heardFrom_43 : decode cX7_heardFrom 43 = .ok (.iadd, 1) := by decide +kernel
theorem dX7_heardFrom_44 : decode cX7_heardFrom 44 = .ok (.ireturn, 1) := by decide +kernel
theorem dX7_backward_0 : decode cX7_backward 0 = .ok (.aload_n 0, 1) := by decide +kernel
theorem dX7_backward_1 : decode cX7_backward 1 = .ok (.iload_n 1, 1) := by decide +kernel
theorem dX7_backward_2 : decode cX7_backward 2 = .ok (.iconst 1, 1) := by decide +kernel
theorem dX7_backward_3 : decode cX7_backward 3 = .ok (.invokevirtual 161, 3) := by decide +kernel
theorem dX7_backward_6 : decode cX7_backward 6 = .ok (.istore_n 2, 1) := by decide +kernel
theorem dX7_backward_7 : decode cX7_backward 7 = .ok (.iload_n 2, 1) := by decide +kernel
theorem dX7_backward_8 : decode cX7_backward 8 = .ok (.iconst (-1), 1) := by decide +kernel
theorem dX7_backward_9 : decode cX7_backward 9 = .ok (.if_icmp .ne 11, 3) := by decide +kernel
theorem dX7_backward_12 : decode cX7_backward 12 = .ok (.aload_n 0, 1) := by decide +kernel
theorem dX7_backward_13 : decode cX7_backward 13 = .ok (.iload_n 1, 1) := by decide +kernel
theorem dX7_backward_14 : decode cX7_backward 14 = .ok (.invokevirtual 165, 3) := by decide +kernel
theorem dX7_backward_17 : decode cX7_backward 17 = .ok (.goto 9, 3) := by decide +kernel
theorem dX7_backward_20 : decode cX7_backward 20 = .ok (.aload_n 0, 1) := by decide +kernel
theorem dX7_backward_21 : decode cX7_backward 21 = .ok (.iload_n 1, 1) := by decide +kernel
theorem dX7_backward_22 : decode cX7_backward 22 = .ok (.iload_n 2, 1) := by decide +kernel
theorem dX7_backward_23 : decode cX7_backward 23 = .ok (.invokevirtual 168, 3) := by decide +kernel
theorem dX7_backward_26 : decode cX7_backward 26 = .ok (.ireturn, 1) := by decide +kernel
theorem dX7_forward_0 : decode cX7_forward 0 = .ok (.aload_n 0, 1) := by decide +kernel
theorem dX7_forward_1 : decode cX7_forward 1 = .ok (.iload_n 1, 1) := by decide +kernel
theorem dX7_forward_2 : decode cX7_forward 2 = .ok (.iconst 0, 1) := by decide +kernel
theorem dX7_forward_3 : decode cX7_forward 3 = .ok (.invokevirtual 161, 3) := by decide +kernel
theorem dX7_forward_6 : decode cX7_forward 6 = .ok (.istore_n 2, 1) := by decide +kernel
theorem dX7_forward_7 : decode cX7_forward 7 = .ok (.iload_n 2, 1) := by decide +kernel
theorem dX7_forward_8 : decode cX7_forward 8 = .ok (.iconst (-1), 1) := by decide +kernel
theorem dX7_forward_9 : decode cX7_forward 9 = .ok (.if_icmp .ne 5, 3) := by decide +kernel
theorem dX7_forward_12 : decode cX7_forward 12 = .ok (.iconst 0, 1) := by decide +kernel
theorem dX7_forward_13 : decode cX7_forward 13 = .ok (.ireturn, 1) := by decide +kernel
theorem dX7_forward_14 : decode cX7_forward 14 = .ok (.aload_n 0, 1) := by decide +kernel
theorem dX7_forward_15 : decode cX7_forward 15 = .ok (.getfield 7, 3) := by decide +kernel
theorem dX7_forward_18 : decode cX7_forward 18 = .ok (.sipush 130, 3) := by decide +kernel
theorem dX7_forward_21 : decode cX7_forward 21 = .ok (.iload_n 2, 1) := by decide +kernel
theorem dX7_forward_22 : decode cX7_forward 22 = .ok (.iadd, 1) := by decide +kernel
theorem dX7_forward_23 : decode cX7_forward 23 = .ok (.iaload, 1) := by decide +kernel
theorem dX7_forward_24 : decode cX7_forward 24 = .ok (.iconst 2, 1) := by decide +kernel
theorem dX7_forward_25 : decode cX7_forward 25 = .ok (.if_icmp .eq 17, 3) := by decide +kernel
theorem dX7_forward_28 : decode cX7_forward 28 = .ok (.aload_n 0, 1) := by decide +kernel
theorem dX7_forward_29 : decode cX7_forward 29 = .ok (.getfield 7, 3) := by decide +kernel
theorem dX7_forward_32 : decode cX7_forward 32 = .ok (.sipush 130, 3) := by decide +kernel
theorem dX7_forward_35 : decode cX7_forward 35 = .ok (.iload_n 2, 1) := by decide +kernel
theorem dX7_forward_36 : decode cX7_forward 36 = .ok (.iadd, 1) := by decide +kernel
theorem dX7_forward_37 : decode cX7_forward 37 = .ok (.iaload, 1) := by decide +kernel
theorem dX7_forward_38 : decode cX7_forward 38 = .ok (.iconst 5, 1) := by decide +kernel
theorem dX7_forward_39 : decode cX7_forward 39 = .ok (.if_icmp .ne 11, 3) := by decide +kernel
theorem dX7_forward_42 : decode cX7_forward 42 = .ok (.aload_n 0, 1) := by decide +kernel
theorem dX7_forward_43 : decode cX7_forward 43 = .ok (.iload_n 1, 1) := by decide +kernel
theorem dX7_forward_44 : decode cX7_forward 44 = .ok (.invokevirtual 165, 3) := by decide +kernel
theorem dX7_forward_47 : decode cX7_forward 47 = .ok (.goto 9, 3) := by decide +kernel
theorem dX7_forward_50 : decode cX7_forward 50 = .ok (.aload_n 0, 1) := by decide +kernel
theorem dX7_forward_51 : decode cX7_forward 51 = .ok (.iload_n 1, 1) := by decide +kernel
theorem dX7_forward_52 : decode cX7_forward 52 = .ok (.iload_n 2, 1) := by decide +kernel
theorem dX7_forward_53 : decode cX7_forward 53 = .ok (.invokevirtual 168, 3) := by decide +kernel
theorem dX7_forward_56 : decode cX7_forward 56 = .ok (.ireturn, 1) := by decide +kernel
theorem dX7_playsAs_0 : decode cX7_playsAs 0 = .ok (.iconst 0, 1) := by decide +kernel
theorem dX7_playsAs_1 : decode cX7_playsAs 1 = .ok (.istore_n 3, 1) := by decide +kernel
theorem dX7_playsAs_2 : decode cX7_playsAs 2 = .ok (.iload_n 2, 1) := by decide +kernel
theorem dX7_playsAs_3 : decode cX7_playsAs 3 = .ok (.tableswitch 127 0 6 #[41, 127, 50, 59, 68, 83, 111], 41) := by decide +kernel
theorem dX7_playsAs_44 : decode cX7_playsAs 44 = .ok (.aload_n 0, 1) := by decide +kernel
theorem dX7_playsAs_45 : decode cX7_playsAs 45 = .ok (.iload_n 1, 1) := by decide +kernel
theorem dX7_playsAs_46 : decode cX7_playsAs 46 = .ok (.invokevirtual 165, 3) := by decide +kernel
theorem dX7_playsAs_49 : decode cX7_playsAs 49 = .ok (.istore_n 3, 1) := by decide +kernel
theorem dX7_playsAs_50 : decode cX7_playsAs 50 = .ok (.goto 80, 3) := by decide +kernel
theorem dX7_playsAs_53 : decode cX7_playsAs 53 = .ok (.aload_n 0, 1) := by decide +kernel
theorem dX7_playsAs_54 : decode cX7_playsAs 54 = .ok (.iload_n 1, 1) := by decide +kernel
theorem dX7_playsAs_55 : decode cX7_playsAs 55 = .ok (.invokevirtual 171, 3) := by decide +kernel
theorem dX7_playsAs_58 : decode cX7_playsAs 58 = .ok (.istore_n 3, 1) := by decide +kernel
theorem dX7_playsAs_59 : decode cX7_playsAs 59 = .ok (.goto 71, 3) := by decide +kernel
theorem dX7_playsAs_62 : decode cX7_playsAs 62 = .ok (.aload_n 0, 1) := by decide +kernel
theorem dX7_playsAs_63 : decode cX7_playsAs 63 = .ok (.iload_n 1, 1) := by decide +kernel
theorem dX7_playsAs_64 : decode cX7_playsAs 64 = .ok (.invokevirtual 174, 3) := by decide +kernel
theorem dX7_playsAs_67 : decode cX7_playsAs 67 = .ok (.istore_n 3, 1) := by decide +kernel
theorem dX7_playsAs_68 : decode cX7_playsAs 68 = .ok (.goto 62, 3) := by decide +kernel
theorem dX7_playsAs_71 : decode cX7_playsAs 71 = .ok (.aload_n 0, 1) := by decide +kernel
theorem dX7_playsAs_72 : decode cX7_playsAs 72 = .ok (.getfield 7, 3) := by decide +kernel
theorem dX7_playsAs_75 : decode cX7_playsAs 75 = .ok (.sipush 140, 3) := by decide +kernel
theorem dX7_playsAs_78 : decode cX7_playsAs 78 = .ok (.iload_n 1, 1) := by decide +kernel
theorem dX7_playsAs_79 : decode cX7_playsAs 79 = .ok (.iadd, 1) := by decide +kernel
theorem dX7_playsAs_80 : decode cX7_playsAs 80 = .ok (.iaload, 1) := by decide +kernel
theorem dX7_playsAs_81 : decode cX7_playsAs 81 = .ok (.ineg, 1) := by decide +kernel
theorem dX7_playsAs_82 : decode cX7_playsAs 82 = .ok (.istore_n 3, 1) := by decide +kernel
theorem dX7_playsAs_83 : decode cX7_playsAs 83 = .ok (.goto 47, 3) := by decide +kernel
theorem dX7_playsAs_86 : decode cX7_playsAs 86 = .ok (.aload_n 0, 1) := by decide +kernel
theorem dX7_playsAs_87 : decode cX7_playsAs 87 = .ok (.iload_n 1, 1) := by decide +kernel
theorem dX7_playsAs_88 : decode cX7_playsAs 88 = .ok (.invokevirtual 171, 3) := by decide +kernel
theorem dX7_playsAs_91 : decode cX7_playsAs 91 = .ok (.aload_n 0, 1) := by decide +kernel
theorem dX7_playsAs_92 : decode cX7_playsAs 92 = .ok (.invokevirtual 133, 3) := by decide +kernel
theorem dX7_playsAs_95 : decode cX7_playsAs 95 = .ok (.aload_n 0, 1) := by decide +kernel
theorem dX7_playsAs_96 : decode cX7_playsAs 96 = .ok (.getfield 7, 3) := by decide +kernel
theorem dX7_playsAs_99 : decode cX7_playsAs 99 = .ok (.sipush 150, 3) := by decide +kernel
theorem dX7_playsAs_102 : decode cX7_playsAs 102 = .ok (.iload_n 1, 1) := by decide +kernel
theorem dX7_playsAs_103 : decode cX7_playsAs 103 = .ok (.iadd, 1) := by decide +kernel
theorem dX7_playsAs_104 : decode cX7_playsAs 104 = .ok (.iaload, 1) := by decide +kernel
theorem dX7_playsAs_105 : decode cX7_playsAs 105 = .ok (.bipush 8, 2) := by decide +kernel
theorem dX7_playsAs_107 : decode cX7_playsAs 107 = .ok (.idiv, 1) := by decide +kernel
theorem dX7_playsAs_108 : decode cX7_playsAs 108 = .ok (.imul, 1) := by decide +kernel
theorem dX7_playsAs_109 : decode cX7_playsAs 109 = .ok (.iadd, 1) := by decide +kernel
theorem dX7_playsAs_110 : decode cX7_playsAs 110 = .ok (.istore_n 3, 1) := by decide +kernel
theorem dX7_playsAs_111 : decode cX7_playsAs 111 = .ok (.goto 19, 3) := by decide +kernel
theorem dX7_playsAs_114 : decode cX7_playsAs 114 = .ok (.aload_n 0, 1) := by decide +kernel
theorem dX7_playsAs_115 : decode cX7_playsAs 115 = .ok (.getfield 7, 3) := by decide +kernel
theorem dX7_playsAs_118 : decode cX7_playsAs 118 = .ok (.sipush 140, 3) := by decide +kernel
theorem dX7_playsAs_121 : decode cX7_playsAs 121 = .ok (.iload_n 1, 1) := by decide +kernel
theorem dX7_playsAs_122 : decode cX7_playsAs 122 = .ok (.iadd, 1) := by decide +kernel
theorem dX7_playsAs_123 : decode cX7_playsAs 123 = .ok (.iaload, 1) := by decide +kernel
theorem dX7_playsAs_124 : decode cX7_playsAs 124 = .ok (.iload_n 1, 1) := by decide +kernel
theorem dX7_playsAs_125 : decode cX7_playsAs 125 = .ok (.imul, 1) := by decide +kernel
theorem dX7_playsAs_126 : decode cX7_playsAs 126 = .ok (.istore_n 3, 1) := by decide +kernel
theorem dX7_playsAs_127 : decode cX7_playsAs 127 = .ok (.goto 3, 3) := by decide +kernel
theorem dX7_playsAs_130 : decode cX7_playsAs 130 = .ok (.aload_n 0, 1) := by decide +kernel
theorem dX7_playsAs_131 : decode cX7_playsAs 131 = .ok (.iload_n 1, 1) := by decide +kernel
theorem dX7_playsAs_132 : decode cX7_playsAs 132 = .ok (.iload_n 2, 1) := by decide +kernel
theorem dX7_playsAs_133 : decode cX7_playsAs 133 = .ok (.invokevirtual 177, 3) := by decide +kernel
theorem dX7_playsAs_136 : decode cX7_playsAs 136 = .ok (.aload_n 0, 1) := by decide +kernel
theorem dX7_playsAs_137 : decode cX7_playsAs 137 = .ok (.getfield 142, 3) := by decide +kernel
theorem dX7_playsAs_140 : decode cX7_playsAs 140 = .ok (.iload_n 3, 1) := by decide +kernel
theorem dX7_playsAs_141 : decode cX7_playsAs 141 = .ok (.iadd, 1) := by decide +kernel
theorem dX7_playsAs_142 : decode cX7_playsAs 142 = .ok (.ireturn, 1) := by decide +kernel
theorem dX7_playsOf_0 : decode cX7_playsOf 0 = .ok (.aload_n 0, 1) := by decide +kernel
theorem dX7_playsOf_1 : decode cX7_playsOf 1 = .ok (.iload_n 1, 1) := by decide +kernel
theorem dX7_playsOf_2 : decode cX7_playsOf 2 = .ok (.aload_n 0, 1) := by decide +kernel
theorem dX7_playsOf_3 : decode cX7_playsOf 3 = .ok (.getfield 7, 3) := by decide +kernel
theorem dX7_playsOf_6 : decode cX7_playsOf 6 = .ok (.sipush 130, 3) := by decide +kernel
theorem dX7_playsOf_9 : decode cX7_playsOf 9 = .ok (.iload_n 1, 1) := by decide +kernel
theorem dX7_playsOf_10 : decode cX7_playsOf 10 = .ok (.iadd, 1) := by decide +kernel
theorem dX7_playsOf_11 : decode cX7_playsOf 11 = .ok (.iaload, 1) := by decide +kernel
theorem dX7_playsOf_12 : decode cX7_playsOf 12 = .ok (.invokevirtual 158, 3) := by decide +kernel
theorem dX7_playsOf_15 : decode cX7_playsOf 15 = .ok (.ireturn, 1) := by decide +kernel
theorem dX7_loudOf_0 : decode cX7_loudOf 0 = .ok (.aload_n 0, 1) := by decide +kernel
theorem dX7_loudOf_1 : decode cX7_loudOf 1 = .ok (.iload_n 1, 1) := by decide +kernel
theorem dX7_loudOf_2 : decode cX7_loudOf 2 = .ok (.aload_n 0, 1) := by decide +kernel
theorem dX7_loudOf_3 : decode cX7_loudOf 3 = .ok (.getfield 7, 3) := by decide +kernel
theorem dX7_loudOf_6 : decode cX7_loudOf 6 = .ok (.sipush 130, 3) := by decide +kernel
theorem dX7_loudOf_9 : decode cX7_loudOf 9 = .ok (.iload_n 1, 1) := by decide +kernel
theorem dX7_loudOf_10 : decode cX7_loudOf 10 = .ok (.iadd, 1) := by decide +kernel
theorem dX7_loudOf_11 : decode cX7_loudOf 11 = .ok (.iaload, 1) := by decide +kernel
theorem dX7_loudOf_12 : decode cX7_loudOf 12 = .ok (.invokevirtual 177, 3) := by decide +kernel
theorem dX7_loudOf_15 : decode cX7_loudOf 15 = .ok (.aload_n 0, 1) := by decide +kernel
theorem dX7_loudOf_16 : decode cX7_loudOf 16 = .ok (.getfield 139, 3) := by decide +kernel
theorem dX7_loudOf_19 : decode cX7_loudOf 19 = .ok (.ireturn, 1) := by decide +kernel
theorem dX7_of_0 : decode cX7_of 0 = .ok (.aload_n 0, 1) := by decide +kernel
theorem dX7_of_1 : decode cX7_of 1 = .ok (.iload_n 1, 1) := by decide +kernel
theorem dX7_of_2 : decode cX7_of 2 = .ok (.invokevirtual 152, 3) := by decide +kernel
theorem dX7_of_5 : decode cX7_of 5 = .ok (.ifCond .eq 12, 3) := by decide +kernel
theorem dX7_of_8 : decode cX7_of 8 = .ok (.iload_n 2, 1) := by decide +kernel
theorem dX7_of_9 : decode cX7_of 9 = .ok (.iconst 0, 1) := by decide +kernel
theorem dX7_of_10 : decode cX7_of 10 = .ok (.iconst 5, 1) := by decide +kernel
theorem dX7_of_11 : decode cX7_of 11 = .ok (.invokestatic 39, 3) := by decide +kernel
theorem dX7_of_14 : decode cX7_of 14 = .ok (.ifCond .ne 7, 3) := by decide +kernel
theorem dX7_of_17 : decode cX7_of 17 = .ok (.sipush (-1001), 3) := by decide +kernel
theorem dX7_of_20 : decode cX7_of 20 = .ok (.ireturn, 1) := by decide +kernel
theorem dX7_of_21 : decode cX7_of 21 = .ok (.iload_n 2, 1) := by decide +kernel
theorem dX7_of_22 : decode cX7_of 22 = .ok (.iconst 3, 1) := by decide +kernel
theorem dX7_of_23 : decode cX7_of 23 = .ok (.if_icmp .ge 19, 3) := by decide +kernel
theorem dX7_of_26 : decode cX7_of 26 = .ok (.aload_n 0, 1) := by decide +kernel
theorem dX7_of_27 : decode cX7_of 27 = .ok (.getfield 7, 3) := by decide +kernel
theorem dX7_of_30 : decode cX7_of 30 = .ok (.sipush 130, 3) := by decide +kernel
theorem dX7_of_33 : decode cX7_of 33 = .ok (.bipush 10, 2) := by decide +kernel
theorem dX7_of_35 : decode cX7_of 35 = .ok (.iload_n 2, 1) := by decide +kernel
theorem dX7_of_36 : decode cX7_of 36 = .ok (.imul, 1) := by decide +kernel
theorem dX7_of_37 : decode cX7_of 37 = .ok (.iadd, 1) := by decide +kernel
theorem dX7_of_38 : decode cX7_of 38 = .ok (.iload_n 1, 1) := by decide +kernel
theorem dX7_of_39 : decode cX7_of 39 = .ok (.iadd, 1) := by decide +kernel
theorem dX7_of_40 : decode cX7_of 40 = .ok (.iaload, 1) := by decide +kernel
theorem dX7_of_41 : decode cX7_of 41 = .ok (.ireturn, 1) := by decide +kernel
theorem dX7_of_42 : decode cX7_of 42 = .ok (.aload_n 0, 1) := by decide +kernel
theorem dX7_of_43 : decode cX7_of 43 = .ok (.iload_n 1, 1) := by decide +kernel
theorem dX7_of_44 : decode cX7_of 44 = .ok (.aload_n 0, 1) := by decide +kernel
theorem dX7_of_45 : decode cX7_of 45 = .ok (.getfield 7, 3) := by decide +kernel
theorem dX7_of_48 : decode cX7_of 48 = .ok (.sipush 130, 3) := by decide +kernel
theorem dX7_of_51 : decode cX7_of 51 = .ok (.iload_n 1, 1) := by decide +kernel
theorem dX7_of_52 : decode cX7_of 52 = .ok (.iadd, 1) := by decide +kernel
theorem dX7_of_53 : decode cX7_of 53 = .ok (.iaload, 1) := by decide +kernel
theorem dX7_of_54 : decode cX7_of 54 = .ok (.invokevirtual 177, 3) := by decide +kernel
theorem dX7_of_57 : decode cX7_of 57 = .ok (.iload_n 2, 1) := by decide +kernel
theorem dX7_of_58 : decode cX7_of 58 = .ok (.iconst 3, 1) := by decide +kernel
theorem dX7_of_59 : decode cX7_of 59 = .ok (.if_icmp .ne 10, 3) := by decide +kernel
theorem dX7_of_62 : decode cX7_of 62 = .ok (.aload_n 0, 1) := by decide +kernel
theorem dX7_of_63 : decode cX7_of 63 = .ok (.getfield 139, 3) := by decide +kernel
theorem dX7_of_66 : decode cX7_of 66 = .ok (.goto 20, 3) := by decide +kernel
theorem dX7_of_69 : decode cX7_of 69 = .ok (.iload_n 2, 1) := by decide +kernel
theorem dX7_of_70 : decode cX7_of 70 = .ok (.iconst 4, 1) := by decide +kernel
theorem dX7_of_71 : decode cX7_of 71 = .ok (.if_icmp .ne 10, 3) := by decide +kernel
theorem dX7_of_74 : decode cX7_of 74 = .ok (.aload_n 0, 1) := by decide +kernel
theorem dX7_of_75 : decode cX7_of 75 = .ok (.getfield 142, 3) := by decide +kernel
theorem dX7_of_78 : decode cX7_of 78 = .ok (.goto 8, 3) := by decide +kernel
theorem dX7_of_81 : decode cX7_of 81 = .ok (.aload_n 0, 1) := by decide +kernel
theorem dX7_of_82 : decode cX7_of 82 = .ok (.iload_n 1, 1) := by decide +kernel
theorem dX7_of_83 : decode cX7_of 83 = .ok (.invokevirtual 181, 3) := by decide +kernel
theorem dX7_of_86 : decode cX7_of 86 = .ok (.ireturn, 1) := by decide +kernel
theorem dX7_heardAt_0 : decode cX7_heardAt 0 = .ok (.aload_n 0, 1) := by decide +kernel
theorem dX7_heardAt_1 : decode cX7_heardAt 1 = .ok (.iload_n 2, 1) := by decide +kernel
theorem dX7_heardAt_2 : decode cX7_heardAt 2 = .ok (.invokevirtual 181, 3) := by decide +kernel
theorem dX7_heardAt_5 : decode cX7_heardAt 5 = .ok (.aload_n 0, 1) := by decide +kernel
theorem dX7_heardAt_6 : decode cX7_heardAt 6 = .ok (.invokevirtual 133, 3) := by decide +kernel
theorem dX7_heardAt_9 : decode cX7_heardAt 9 = .ok (.iload_n 1, 1) := by decide +kernel
theorem dX7_heardAt_10 : decode cX7_heardAt 10 = .ok (.bipush 8, 2) := by decide +kernel
theorem dX7_heardAt_12 : decode cX7_heardAt 12 = .ok (.isub, 1) := by decide +kernel
theorem dX7_heardAt_13 : decode cX7_heardAt 13 = .ok (.aload_n 0, 1) := by decide +kernel
theorem dX7_heardAt_14 : decode cX7_heardAt 14 = .ok (.getfield 7, 3) := by decide +kernel
theorem dX7_heardAt_17 : decode cX7_heardAt 17 = .ok (.sipush 150, 3) := by decide +kernel
theorem dX7_heardAt_20 : decode cX7_heardAt 20 = .ok (.iload_n 2, 1) := by decide +kernel
theorem dX7_heardAt_21 : decode cX7_heardAt 21 = .ok (.iadd, 1) := by decide +kernel
theorem dX7_heardAt_22 : decode cX7_heardAt 22 = .ok (.iaload, 1) := by decide +kernel
theorem dX7_heardAt_23 : decode cX7_heardAt 23 = .ok (.invokestatic 155, 3) := by decide +kernel
theorem dX7_heardAt_26 : decode cX7_heardAt 26 = .ok (.imul, 1) := by decide +kernel
theorem dX7_heardAt_27 : decode cX7_heardAt 27 = .ok (.iadd, 1) := by decide +kernel
theorem dX7_heardAt_28 : decode cX7_heardAt 28 = .ok (.ireturn, 1) := by decide +kernel
theorem dX7_heard_0 : decode cX7_heard 0 = .ok (.iload_n 1, 1) := by decide +kernel
theorem dX7_heard_1 : decode cX7_heard 1 = .ok (.invokestatic 184, 3) := by decide +kernel
theorem dX7_heard_4 : decode cX7_heard 4 = .ok (.ifCond .eq 20, 3) := by decide +kernel
theorem dX7_heard_7 : decode cX7_heard 7 = .ok (.aload_n 0, 1) := by decide +kernel
theorem dX7_heard_8 : decode cX7_heard 8 = .ok (.iload_n 2, 1) := by decide +kernel
theorem dX7_heard_9 : decode cX7_heard 9 = .ok (.invokevirtual 152, 3) := by decide +kernel
theorem dX7_heard_12 : decode cX7_heard 12 = .ok (.ifCond .eq 12, 3) := by decide +kernel
theorem dX7_heard_15 : decode cX7_heard 15 = .ok (.aload_n 0, 1) := by decide +kernel
theorem dX7_heard_16 : decode cX7_heard 16 = .ok (.iload_n 1, 1) := by decide +kernel
theorem dX7_heard_17 : decode cX7_heard 17 = .ok (.iload_n 2, 1) := by decide +kernel
theorem dX7_heard_18 : decode cX7_heard 18 = .ok (.invokevirtual 187, 3) := by decide +kernel
theorem dX7_heard_21 : decode cX7_heard 21 = .ok (.goto 6, 3) := by decide +kernel
theorem dX7_heard_24 : decode cX7_heard 24 = .ok (.sipush (-1001), 3) := by decide +kernel
theorem dX7_heard_27 : decode cX7_heard 27 = .ok (.ireturn, 1) := by decide +kernel
theorem dX7_spreadAt_0 : decode cX7_spreadAt 0 = .ok (.iconst 0, 1) := by decide +kernel
theorem dX7_spreadAt_1 : decode cX7_spreadAt 1 = .ok (.istore_n 2, 1) := by decide +kernel
theorem dX7_spreadAt_2 : decode cX7_spreadAt 2 = .ok (.iconst 0, 1) := by decide +kernel
theorem dX7_spreadAt_3 : decode cX7_spreadAt 3 = .ok (.istore_n 3, 1) := by decide +kernel
theorem dX7_spreadAt_4 : decode cX7_spreadAt 4 = .ok (.aload_n 0, 1) := by decide +kernel
theorem dX7_spreadAt_5 : decode cX7_spreadAt 5 = .ok (.iconst 0, 1) := by decide +kernel
theorem dX7_spreadAt_6 : decode cX7_spreadAt 6 = .ok (.putfield 190, 3) := by decide +kernel
theorem dX7_spreadAt_9 : decode cX7_spreadAt 9 = .ok (.iconst 0, 1) := by decide +kernel
theorem dX7_spreadAt_10 : decode cX7_spreadAt 10 = .ok (.istore 4, 2) := by decide +kernel
theorem dX7_spreadAt_12 : decode cX7_spreadAt 12 = .ok (.iload 4, 2) := by decide +kernel
theorem dX7_spreadAt_14 : decode cX7_spreadAt 14 = .ok (.aload_n 0, 1) := by decide +kernel
theorem dX7_spreadAt_15 : decode cX7_spreadAt 15 = .ok (.getfield 7, 3) := by decide +kernel
theorem dX7_spreadAt_18 : decode cX7_spreadAt 18 = .ok (.iconst 0, 1) := by decide +kernel
theorem dX7_spreadAt_19 : decode cX7_spreadAt 19 = .ok (.iaload, 1) := by decide +kernel
theorem dX7_spreadAt_20 : decode cX7_spreadAt 20 = .ok (.if_icmp .ge 72, 3) := by decide +kernel
theorem dX7_spreadAt_23 : decode cX7_spreadAt 23 = .ok (.iload 4, 2) := by decide +kernel
theorem dX7_spreadAt_25 : decode cX7_spreadAt 25 = .ok (.aload_n 0, 1) := by decide +kernel
theorem dX7_spreadAt_26 : decode cX7_spreadAt 26 = .ok (.getfield 23, 3) := by decide +kernel
theorem dX7_spreadAt_29 : decode cX7_spreadAt 29 = .ok (.if_icmp .eq 57, 3) := by decide +kernel
theorem dX7_spreadAt_32 : decode cX7_spreadAt 32 = .ok (.aload_n 0, 1) := by decide +kernel
theorem dX7_spreadAt_33 : decode cX7_spreadAt 33 = .ok (.iload_n 1, 1) := by decide +kernel
theorem dX7_spreadAt_34 : decode cX7_spreadAt 34 = .ok (.iload 4, 2) := by decide +kernel
theorem dX7_spreadAt_36 : decode cX7_spreadAt 36 = .ok (.invokevirtual 187, 3) := by decide +kernel
theorem dX7_spreadAt_39 : decode cX7_spreadAt 39 = .ok (.istore 5, 2) := by decide +kernel
theorem dX7_spreadAt_41 : decode cX7_spreadAt 41 = .ok (.iload_n 2, 1) := by decide +kernel
theorem dX7_spreadAt_42 : decode cX7_spreadAt 42 = .ok (.ifCond .eq 9, 3) := by decide +kernel
theorem dX7_spreadAt_45 : decode cX7_spreadAt 45 = .ok (.iload 5, 2) := by decide +kernel
theorem dX7_spreadAt_47 : decode cX7_spreadAt 47 = .ok (.iload_n 3, 1) := by decide +kernel
theorem dX7_spreadAt_48 : decode cX7_spreadAt 48 = .ok (.if_icmp .le 8, 3) := by decide +kernel
theorem dX7_spreadAt_51 : decode cX7_spreadAt 51 = .ok (.iload 5, 2) := by decide +kernel
theorem dX7_spreadAt_53 : decode cX7_spreadAt 53 = .ok (.goto 4, 3) := by decide +kernel
theorem dX7_spreadAt_56 : decode cX7_spreadAt 56 = .ok (.iload_n 3, 1) := by decide +kernel
theorem dX7_spreadAt_57 : decode cX7_spreadAt 57 = .ok (.istore_n 3, 1) := by decide +kernel
theorem dX7_spreadAt_58 : decode cX7_spreadAt 58 = .ok (.aload_n 0, 1) := by decide +kernel
theorem dX7_spreadAt_59 : decode cX7_spreadAt 59 = .ok (.iload_n 2, 1) := by decide +kernel
theorem dX7_spreadAt_60 : decode cX7_spreadAt 60 = .ok (.ifCond .eq 12, 3) := by decide +kernel
theorem dX7_spreadAt_63 : decode cX7_spreadAt 63 = .ok (.iload 5, 2) := by decide +kernel
theorem dX7_spreadAt_65 : decode cX7_spreadAt 65 = .ok (.aload_n 0, 1) := by decide +kernel
theorem dX7_spreadAt_66 : decode cX7_spreadAt 66 = .ok (.getfield 190, 3) := by decide +kernel
theorem dX7_spreadAt_69 : decode cX7_spreadAt 69 = .ok (.if_icmp .ge 8, 3) := by decide +kernel
theorem dX7_spreadAt_72 : decode cX7_spreadAt 72 = .ok (.iload 5, 2) := by decide +kernel
theorem dX7_spreadAt_74 : decode cX7_spreadAt 74 = .ok (.goto 7, 3) := by decide +kernel
theorem dX7_spreadAt_77 : decode cX7_spreadAt 77 = .ok (.aload_n 0, 1) := by decide +kernel
theorem dX7_spreadAt_78 : decode cX7_spreadAt 78 = .ok (.getfield 190, 3) := by decide +kernel
theorem dX7_spreadAt_81 : decode cX7_spreadAt 81 = .ok (.putfield 190, 3) := by decide +kernel
theorem dX7_spreadAt_84 : decode cX7_spreadAt 84 = .ok (.iconst 1, 1) := by decide +kernel
theorem dX7_spreadAt_85 : decode cX7_spreadAt 85 = .ok (.istore_n 2, 1) := by decide +kernel
theorem dX7_spreadAt_86 : decode cX7_spreadAt 86 = .ok (.iinc 4 1, 3) := by decide +kernel
theorem dX7_spreadAt_89 : decode cX7_spreadAt 89 = .ok (.goto (-77), 3) := by decide +kernel
theorem dX7_spreadAt_92 : decode cX7_spreadAt 92 = .ok (.iload_n 3, 1) := by decide +kernel
theorem dX7_spreadAt_93 : decode cX7_spreadAt 93 = .ok (.aload_n 0, 1) := by decide +kernel
theorem dX7_spreadAt_94 : decode cX7_spreadAt 94 = .ok (.getfield 190, 3) := by decide +kernel
theorem dX7_spreadAt_97 : decode cX7_spreadAt 97 = .ok (.isub, 1) := by decide +kernel
theorem dX7_spreadAt_98 : decode cX7_spreadAt 98 = .ok (.ireturn, 1) := by decide +kernel
theorem dX7_allSpreads_0 : decode cX7_allSpreads 0 = .ok (.iconst 0, 1) := by decide +kernel
theorem dX7_allSpreads_1 : decode cX7_allSpreads 1 = .ok (.istore_n 1, 1) := by decide +kernel
theorem dX7_allSpreads_2 : decode cX7_allSpreads 2 = .ok (.iconst 0, 1) := by decide +kernel
theorem dX7_allSpreads_3 : decode cX7_allSpreads 3 = .ok (.istore_n 2, 1) := by decide +kernel
theorem dX7_allSpreads_4 : decode cX7_allSpreads 4 = .ok (.iload_n 2, 1) := by decide +kernel
theorem dX7_allSpreads_5 : decode cX7_allSpreads 5 = .ok (.bipush 8, 2) := by decide +kernel
theorem dX7_allSpreads_7 : decode cX7_allSpreads 7 = .ok (.if_icmp .ge 17, 3) := by decide +kernel
theorem dX7_allSpreads_10 : decode cX7_allSpreads 10 = .ok (.iload_n 1, 1) := by decide +kernel
theorem dX7_allSpreads_11 : decode cX7_allSpreads 11 = .ok (.aload_n 0, 1) := by decide +kernel
theorem dX7_allSpreads_12 : decode cX7_allSpreads 12 = .ok (.iload_n 2, 1) := by decide +kernel
theorem dX7_allSpreads_13 : decode cX7_allSpreads 13 = .ok (.invokevirtual 193, 3) := by decide +kernel
theorem dX7_allSpreads_16 : decode cX7_allSpreads 16 = .ok (.iadd, 1) := by decide +kernel
theorem dX7_allSpreads_17 : decode cX7_allSpreads 17 = .ok (.istore_n 1, 1) := by decide +kernel
theorem dX7_allSpreads_18 : decode cX7_allSpreads 18 = .ok (.iinc 2 1, 3) := by decide +kernel
theorem dX7_allSpreads_21 : decode cX7_allSpreads 21 = .ok (.goto (-17), 3) := by decide +kernel
theorem dX7_allSpreads_24 : decode cX7_allSpreads 24 = .ok (.iload_n 1, 1) := by decide +kernel
theorem dX7_allSpreads_25 : decode cX7_allSpreads 25 = .ok (.ireturn, 1) := by decide +kernel
theorem dX7_together_0 : decode cX7_together 0 = .ok (.iconst (-1), 1) := by decide +kernel
theorem dX7_together_1 : decode cX7_together 1 = .ok (.istore_n 3, 1) := by decide +kernel
theorem dX7_together_2 : decode cX7_together 2 = .ok (.iconst 0, 1) := by decide +kernel
theorem dX7_together_3 : decode cX7_together 3 = .ok (.istore 4, 2) := by decide +kernel
theorem dX7_together_5 : decode cX7_together 5 = .ok (.iload 4, 2) := by decide +kernel
theorem dX7_together_7 : decode cX7_together 7 = .ok (.aload_n 0, 1) := by decide +kernel
theorem dX7_together_8 : decode cX7_together 8 = .ok (.getfield 7, 3) := by decide +kernel
theorem dX7_together_11 : decode cX7_together 11 = .ok (.iconst 0, 1) := by decide +kernel
theorem dX7_together_12 : decode cX7_together 12 = .ok (.iaload, 1) := by decide +kernel
theorem dX7_together_13 : decode cX7_together 13 = .ok (.if_icmp .ge 35, 3) := by decide +kernel
theorem dX7_together_16 : decode cX7_together 16 = .ok (.iload_n 3, 1) := by decide +kernel
theorem dX7_together_17 : decode cX7_together 17 = .ok (.iconst (-1), 1) := by decide +kernel
theorem dX7_together_18 : decode cX7_together 18 = .ok (.if_icmp .eq 17, 3) := by decide +kernel
theorem dX7_together_21 : decode cX7_together 21 = .ok (.aload_n 0, 1) := by decide +kernel
theorem dX7_together_22 : decode cX7_together 22 = .ok (.iload 4, 2) := by decide +kernel
theorem dX7_together_24 : decode cX7_together 24 = .ok (.invokevirtual 196, 3) := by decide +kernel
theorem dX7_together_27 : decode cX7_together 27 = .ok (.aload_n 0, 1) := by decide +kernel
theorem dX7_together_28 : decode cX7_together 28 = .ok (.iload_n 3, 1) := by decide +kernel
theorem dX7_together_29 : decode cX7_together 29 = .ok (.invokevirtual 196, 3) := by decide +kernel
theorem dX7_together_32 : decode cX7_together 32 = .ok (.if_icmp .le 8, 3) := by decide +kernel
theorem dX7_together_35 : decode cX7_together 35 = .ok (.iload 4, 2) := by decide +kernel
theorem dX7_together_37 : decode cX7_together 37 = .ok (.goto 4, 3) := by decide +kernel
theorem dX7_together_40 : decode cX7_together 40 = .ok (.iload_n 3, 1) := by decide +kernel
theorem dX7_together_41 : decode cX7_together 41 = .ok (.istore_n 3, 1) := by decide +kernel
theorem dX7_together_42 : decode cX7_together 42 = .ok (.iinc 4 1, 3) := by decide +kernel
theorem dX7_together_45 : decode cX7_together 45 = .ok (.goto (-40), 3) := by decide +kernel
theorem dX7_together_48 : decode cX7_together 48 = .ok (.iconst 0, 1) := by decide +kernel
theorem dX7_together_49 : decode cX7_together 49 = .ok (.istore 4, 2) := by decide +kernel
theorem dX7_together_51 : decode cX7_together 51 = .ok (.iconst 0, 1) := by decide +kernel
theorem dX7_together_52 : decode cX7_together 52 = .ok (.istore 5, 2) := by decide +kernel
theorem dX7_together_54 : decode cX7_together 54 = .ok (.iload 5, 2) := by decide +kernel
theorem dX7_together_56 : decode cX7_together 56 = .ok (.aload_n 0, 1) := by decide +kernel
theorem dX7_together_57 : decode cX7_together 57 = .ok (.getfield 7, 3) := by decide +kernel
theorem dX7_together_60 : decode cX7_together 60 = .ok (.iconst 0, 1) := by decide +kernel
theorem dX7_together_61 : decode cX7_together 61 = .ok (.iaload, 1) := by decide +kernel
theorem dX7_together_62 : decode cX7_together 62 = .ok (.if_icmp .ge 45, 3) := by decide +kernel
theorem dX7_together_65 : decode cX7_together 65 = .ok (.iload 4, 2) := by decide +kernel
theorem dX7_together_67 : decode cX7_together 67 = .ok (.aload_n 0, 1) := by decide +kernel
theorem dX7_together_68 : decode cX7_together 68 = .ok (.iload_n 1, 1) := by decide +kernel
theorem dX7_together_69 : decode cX7_together 69 = .ok (.iload 5, 2) := by decide +kernel
theorem dX7_together_71 : decode cX7_together 71 = .ok (.invokevirtual 187, 3) := by decide +kernel
theorem dX7_together_74 : decode cX7_together 74 = .ok (.aload_n 0, 1) := by decide +kernel
theorem dX7_together_75 : decode cX7_together 75 = .ok (.iload_n 1, 1) := by decide +kernel
theorem dX7_together_76 : decode cX7_together 76 = .ok (.iload_n 3, 1) := by decide +kernel
theorem dX7_together_77 : decode cX7_together 77 = .ok (.invokevirtual 187, 3) := by decide +kernel
theorem dX7_together_80 : decode cX7_together 80 = .ok (.isub, 1) := by decide +kernel
theorem dX7_together_81 : decode cX7_together 81 = .ok (.invokestatic 43, 3) := by decide +kernel
theorem dX7_together_84 : decode cX7_together 84 = .ok (.iload_n 2, 1) := by decide +kernel
theorem dX7_together_85 : decode cX7_together 85 = .ok (.if_icmp .gt 12, 3) := by decide +kernel
theorem dX7_together_88 : decode cX7_together 88 = .ok (.aload_n 0, 1) := by decide +kernel
theorem dX7_together_89 : decode cX7_together 89 = .ok (.iload 5, 2) := by decide +kernel
theorem dX7_together_91 : decode cX7_together 91 = .ok (.invokevirtual 196, 3) := by decide +kernel
theorem dX7_together_94 : decode cX7_together 94 = .ok (.goto 4, 3) := by decide +kernel
theorem dX7_together_97 : decode cX7_together 97 = .ok (.iconst 0, 1) := by decide +kernel
theorem dX7_together_98 : decode cX7_together 98 = .ok (.iadd, 1) := by decide +kernel
theorem dX7_together_99 : decode cX7_together 99 = .ok (.istore 4, 2) := by decide +kernel
theorem dX7_together_101 : decode cX7_together 101 = .ok (.iinc 5 1, 3) := by decide +kernel
theorem dX7_together_104 : decode cX7_together 104 = .ok (.goto (-50), 3) := by decide +kernel
theorem dX7_together_107 : decode cX7_together 107 = .ok (.iload 4, 2) := by decide +kernel
theorem dX7_together_109 : decode cX7_together 109 = .ok (.ireturn, 1) := by decide +kernel
theorem dX7_spread_0 : decode cX7_spread 0 = .ok (.iload_n 1, 1) := by decide +kernel
theorem dX7_spread_1 : decode cX7_spread 1 = .ok (.invokestatic 184, 3) := by decide +kernel
theorem dX7_spread_4 : decode cX7_spread 4 = .ok (.ifCond .eq 13, 3) := by decide +kernel
theorem dX7_spread_7 : decode cX7_spread 7 = .ok (.iload_n 2, 1) := by decide +kernel
theorem dX7_spread_8 : decode cX7_spread 8 = .ok (.iconst 0, 1) := by decide +kernel
theorem dX7_spread_9 : decode cX7_spread 9 = .ok (.bipush 50, 2) := by decide +kernel
theorem dX7_spread_11 : decode cX7_spread 11 = .ok (.invokestatic 39, 3) := by decide +kernel
theorem dX7_spread_14 : decode cX7_spread 14 = .ok (.ifCond .ne 5, 3) := by decide +kernel
theorem dX7_spread_17 : decode cX7_spread 17 = .ok (.iconst (-1), 1) := by decide +kernel
theorem dX7_spread_18 : decode cX7_spread 18 = .ok (.ireturn, 1) := by decide +kernel
theorem dX7_spread_19 : decode cX7_spread 19 = .ok (.iload_n 2, 1) := by decide +kernel
theorem dX7_spread_20 : decode cX7_spread 20 = .ok (.ifCond .ne 11, 3) := by decide +kernel
theorem dX7_spread_23 : decode cX7_spread 23 = .ok (.aload_n 0, 1) := by decide +kernel
theorem dX7_spread_24 : decode cX7_spread 24 = .ok (.iload_n 1, 1) := by decide +kernel
theorem dX7_spread_25 : decode cX7_spread 25 = .ok (.invokevirtual 193, 3) := by decide +kernel
theorem dX7_spread_28 : decode cX7_spread 28 = .ok (.goto 11, 3) := by decide +kernel
theorem dX7_spread_31 : decode cX7_spread 31 = .ok (.aload_n 0, 1) := by decide +kernel
theorem dX7_spread_32 : decode cX7_spread 32 = .ok (.iload_n 1, 1) := by decide +kernel
theorem dX7_spread_33 : decode cX7_spread 33 = .ok (.iload_n 2, 1) := by decide +kernel
theorem dX7_spread_34 : decode cX7_spread 34 = .ok (.iconst 1, 1) := by decide +kernel
theorem dX7_spread_35 : decode cX7_spread 35 = .ok (.isub, 1) := by decide +kernel
theorem dX7_spread_36 : decode cX7_spread 36 = .ok (.invokevirtual 199, 3) := by decide +kernel
theorem dX7_spread_39 : decode cX7_spread 39 = .ok (.ireturn, 1) := by decide +kernel
theorem dX7_back_0 : decode cX7_back 0 = .ok (.iload_n 1, 1) := by decide +kernel
theorem dX7_back_1 : decode cX7_back 1 = .ok (.invokestatic 184, 3) := by decide +kernel
theorem dX7_back_4 : decode cX7_back 4 = .ok (.ifCond .ne 5, 3) := by decide +kernel
theorem dX7_back_7 : decode cX7_back 7 = .ok (.iconst (-1), 1) := by decide +kernel
theorem dX7_back_8 : decode cX7_back 8 = .ok (.ireturn, 1) := by decide +kernel
theorem dX7_back_9 : decode cX7_back 9 = .ok (.iload_n 2, 1) := by decide +kernel
theorem dX7_back_10 : decode cX7_back 10 = .ok (.iconst 0, 1) := by decide +kernel
theorem dX7_back_11 : decode cX7_back 11 = .ok (.bipush 99, 2) := by decide +kernel
theorem dX7_back_13 : decode cX7_back 13 = .ok (.invokestatic 39, 3) := by decide +kernel
theorem dX7_back_16 : decode cX7_back 16 = .ok (.ifCond .ne 6, 3) := by decide +kernel
theorem dX7_back_19 : decode cX7_back 19 = .ok (.bipush (-2), 2) := by decide +kernel
theorem dX7_back_21 : decode cX7_back 21 = .ok (.ireturn, 1) := by decide +kernel
theorem dX7_back_22 : decode cX7_back 22 = .ok (.iconst 0, 1) := by decide +kernel
theorem dX7_back_23 : decode cX7_back 23 = .ok (.istore_n 3, 1) := by decide +kernel
theorem dX7_back_24 : decode cX7_back 24 = .ok (.aload_n 0, 1) := by decide +kernel
theorem dX7_back_25 : decode cX7_back 25 = .ok (.invokevirtual 133, 3) := by decide +kernel
theorem dX7_back_28 : decode cX7_back 28 = .ok (.iload_n 1, 1) := by decide +kernel
theorem dX7_back_29 : decode cX7_back 29 = .ok (.bipush 8, 2) := by decide +kernel
theorem dX7_back_31 : decode cX7_back 31 = .ok (.isub, 1) := by decide +kernel
theorem dX7_back_32 : decode cX7_back 32 = .ok (.aload_n 0, 1) := by decide +kernel
theorem dX7_back_33 : decode cX7_back 33 = .ok (.getfield 7, 3) := by decide +kernel
theorem dX7_back_36 : decode cX7_back 36 = .ok (.iconst 5, 1) := by decide +kernel
theorem dX7_back_37 : decode cX7_back 37 = .ok (.iaload, 1) := by decide +kernel
theorem dX7_back_38 : decode cX7_back 38 = .ok (.invokestatic 155, 3) := by decide +kernel
theorem dX7_back_41 : decode cX7_back 41 = .ok (.imul, 1) := by decide +kernel
theorem dX7_back_42 : decode cX7_back 42 = .ok (.istore 4, 2) := by decide +kernel
theorem dX7_back_44 : decode cX7_back 44 = .ok (.iconst 0, 1) := by decide +kernel
theorem dX7_back_45 : decode cX7_back 45 = .ok (.istore 5, 2) := by decide +kernel
theorem dX7_back_47 : decode cX7_back 47 = .ok (.iload 5, 2) := by decide +kernel
theorem dX7_back_49 : decode cX7_back 49 = .ok (.aload_n 0, 1) := by decide +kernel
theorem dX7_back_50 : decode cX7_back 50 = .ok (.getfield 7, 3) := by decide +kernel
theorem dX7_back_53 : decode cX7_back 53 = .ok (.iconst 0, 1) := by decide +kernel
theorem dX7_back_54 : decode cX7_back 54 = .ok (.iaload, 1) := by decide +kernel
theorem dX7_back_55 : decode cX7_back 55 = .ok (.if_icmp .ge 65, 3) := by decide +kernel
theorem dX7_back_58 : decode cX7_back 58 = .ok (.aload_n 0, 1) := by decide +kernel
theorem dX7_back_59 : decode cX7_back 59 = .ok (.iload 5, 2) := by decide +kernel
theorem dX7_back_61 : decode cX7_back 61 = .ok (.iconst 0, 1) := by decide +kernel
theorem dX7_back_62 : decode cX7_back 62 = .ok (.invokevirtual 158, 3) := by decide +kernel
theorem dX7_back_65 : decode cX7_back 65 = .ok (.aload_n 0, 1) := by decide +kernel
theorem dX7_back_66 : decode cX7_back 66 = .ok (.invokevirtual 133, 3) := by decide +kernel
theorem dX7_back_69 : decode cX7_back 69 = .ok (.iload_n 1, 1) := by decide +kernel
theorem dX7_back_70 : decode cX7_back 70 = .ok (.bipush 8, 2) := by decide +kernel
theorem dX7_back_72 : decode cX7_back 72 = .ok (.isub, 1) := by decide +kernel
theorem dX7_back_73 : decode cX7_back 73 = .ok (.aload_n 0, 1) := by decide +kernel
theorem dX7_back_74 : decode cX7_back 74 = .ok (.getfield 7, 3) := by decide +kernel
theorem dX7_back_77 : decode cX7_back 77 = .ok (.sipush 150, 3) := by decide +kernel
theorem dX7_back_80 : decode cX7_back 80 = .ok (.iload 5, 2) := by decide +kernel
theorem dX7_back_82 : decode cX7_back 82 = .ok (.iadd, 1) := by decide +kernel
theorem dX7_back_83 : decode cX7_back 83 = .ok (.iaload, 1) := by decide +kernel
theorem dX7_back_84 : decode cX7_back 84 = .ok (.invokestatic 155, 3) := by decide +kernel
theorem dX7_back_87 : decode cX7_back 87 = .ok (.imul, 1) := by decide +kernel
theorem dX7_back_88 : decode cX7_back 88 = .ok (.iadd, 1) := by decide +kernel
theorem dX7_back_89 : decode cX7_back 89 = .ok (.istore 6, 2) := by decide +kernel
theorem dX7_back_91 : decode cX7_back 91 = .ok (.iload_n 3, 1) := by decide +kernel
theorem dX7_back_92 : decode cX7_back 92 = .ok (.iload 6, 2) := by decide +kernel
theorem dX7_back_94 : decode cX7_back 94 = .ok (.iload 4, 2) := by decide +kernel
theorem dX7_back_96 : decode cX7_back 96 = .ok (.isub, 1) := by decide +kernel
theorem dX7_back_97 : decode cX7_back 97 = .ok (.invokestatic 43, 3) := by decide +kernel
theorem dX7_back_100 : decode cX7_back 100 = .ok (.iload_n 2, 1) := by decide +kernel
theorem dX7_back_101 : decode cX7_back 101 = .ok (.if_icmp .gt 10, 3) := by decide +kernel
theorem dX7_back_104 : decode cX7_back 104 = .ok (.iconst 1, 1) := by decide +kernel
theorem dX7_back_105 : decode cX7_back 105 = .ok (.iload 5, 2) := by decide +kernel
theorem dX7_back_107 : decode cX7_back 107 = .ok (.ishl, 1) := by decide +kernel
theorem dX7_back_108 : decode cX7_back 108 = .ok (.goto 4, 3) := by decide +kernel
theorem dX7_back_111 : decode cX7_back 111 = .ok (.iconst 0, 1) := by decide +kernel
theorem dX7_back_112 : decode cX7_back 112 = .ok (.ior, 1) := by decide +kernel
theorem dX7_back_113 : decode cX7_back 113 = .ok (.istore_n 3, 1) := by decide +kernel
theorem dX7_back_114 : decode cX7_back 114 = .ok (.iinc 5 1, 3) := by decide +kernel
theorem dX7_back_117 : decode cX7_back 117 = .ok (.goto (-70), 3) := by decide +kernel
theorem dX7_back_120 : decode cX7_back 120 = .ok (.iload_n 3, 1) := by decide +kernel
theorem dX7_back_121 : decode cX7_back 121 = .ok (.ireturn, 1) := by decide +kernel
theorem dX7_best_0 : decode cX7_best 0 = .ok (.iload_n 1, 1) := by decide +kernel
theorem dX7_best_1 : decode cX7_best 1 = .ok (.iconst 0, 1) := by decide +kernel
theorem dX7_best_2 : decode cX7_best 2 = .ok (.iconst 1, 1) := by decide +kernel
theorem dX7_best_3 : decode cX7_best 3 = .ok (.invokestatic 39, 3) := by decide +kernel
theorem dX7_best_6 : decode cX7_best 6 = .ok (.ifCond .ne 5, 3) := by decide +kernel
theorem dX7_best_9 : decode cX7_best 9 = .ok (.iconst (-1), 1) := by decide +kernel
theorem dX7_best_10 : decode cX7_best 10 = .ok (.ireturn, 1) := by decide +kernel
theorem dX7_best_11 : decode cX7_best 11 = .ok (.aload_n 0, 1) := by decide +kernel
theorem dX7_best_12 : decode cX7_best 12 = .ok (.getfield 7, 3) := by decide +kernel
theorem dX7_best_15 : decode cX7_best 15 = .ok (.iconst 5, 1) := by decide +kernel
theorem dX7_best_16 : decode cX7_best 16 = .ok (.iaload, 1) := by decide +kernel
theorem dX7_best_17 : decode cX7_best 17 = .ok (.istore_n 2, 1) := by decide +kernel
theorem dX7_best_18 : decode cX7_best 18 = .ok (.iconst (-1), 1) := by decide +kernel
theorem dX7_best_19 : decode cX7_best 19 = .ok (.istore_n 3, 1) := by decide +kernel
theorem dX7_best_20 : decode cX7_best 20 = .ok (.iconst 0, 1) := by decide +kernel
theorem dX7_best_21 : decode cX7_best 21 = .ok (.istore 4, 2) := by decide +kernel
theorem dX7_best_23 : decode cX7_best 23 = .ok (.iconst 0, 1) := by decide +kernel
theorem dX7_best_24 : decode cX7_best 24 = .ok (.istore 5, 2) := by decide +kernel
theorem dX7_best_26 : decode cX7_best 26 = .ok (.iload 5, 2) := by decide +kernel
theorem dX7_best_28 : decode cX7_best 28 = .ok (.bipush 64, 2) := by decide +kernel
theorem dX7_best_30 : decode cX7_best 30 = .ok (.if_icmp .ge 78, 3) := by decide +kernel
theorem dX7_best_33 : decode cX7_best 33 = .ok (.aload_n 0, 1) := by decide +kernel
theorem dX7_best_34 : decode cX7_best 34 = .ok (.iload 5, 2) := by decide +kernel
theorem dX7_best_36 : decode cX7_best 36 = .ok (.invokevirtual 149, 3) := by decide +kernel
theorem dX7_best_39 : decode cX7_best 39 = .ok (.iconst (-1), 1) := by decide +kernel
theorem dX7_best_40 : decode cX7_best 40 = .ok (.if_icmp .ne 62, 3) := by decide +kernel
theorem dX7_best_43 : decode cX7_best 43 = .ok (.aload_n 0, 1) := by decide +kernel
theorem dX7_best_44 : decode cX7_best 44 = .ok (.getfield 7, 3) := by decide +kernel
theorem dX7_best_47 : decode cX7_best 47 = .ok (.iconst 5, 1) := by decide +kernel
theorem dX7_best_48 : decode cX7_best 48 = .ok (.iload 5, 2) := by decide +kernel
theorem dX7_best_50 : decode cX7_best 50 = .ok (.iastore, 1) := by decide +kernel
theorem dX7_best_51 : decode cX7_best 51 = .ok (.aload_n 0, 1) := by decide +kernel
theorem dX7_best_52 : decode cX7_best 52 = .ok (.invokevirtual 202, 3) := by decide +kernel
theorem dX7_best_55 : decode cX7_best 55 = .ok (.istore 6, 2) := by decide +kernel
theorem dX7_best_57 : decode cX7_best 57 = .ok (.iload_n 3, 1) := by decide +kernel
theorem dX7_best_58 : decode cX7_best 58 = .ok (.iconst (-1), 1) := by decide +kernel
theorem dX7_best_59 : decode cX7_best 59 = .ok (.if_icmp .eq 10, 3) := by decide +kernel
theorem dX7_best_62 : decode cX7_best 62 = .ok (.iload 6, 2) := by decide +kernel
theorem dX7_best_64 : decode cX7_best 64 = .ok (.iload 4, 2) := by decide +kernel
theorem dX7_best_66 : decode cX7_best 66 = .ok (.if_icmp .ge 7, 3) := by decide +kernel
theorem dX7_best_69 : decode cX7_best 69 = .ok (.iconst 1, 1) := by decide +kernel
theorem dX7_best_70 : decode cX7_best 70 = .ok (.goto 4, 3) := by decide +kernel
theorem dX7_best_73 : decode cX7_best 73 = .ok (.iconst 0, 1) := by decide +kernel
theorem dX7_best_74 : decode cX7_best 74 = .ok (.istore 7, 2) := by decide +kernel
theorem dX7_best_76 : decode cX7_best 76 = .ok (.iload 7, 2) := by decide +kernel
theorem dX7_best_78 : decode cX7_best 78 = .ok (.ifCond .eq 8, 3) := by decide +kernel
theorem dX7_best_81 : decode cX7_best 81 = .ok (.iload 5, 2) := by decide +kernel
theorem dX7_best_83 : decode cX7_best 83 = .ok (.goto 4, 3) := by decide +kernel
theorem dX7_best_86 : decode cX7_best 86 = .ok (.iload_n 3, 1) := by decide +kernel
theorem dX7_best_87 : decode cX7_best 87 = .ok (.istore_n 3, 1) := by decide +kernel
theorem dX7_best_88 : decode cX7_best 88 = .ok (.iload 7, 2) := by decide +kernel
theorem dX7_best_90 : decode cX7_best 90 = .ok (.ifCond .eq 8, 3) := by decide +kernel
theorem dX7_best_93 : decode cX7_best 93 = .ok (.iload 6, 2) := by decide +kernel
theorem dX7_best_95 : decode cX7_best 95 = .ok (.goto 5, 3) := by decide +kernel
theorem dX7_best_98 : decode cX7_best 98 = .ok (.iload 4, 2) := by decide +kernel
theorem dX7_best_100 : decode cX7_best 100 = .ok (.istore 4, 2) := by decide +kernel
theorem dX7_best_102 : decode cX7_best 102 = .ok (.iinc 5 1, 3) := by decide +kernel
theorem dX7_best_105 : decode cX7_best 105 = .ok (.goto (-79), 3) := by decide +kernel
theorem dX7_best_108 : decode cX7_best 108 = .ok (.aload_n 0, 1) := by decide +kernel
theorem dX7_best_109 : decode cX7_best 109 = .ok (.getfield 7, 3) := by decide +kernel
theorem dX7_best_112 : decode cX7_best 112 = .ok (.iconst 5, 1) := by decide +kernel
theorem dX7_best_113 : decode cX7_best 113 = .ok (.iload_n 2, 1) := by decide +kernel
theorem dX7_best_114 : decode cX7_best 114 = .ok (.iastore, 1) := by decide +kernel
theorem dX7_best_115 : decode cX7_best 115 = .ok (.iload_n 1, 1) := by decide +kernel
theorem dX7_best_116 : decode cX7_best 116 = .ok (.ifCond .ne 7, 3) := by decide +kernel
theorem dX7_best_119 : decode cX7_best 119 = .ok (.iload_n 3, 1) := by decide +kernel
theorem dX7_best_120 : decode cX7_best 120 = .ok (.goto 5, 3) := by decide +kernel
theorem dX7_best_123 : decode cX7_best 123 = .ok (.iload 4, 2) := by decide +kernel
theorem dX7_best_125 : decode cX7_best 125 = .ok (.ireturn, 1) := by decide +kernel
theorem dX7_early_0 : decode cX7_early 0 = .ok (.aload_n 0, 1) := by decide +kernel
theorem dX7_early_1 : decode cX7_early 1 = .ok (.iload_n 1, 1) := by decide +kernel
theorem dX7_early_2 : decode cX7_early 2 = .ok (.invokevirtual 152, 3) := by decide +kernel
theorem dX7_early_5 : decode cX7_early 5 = .ok (.ifCond .eq 10, 3) := by decide +kernel
theorem dX7_early_8 : decode cX7_early 8 = .ok (.iload_n 2, 1) := by decide +kernel
theorem dX7_early_9 : decode cX7_early 9 = .ok (.invokestatic 184, 3) := by decide +kernel
theorem dX7_early_12 : decode cX7_early 12 = .ok (.ifCond .ne 5, 3) := by decide +kernel
theorem dX7_early_15 : decode cX7_early 15 = .ok (.iconst (-1), 1) := by decide +kernel
theorem dX7_early_16 : decode cX7_early 16 = .ok (.ireturn, 1) := by decide +kernel
theorem dX7_early_17 : decode cX7_early 17 = .ok (.aload_n 0, 1) := by decide +kernel
theorem dX7_early_18 : decode cX7_early 18 = .ok (.iload_n 2, 1) := by decide +kernel
theorem dX7_early_19 : decode cX7_early 19 = .ok (.invokevirtual 193, 3) := by decide +kernel
theorem dX7_early_22 : decode cX7_early 22 = .ok (.istore_n 3, 1) := by decide +kernel
theorem dX7_early_23 : decode cX7_early 23 = .ok (.aload_n 0, 1) := by decide +kernel
theorem dX7_early_24 : decode cX7_early 24 = .ok (.iload_n 2, 1) := by decide +kernel
theorem dX7_early_25 : decode cX7_early 25 = .ok (.iload_n 1, 1) := by decide +kernel
theorem dX7_early_26 : decode cX7_early 26 = .ok (.invokevirtual 187, 3) := by decide +kernel
theorem dX7_early_29 : decode cX7_early 29 = .ok (.aload_n 0, 1) := by decide +kernel
theorem dX7_early_30 : decode cX7_early 30 = .ok (.getfield 190, 3) := by decide +kernel
theorem dX7_early_33 : decode cX7_early 33 = .ok (.isub, 1) := by decide +kernel
theorem dX7_early_34 : decode cX7_early 34 = .ok (.ireturn, 1) := by decide +kernel
theorem dX7_beats_0 : decode cX7_beats 0 = .ok (.iload_n 1, 1) := by decide +kernel
theorem dX7_beats_1 : decode cX7_beats 1 = .ok (.invokestatic 184, 3) := by decide +kernel
theorem dX7_beats_4 : decode cX7_beats 4 = .ok (.ifCond .eq 17, 3) := by decide +kernel
theorem dX7_beats_7 : decode cX7_beats 7 = .ok (.aload_n 0, 1) := by decide +kernel
theorem dX7_beats_8 : decode cX7_beats 8 = .ok (.iload_n 1, 1) := by decide +kernel
theorem dX7_beats_9 : decode cX7_beats 9 = .ok (.invokevirtual 193, 3) := by decide +kernel
theorem dX7_beats_12 : decode cX7_beats 12 = .ok (.aload_n 0, 1) := by decide +kernel
theorem dX7_beats_13 : decode cX7_beats 13 = .ok (.iconst 1, 1) := by decide +kernel
theorem dX7_beats_14 : decode cX7_beats 14 = .ok (.invokevirtual 205, 3) := by decide +kernel
theorem dX7_beats_17 : decode cX7_beats 17 = .ok (.idiv, 1) := by decide +kernel
theorem dX7_beats_18 : decode cX7_beats 18 = .ok (.goto 4, 3) := by decide +kernel
theorem dX7_beats_21 : decode cX7_beats 21 = .ok (.iconst (-1), 1) := by decide +kernel
theorem dX7_beats_22 : decode cX7_beats 22 = .ok (.ireturn, 1) := by decide +kernel
theorem dX7_form_0 : decode cX7_form 0 = .ok (.iload_n 1, 1) := by decide +kernel
theorem dX7_form_1 : decode cX7_form 1 = .ok (.iconst (-1), 1) := by decide +kernel
theorem dX7_form_2 : decode cX7_form 2 = .ok (.if_icmp .ne 12, 3) := by decide +kernel
theorem dX7_form_5 : decode cX7_form 5 = .ok (.aload_n 0, 1) := by decide +kernel
theorem dX7_form_6 : decode cX7_form 6 = .ok (.getfield 7, 3) := by decide +kernel
theorem dX7_form_9 : decode cX7_form 9 = .ok (.iconst 2, 1) := by decide +kernel
theorem dX7_form_10 : decode cX7_form 10 = .ok (.iconst 0, 1) := by decide +kernel
theorem dX7_form_11 : decode cX7_form 11 = .ok (.iastore, 1) := by decide +kernel
theorem dX7_form_12 : decode cX7_form 12 = .ok (.iconst 0, 1) := by decide +kernel
theorem dX7_form_13 : decode cX7_form 13 = .ok (.ireturn, 1) := by decide +kernel
theorem dX7_form_14 : decode cX7_form 14 = .ok (.iload_n 1, 1) := by decide +kernel
theorem dX7_form_15 : decode cX7_form 15 = .ok (.invokestatic 145, 3) := by decide +kernel
theorem dX7_form_18 : decode cX7_form 18 = .ok (.ifCond .ne 5, 3) := by decide +kernel
theorem dX7_form_21 : decode cX7_form 21 = .ok (.iconst (-1), 1) := by decide +kernel
theorem dX7_form_22 : decode cX7_form 22 = .ok (.ireturn, 1) := by decide +kernel
theorem dX7_form_23 : decode cX7_form 23 = .ok (.iconst 0, 1) := by decide +kernel
theorem dX7_form_24 : decode cX7_form 24 = .ok (.istore_n 2, 1) := by decide +kernel
theorem dX7_form_25 : decode cX7_form 25 = .ok (.iload_n 2, 1) := by decide +kernel
theorem dX7_form_26 : decode cX7_form 26 = .ok (.aload_n 0, 1) := by decide +kernel
theorem dX7_form_27 : decode cX7_form 27 = .ok (.getfield 7, 3) := by decide +kernel
theorem dX7_form_30 : decode cX7_form 30 = .ok (.iconst 2, 1) := by decide +kernel
theorem dX7_form_31 : decode cX7_form 31 = .ok (.iaload, 1) := by decide +kernel
theorem dX7_form_32 : decode cX7_form 32 = .ok (.if_icmp .ge 26, 3) := by decide +kernel
theorem dX7_form_35 : decode cX7_form 35 = .ok (.aload_n 0, 1) := by decide +kernel
theorem dX7_form_36 : decode cX7_form 36 = .ok (.getfield 7, 3) := by decide +kernel
theorem dX7_form_39 : decode cX7_form 39 = .ok (.sipush 160, 3) := by decide +kernel
theorem dX7_form_42 : decode cX7_form 42 = .ok (.iload_n 2, 1) := by decide +kernel
theorem dX7_form_43 : decode cX7_form 43 = .ok (.iadd, 1) := by decide +kernel
theorem dX7_form_44 : decode cX7_form 44 = .ok (.iaload, 1) := by decide +kernel
theorem dX7_form_45 : decode cX7_form 45 = .ok (.iload_n 1, 1) := by decide +kernel
theorem dX7_form_46 : decode cX7_form 46 = .ok (.if_icmp .ne 6, 3) := by decide +kernel
theorem dX7_form_49 : decode cX7_form 49 = .ok (.bipush (-3), 2) := by decide +kernel
theorem dX7_form_51 : decode cX7_form 51 = .ok (.ireturn, 1) := by decide +kernel
theorem dX7_form_52 : decode cX7_form 52 = .ok (.iinc 2 1, 3) := by decide +kernel
theorem dX7_form_55 : decode cX7_form 55 = .ok (.goto (-30), 3) := by decide +kernel
theorem dX7_form_58 : decode cX7_form 58 = .ok (.aload_n 0, 1) := by decide +kernel
theorem dX7_form_59 : decode cX7_form 59 = .ok (.getfield 7, 3) := by decide +kernel
theorem dX7_form_62 : decode cX7_form 62 = .ok (.iconst 2, 1) := by decide +kernel
theorem dX7_form_63 : decode cX7_form 63 = .ok (.iaload, 1) := by decide +kernel
theorem dX7_form_64 : decode cX7_form 64 = .ok (.bipush 10, 2) := by decide +kernel
theorem dX7_form_66 : decode cX7_form 66 = .ok (.if_icmp .ne 6, 3) := by decide +kernel
theorem dX7_form_69 : decode cX7_form 69 = .ok (.bipush (-4), 2) := by decide +kernel
theorem dX7_form_71 : decode cX7_form 71 = .ok (.ireturn, 1) := by decide +kernel
theorem dX7_form_72 : decode cX7_form 72 = .ok (.aload_n 0, 1) := by decide +kernel
theorem dX7_form_73 : decode cX7_form 73 = .ok (.getfield 7, 3) := by decide +kernel
theorem dX7_form_76 : decode cX7_form 76 = .ok (.sipush 160, 3) := by decide +kernel
theorem dX7_form_79 : decode cX7_form 79 = .ok (.aload_n 0, 1) := by decide +kernel
theorem dX7_form_80 : decode cX7_form 80 = .ok (.getfield 7, 3) := by decide +kernel
theorem dX7_form_83 : decode cX7_form 83 = .ok (.iconst 2, 1) := by decide +kernel
theorem dX7_form_84 : decode cX7_form 84 = .ok (.iaload, 1) := by decide +kernel
theorem dX7_form_85 : decode cX7_form 85 = .ok (.iadd, 1) := by decide +kernel
theorem dX7_form_86 : decode cX7_form 86 = .ok (.iload_n 1, 1) := by decide +kernel
theorem dX7_form_87 : decode cX7_form 87 = .ok (.iastore, 1) := by decide +kernel
theorem dX7_form_88 : decode cX7_form 88 = .ok (.aload_n 0, 1) := by decide +kernel
theorem dX7_form_89 : decode cX7_form 89 = .ok (.getfield 7, 3) := by decide +kernel
theorem dX7_form_92 : decode cX7_form 92 = .ok (.iconst 2, 1) := by decide +kernel
theorem dX7_form_93 : decode cX7_form 93 = .ok (.dup2, 1) := by decide +kernel
theorem dX7_form_94 : decode cX7_form 94 = .ok (.iaload, 1) := by decide +kernel
theorem dX7_form_95 : decode cX7_form 95 = .ok (.iconst 1, 1) := by decide +kernel
theorem dX7_form_96 : decode cX7_form 96 = .ok (.iadd, 1) := by decide +kernel
theorem dX7_form_97 : decode cX7_form 97 = .ok (.iastore, 1) := by decide +kernel
theorem dX7_form_98 : decode cX7_form 98 = .ok (.aload_n 0, 1) := by decide +kernel
theorem dX7_form_99 : decode cX7_form 99 = .ok (.getfield 7, 3) := by decide +kernel
theorem dX7_form_102 : decode cX7_form 102 = .ok (.iconst 2, 1) := by decide +kernel
theorem dX7_form_103 : decode cX7_form 103 = .ok (.iaload, 1) := by decide +kernel
theorem dX7_form_104 : decode cX7_form 104 = .ok (.ireturn, 1) := by decide +kernel
theorem dX7_isTooFew_0 : decode cX7_isTooFew 0 = .ok (.aload_n 0, 1) := by decide +kernel
theorem dX7_isTooFew_1 : decode cX7_isTooFew 1 = .ok (.getfield 7, 3) := by decide +kernel
theorem dX7_isTooFew_4 : decode cX7_isTooFew 4 = .ok (.iconst 2, 1) := by decide +kernel
theorem dX7_isTooFew_5 : decode cX7_isTooFew 5 = .ok (.iaload, 1) := by decide +kernel
theorem dX7_isTooFew_6 : decode cX7_isTooFew 6 = .ok (.aload_n 0, 1) := by decide +kernel
theorem dX7_isTooFew_7 : decode cX7_isTooFew 7 = .ok (.getfield 7, 3) := by decide +kernel
theorem dX7_isTooFew_10 : decode cX7_isTooFew 10 = .ok (.iconst 0, 1) := by decide +kernel
theorem dX7_isTooFew_11 : decode cX7_isTooFew 11 = .ok (.iaload, 1) := by decide +kernel
theorem dX7_isTooFew_12 : decode cX7_isTooFew 12 = .ok (.if_icmp .ge 7, 3) := by decide +kernel
theorem dX7_isTooFew_15 : decode cX7_isTooFew 15 = .ok (.iconst 1, 1) := by decide +kernel
theorem dX7_isTooFew_16 : decode cX7_isTooFew 16 = .ok (.goto 4, 3) := by decide +kernel
theorem dX7_isTooFew_19 : decode cX7_isTooFew 19 = .ok (.iconst 0, 1) := by decide +kernel
theorem dX7_isTooFew_20 : decode cX7_isTooFew 20 = .ok (.ireturn, 1) := by decide +kernel
theorem dX7_farTo_0 : decode cX7_farTo 0 = .ok (.aload_n 0, 1) := by decide +kernel
theorem dX7_farTo_1 : decode cX7_farTo 1 = .ok (.getfield 7, 3) := by decide +kernel
theorem dX7_farTo_4 : decode cX7_farTo 4 = .ok (.sipush 150, 3) := by decide +kernel
theorem dX7_farTo_7 : decode cX7_farTo 7 = .ok (.iload_n 1, 1) := by decide +kernel
theorem dX7_farTo_8 : decode cX7_farTo 8 = .ok (.iadd, 1) := by decide +kernel
theorem dX7_farTo_9 : decode cX7_farTo 9 = .ok (.iaload, 1) := by decide +kernel
theorem dX7_farTo_10 : decode cX7_farTo 10 = .ok (.aload_n 0, 1) := by decide +kernel
theorem dX7_farTo_11 : decode cX7_farTo 11 = .ok (.getfield 7, 3) := by decide +kernel
theorem dX7_farTo_14 : decode cX7_farTo 14 = .ok (.sipush 160, 3) := by decide +kernel
theorem dX7_farTo_17 : decode cX7_farTo 17 = .ok (.iload_n 2, 1) := by decide +kernel
theorem dX7_farTo_18 : decode cX7_farTo 18 = .ok (.iadd, 1) := by decide +kernel
theorem dX7_farTo_19 : decode cX7_farTo 19 = .ok (.iaload, 1) := by decide +kernel
theorem dX7_farTo_20 : decode cX7_farTo 20 = .ok (.invokestatic 155, 3) := by decide +kernel
theorem dX7_farTo_23 : decode cX7_farTo 23 = .ok (.ireturn, 1) := by decide +kernel
theorem dX7_rowsFrom_0 : decode cX7_rowsFrom 0 = .ok (.iload_n 1, 1) := by decide +kernel
theorem dX7_rowsFrom_1 : decode cX7_rowsFrom 1 = .ok (.aload_n 0, 1) := by decide +kernel
theorem dX7_rowsFrom_2 : decode cX7_rowsFrom 2 = .ok (.getfield 7, 3) := by decide +kernel
theorem dX7_rowsFrom_5 : decode cX7_rowsFrom 5 = .ok (.iconst 0, 1) := by decide +kernel
theorem dX7_rowsFrom_6 : decode cX7_rowsFrom 6 = .ok (.iaload, 1) := by decide +kernel
theorem dX7_rowsFrom_7 : decode cX7_rowsFrom 7 = .ok (.if_icmp .ne 77, 3) := by decide +kernel
theorem dX7_rowsFrom_10 : decode cX7_rowsFrom 10 = .ok (.aload_n 0, 1) := by decide +kernel
theorem dX7_rowsFrom_11 : decode cX7_rowsFrom 11 = .ok (.getfield 208, 3) := by decide +kernel
theorem dX7_rowsFrom_14 : decode cX7_rowsFrom 14 = .ok (.iconst (-1), 1) := by decide +kernel
theorem dX7_rowsFrom_15 : decode cX7_rowsFrom 15 = .ok (.if_icmp .eq 28, 3) := by decide +kernel
theorem dX7_rowsFrom_18 : decode cX7_rowsFrom 18 = .ok (.iload_n 3, 1) := by decide +kernel
theorem dX7_rowsFrom_19 : decode cX7_rowsFrom 19 = .ok (.aload_n 0, 1) := by decide +kernel
theorem dX7_rowsFrom_20 : decode cX7_rowsFrom 20 = .ok (.getfield 208, 3) := by decide +kernel
theorem dX7_rowsFrom_23 : decode cX7_rowsFrom 23 = .ok (.if_icmp .lt 20, 3) := by decide +kernel
theorem dX7_rowsFrom_26 : decode cX7_rowsFrom 26 = .ok (.iload_n 3, 1) := by decide +kernel
theorem dX7_rowsFrom_27 : decode cX7_rowsFrom 27 = .ok (.aload_n 0, 1) := by decide +kernel
theorem dX7_rowsFrom_28 : decode cX7_rowsFrom 28 = .ok (.getfield 208, 3) := by decide +kernel
theorem dX7_rowsFrom_31 : decode cX7_rowsFrom 31 = .ok (.if_icmp .ne 52, 3) := by decide +kernel
theorem dX7_rowsFrom_34 : decode cX7_rowsFrom 34 = .ok (.iload 4, 2) := by decide +kernel
theorem dX7_rowsFrom_36 : decode cX7_rowsFrom 36 = .ok (.aload_n 0, 1) := by decide +kernel
theorem dX7_rowsFrom_37 : decode cX7_rowsFrom 37 = .ok (.getfield 211, 3) := by decide +kernel
theorem dX7_rowsFrom_40 : decode cX7_rowsFrom 40 = .ok (.if_icmp .ge 43, 3) := by decide +kernel
theorem dX7_rowsFrom_43 : decode cX7_rowsFrom 43 = .ok (.aload_n 0, 1) := by decide +kernel
theorem dX7_rowsFrom_44 : decode cX7_rowsFrom 44 = .ok (.iload_n 3, 1) := by decide +kernel
theorem dX7_rowsFrom_45 : decode cX7_rowsFrom 45 = .ok (.putfield 208, 3) := by decide +kernel
theorem dX7_rowsFrom_48 : decode cX7_rowsFrom 48 = .ok (.aload_n 0, 1) := by decide +kernel
theorem dX7_rowsFrom_49 : decode cX7_rowsFrom 49 = .ok (.iload 4, 2) := by decide +kernel
theorem dX7_rowsFrom_51 : decode cX7_rowsFrom 51 = .ok (.putfield 211, 3) := by decide +kernel
theorem dX7_rowsFrom_54 : decode cX7_rowsFrom 54 = .ok (.iconst 0, 1) := by decide +kernel
theorem dX7_rowsFrom_55 : decode cX7_rowsFrom 55 = .ok (.istore 5, 2) := by decide +kernel
theorem dX7_rowsFrom_57 : decode cX7_rowsFrom 57 = .ok (.iload 5, 2) := by decide +kernel
theorem dX7_rowsFrom_59 : decode cX7_rowsFrom 59 = .ok (.iload_n 1, 1) := by decide +kernel
theorem dX7_rowsFrom_60 : decode cX7_rowsFrom 60 = .ok (.if_icmp .ge 23, 3) := by decide +kernel
theorem dX7_rowsFrom_63 : decode cX7_rowsFrom 63 = .ok (.aload_n 0, 1) := by decide +kernel
theorem dX7_rowsFrom_64 : decode cX7_rowsFrom 64 = .ok (.getfield 30, 3) := by decide +kernel
theorem dX7_rowsFrom_67 : decode cX7_rowsFrom 67 = .ok (.iload 5, 2) := by decide +kernel
theorem dX7_rowsFrom_69 : decode cX7_rowsFrom 69 = .ok (.aload_n 0, 1) := by decide +kernel
theorem dX7_rowsFrom_70 : decode cX7_rowsFrom 70 = .ok (.getfield 27, 3) := by decide +kernel
theorem dX7_rowsFrom_73 : decode cX7_rowsFrom 73 = .ok (.iload 5, 2) := by decide +kernel
theorem dX7_rowsFrom_75 : decode cX7_rowsFrom 75 = .ok (.iaload, 1) := by decide +kernel
theorem dX7_rowsFrom_76 : decode cX7_rowsFrom 76 = .ok (.iastore, 1) := by decide +kernel
theorem dX7_rowsFrom_77 : decode cX7_rowsFrom 77 = .ok (.iinc 5 1, 3) := by decide +kernel
theorem dX7_rowsFrom_80 : decode cX7_rowsFrom 80 = .ok (.goto (-23), 3) := by decide +kernel
theorem dX7_rowsFrom_83 : decode cX7_rowsFrom 83 = .ok (.return_, 1) := by decide +kernel
theorem dX7_rowsFrom_84 : decode cX7_rowsFrom 84 = .ok (.iconst 0, 1) := by decide +kernel
theorem dX7_rowsFrom_85 : decode cX7_rowsFrom 85 = .ok (.istore 5, 2) := by decide +kernel
theorem dX7_rowsFrom_87 : decode cX7_rowsFrom 87 = .ok (.iload 5, 2) := by decide +kernel
theorem dX7_rowsFrom_89 : decode cX7_rowsFrom 89 = .ok (.aload_n 0, 1) := by decide +kernel
theorem dX7_rowsFrom_90 : decode cX7_rowsFrom 90 = .ok (.getfield 7, 3) := by decide +kernel
theorem dX7_rowsFrom_93 : decode cX7_rowsFrom 93 = .ok (.iconst 0, 1) := by decide +kernel
theorem dX7_rowsFrom_94 : decode cX7_rowsFrom 94 = .ok (.iaload, 1) := by decide +kernel
theorem dX7_rowsFrom_95 : decode cX7_rowsFrom 95 = .ok (.if_icmp .ge 65, 3) := by decide +kernel
theorem dX7_rowsFrom_98 : decode cX7_rowsFrom 98 = .ok (.iload_n 2, 1) := by decide +kernel
theorem dX7_rowsFrom_99 : decode cX7_rowsFrom 99 = .ok (.iload 5, 2) := by decide +kernel
theorem dX7_rowsFrom_101 : decode cX7_rowsFrom 101 = .ok (.ishr, 1) := by decide +kernel
theorem dX7_rowsFrom_102 : decode cX7_rowsFrom 102 = .ok (.iconst 1, 1) := by decide +kernel
theorem dX7_rowsFrom_103 : decode cX7_rowsFrom 103 = .ok (.iand, 1) := by decide +kernel
theorem dX7_rowsFrom_104 : decode cX7_rowsFrom 104 = .ok (.ifCond .ne 50, 3) := by decide +kernel
theorem dX7_rowsFrom_107 : decode cX7_rowsFrom 107 = .ok (.aload_n 0, 1) := by decide +kernel
theorem dX7_rowsFrom_108 : decode cX7_rowsFrom 108 = .ok (.getfield 27, 3) := by decide +kernel
theorem dX7_rowsFrom_111 : decode cX7_rowsFrom 111 = .ok (.iload_n 1, 1) := by decide +kernel
theorem dX7_rowsFrom_112 : decode cX7_rowsFrom 112 = .ok (.iload 5, 2) := by decide +kernel
theorem dX7_rowsFrom_114 : decode cX7_rowsFrom 114 = .ok (.iastore, 1) := by decide +kernel
theorem dX7_rowsFrom_115 : decode cX7_rowsFrom 115 = .ok (.aload_n 0, 1) := by decide +kernel
theorem dX7_rowsFrom_116 : decode cX7_rowsFrom 116 = .ok (.iload_n 1, 1) := by decide +kernel
theorem dX7_rowsFrom_117 : decode cX7_rowsFrom 117 = .ok (.iload 5, 2) := by decide +kernel
theorem dX7_rowsFrom_119 : decode cX7_rowsFrom 119 = .ok (.invokevirtual 214, 3) := by decide +kernel
theorem dX7_rowsFrom_122 : decode cX7_rowsFrom 122 = .ok (.istore 6, 2) := by decide +kernel
theorem dX7_rowsFrom_124 : decode cX7_rowsFrom 124 = .ok (.aload_n 0, 1) := by decide +kernel
theorem dX7_rowsFrom_125 : decode cX7_rowsFrom 125 = .ok (.iload_n 1, 1) := by decide +kernel
theorem dX7_rowsFrom_126 : decode cX7_rowsFrom 126 = .ok (.iconst 1, 1) := by decide +kernel
theorem dX7_rowsFrom_127 : decode cX7_rowsFrom 127 = .ok (.iadd, 1) := by decide +kernel
theorem dX7_rowsFrom_128 : decode cX7_rowsFrom 128 = .ok (.iload_n 2, 1) := by decide +kernel
theorem dX7_rowsFrom_129 : decode cX7_rowsFrom 129 = .ok (.iconst 1, 1) := by decide +kernel
theorem dX7_rowsFrom_130 : decode cX7_rowsFrom 130 = .ok (.iload 5, 2) := by decide +kernel
theorem dX7_rowsFrom_132 : decode cX7_rowsFrom 132 = .ok (.ishl, 1) := by decide +kernel
theorem dX7_rowsFrom_133 : decode cX7_rowsFrom 133 = .ok (.ior, 1) := by decide +kernel
theorem dX7_rowsFrom_134 : decode cX7_rowsFrom 134 = .ok (.iload 6, 2) := by decide +kernel
theorem dX7_rowsFrom_136 : decode cX7_rowsFrom 136 = .ok (.iload_n 3, 1) := by decide +kernel
theorem dX7_rowsFrom_137 : decode cX7_rowsFrom 137 = .ok (.if_icmp .le 8, 3) := by decide +kernel
theorem dX7_rowsFrom_140 : decode cX7_rowsFrom 140 = .ok (.iload 6, 2) := by decide +kernel
theorem dX7_rowsFrom_142 : decode cX7_rowsFrom 142 = .ok (.goto 4, 3) := by decide +kernel
theorem dX7_rowsFrom_145 : decode cX7_rowsFrom 145 = .ok (.iload_n 3, 1) := by decide +kernel
theorem dX7_rowsFrom_146 : decode cX7_rowsFrom 146 = .ok (.iload 4, 2) := by decide +kernel
theorem dX7_rowsFrom_148 : decode cX7_rowsFrom 148 = .ok (.iload 6, 2) := by decide +kernel
theorem dX7_rowsFrom_150 : decode cX7_rowsFrom 150 = .ok (.iadd, 1) := by decide +kernel
theorem dX7_rowsFrom_151 : decode cX7_rowsFrom 151 = .ok (.invokevirtual 217, 3) := by decide +kernel
theorem dX7_rowsFrom_154 : decode cX7_rowsFrom 154 = .ok (.iinc 5 1, 3) := by decide +kernel
theorem dX7_rowsFrom_157 : decode cX7_rowsFrom 157 = .ok (.goto (-70), 3) := by decide +kernel
theorem dX7_rowsFrom_160 : decode cX7_rowsFrom 160 = .ok (.return_, 1) := by decide +kernel
theorem dX7_looksForWay_0 : decode cX7_looksForWay 0 = .ok (.aload_n 0, 1) := by decide +kernel
theorem dX7_looksForWay_1 : decode cX7_looksForWay 1 = .ok (.invokevirtual 221, 3) := by decide +kernel
theorem dX7_looksForWay_4 : decode cX7_looksForWay 4 = .ok (.ifCond .eq 6, 3) := by decide +kernel
theorem dX7_looksForWay_7 : decode cX7_looksForWay 7 = .ok (.bipush (-5), 2) := by decide +kernel
theorem dX7_looksForWay_9 : decode cX7_looksForWay 9 = .ok (.ireturn, 1) := by decide +kernel
theorem dX7_looksForWay_10 : decode cX7_looksForWay 10 = .ok (.aload_n 0, 1) := by decide +kernel
theorem dX7_looksForWay_11 : decode cX7_looksForWay 11 = .ok (.getfield 7, 3) := by decide +kernel
theorem dX7_looksForWay_14 : decode cX7_looksForWay 14 = .ok (.iconst 0, 1) := by decide +kernel
theorem dX7_looksForWay_15 : decode cX7_looksForWay 15 = .ok (.iaload, 1) := by decide +kernel
theorem dX7_looksForWay_16 : decode cX7_looksForWay 16 = .ok (.bipush 6, 2) := by decide +kernel
theorem dX7_looksForWay_18 : decode cX7_looksForWay 18 = .ok (.if_icmp .le 6, 3) := by decide +kernel
theorem dX7_looksForWay_21 : decode cX7_looksForWay 21 = .ok (.bipush (-9), 2) := by decide +kernel
theorem dX7_looksForWay_23 : decode cX7_looksForWay 23 = .ok (.ireturn, 1) := by decide +kernel
theorem dX7_looksForWay_24 : decode cX7_looksForWay 24 = .ok (.aload_n 0, 1) := by decide +kernel
theorem dX7_looksForWay_25 : decode cX7_looksForWay 25 = .ok (.iconst (-1), 1) := by decide +kernel
theorem dX7_looksForWay_26 : decode cX7_looksForWay 26 = .ok (.putfield 208, 3) := by decide +kernel
theorem dX7_looksForWay_29 : decode cX7_looksForWay 29 = .ok (.aload_n 0, 1) := by decide +kernel
theorem dX7_looksForWay_30 : decode cX7_looksForWay 30 = .ok (.iconst 0, 1) := by decide +kernel
theorem dX7_looksForWay_31 : decode cX7_looksForWay 31 = .ok (.putfield 211, 3) := by decide +kernel
theorem dX7_looksForWay_34 : decode cX7_looksForWay 34 = .ok (.aload_n 0, 1) := by decide +kernel
theorem dX7_looksForWay_35 : decode cX7_looksForWay 35 = .ok (.iconst 0, 1) := by decide +kernel
theorem dX7_looksForWay_36 : decode cX7_looksForWay 36 = .ok (.iconst 0, 1) := by decide +kernel
theorem dX7_looksForWay_37 : decode cX7_looksForWay 37 = .ok (.iconst 0, 1) := by decide +kernel
theorem dX7_looksForWay_38 : decode cX7_looksForWay 38 = .ok (.iconst 0, 1) := by decide +kernel
theorem dX7_looksForWay_39 : decode cX7_looksForWay 39 = .ok (.invokevirtual 217, 3) := by decide +kernel
theorem dX7_looksForWay_42 : decode cX7_looksForWay 42 = .ok (.iconst 0, 1) := by decide +kernel
theorem dX7_looksForWay_43 : decode cX7_looksForWay 43 = .ok (.ireturn, 1) := by decide +kernel
theorem dX7_way_0 : decode cX7_way 0 = .ok (.iload_n 1, 1) := by decide +kernel
theorem dX7_way_1 : decode cX7_way 1 = .ok (.bipush (-2), 2) := by decide +kernel
theorem dX7_way_3 : decode cX7_way 3 = .ok (.aload_n 0, 1) := by decide +kernel
theorem dX7_way_4 : decode cX7_way 4 = .ok (.getfield 7, 3) := by decide +kernel
theorem dX7_way_7 : decode cX7_way 7 = .ok (.iconst 0, 1) := by decide +kernel
theorem dX7_way_8 : decode cX7_way 8 = .ok (.iaload, 1) := by decide +kernel
theorem dX7_way_9 : decode cX7_way 9 = .ok (.iconst 1, 1) := by decide +kernel
theorem dX7_way_10 : decode cX7_way 10 = .ok (.isub, 1) := by decide +kernel
theorem dX7_way_11 : decode cX7_way 11 = .ok (.invokestatic 39, 3) := by decide +kernel
theorem dX7_way_14 : decode cX7_way 14 = .ok (.ifCond .ne 5, 3) := by decide +kernel
theorem dX7_way_17 : decode cX7_way 17 = .ok (.iconst (-1), 1) := by decide +kernel
theorem dX7_way_18 : decode cX7_way 18 = .ok (.ireturn, 1) := by decide +kernel
theorem dX7_way_19 : decode cX7_way 19 = .ok (.aload_n 0, 1) := by decide +kernel
theorem dX7_way_20 : decode cX7_way 20 = .ok (.invokevirtual 225, 3) := by decide +kernel
theorem dX7_way_23 : decode cX7_way 23 = .ok (.istore_n 2, 1) := by decide +kernel
theorem dX7_way_24 : decode cX7_way 24 = .ok (.iload_n 2, 1) := by decide +kernel
theorem dX7_way_25 : decode cX7_way 25 = .ok (.ifCond .ge 7, 3) := by decide +kernel
theorem dX7_way_28 : decode cX7_way 28 = .ok (.iload_n 2, 1) := by decide +kernel
theorem dX7_way_29 : decode cX7_way 29 = .ok (.goto 34, 3) := by decide +kernel
theorem dX7_way_32 : decode cX7_way 32 = .ok (.iload_n 1, 1) := by decide +kernel
theorem dX7_way_33 : decode cX7_way 33 = .ok (.iconst (-1), 1) := by decide +kernel
theorem dX7_way_34 : decode cX7_way 34 = .ok (.if_icmp .ne 10, 3) := by decide +kernel
theorem dX7_way_37 : decode cX7_way 37 = .ok (.aload_n 0, 1) := by decide +kernel
theorem dX7_way_38 : decode cX7_way 38 = .ok (.getfield 208, 3) := by decide +kernel
theorem dX7_way_41 : decode cX7_way 41 = .ok (.goto 22, 3) := by decide +kernel
theorem dX7_way_44 : decode cX7_way 44 = .ok (.iload_n 1, 1) := by decide +kernel
theorem dX7_way_45 : decode cX7_way 45 = .ok (.bipush (-2), 2) := by decide +kernel
theorem dX7_way_47 : decode cX7_way 47 = .ok (.if_icmp .ne 10, 3) := by decide +kernel
theorem dX7_way_50 : decode cX7_way 50 = .ok (.aload_n 0, 1) := by decide +kernel
theorem dX7_way_51 : decode cX7_way 51 = .ok (.getfield 211, 3) := by decide +kernel
theorem dX7_way_54 : decode cX7_way 54 = .ok (.goto 9, 3) := by decide +kernel
theorem dX7_way_57 : decode cX7_way 57 = .ok (.aload_n 0, 1) := by decide +kernel
theorem dX7_way_58 : decode cX7_way 58 = .ok (.getfield 30, 3) := by decide +kernel
theorem dX7_way_61 : decode cX7_way 61 = .ok (.iload_n 1, 1) := by decide +kernel
theorem dX7_way_62 : decode cX7_way 62 = .ok (.iaload, 1) := by decide +kernel
theorem dX7_way_63 : decode cX7_way 63 = .ok (.ireturn, 1) := by decide +kernel
theorem dX7_counts_0 : decode cX7_counts 0 = .ok (.aload_n 0, 1) := by decide +kernel
theorem dX7_counts_1 : decode cX7_counts 1 = .ok (.invokevirtual 225, 3) := by decide +kernel
theorem dX7_counts_4 : decode cX7_counts 4 = .ok (.istore_n 1, 1) := by decide +kernel
theorem dX7_counts_5 : decode cX7_counts 5 = .ok (.iload_n 1, 1) := by decide +kernel
theorem dX7_counts_6 : decode cX7_counts 6 = .ok (.ifCond .ge 7, 3) := by decide +kernel
theorem dX7_counts_9 : decode cX7_counts 9 = .ok (.iload_n 1, 1) := by decide +kernel
theorem dX7_counts_10 : decode cX7_counts 10 = .ok (.goto 21, 3) := by decide +kernel
theorem dX7_counts_13 : decode cX7_counts 13 = .ok (.aload_n 0, 1) := by decide +kernel
theorem dX7_counts_14 : decode cX7_counts 14 = .ok (.getfield 208, 3) := by decide +kernel
theorem dX7_counts_17 : decode cX7_counts 17 = .ok (.aload_n 0, 1) := by decide +kernel
theorem dX7_counts_18 : decode cX7_counts 18 = .ok (.iconst 2, 1) := by decide +kernel
theorem dX7_counts_19 : decode cX7_counts 19 = .ok (.invokevirtual 205, 3) := by decide +kernel
theorem dX7_counts_22 : decode cX7_counts 22 = .ok (.iadd, 1) := by decide +kernel
theorem dX7_counts_23 : decode cX7_counts 23 = .ok (.iconst 1, 1) := by decide +kernel
theorem dX7_counts_24 : decode cX7_counts 24 = .ok (.isub, 1) := by decide +kernel
theorem dX7_counts_25 : decode cX7_counts 25 = .ok (.aload_n 0, 1) := by decide +kernel
theorem dX7_counts_26 : decode cX7_counts 26 = .ok (.iconst 2, 1) := by decide +kernel
theorem dX7_counts_27 : decode cX7_counts 27 = .ok (.invokevirtual 205, 3) := by decide +kernel
theorem dX7_counts_30 : decode cX7_counts 30 = .ok (.idiv, 1) := by decide +kernel
theorem dX7_counts_31 : decode cX7_counts 31 = .ok (.ireturn, 1) := by decide +kernel
theorem dX7_meet_0 : decode cX7_meet 0 = .ok (.aload_n 0, 1) := by decide +kernel
theorem dX7_meet_1 : decode cX7_meet 1 = .ok (.invokevirtual 221, 3) := by decide +kernel
theorem dX7_meet_4 : decode cX7_meet 4 = .ok (.ifCond .eq 6, 3) := by decide +kernel
theorem dX7_meet_7 : decode cX7_meet 7 = .ok (.bipush (-5), 2) := by decide +kernel
theorem dX7_meet_9 : decode cX7_meet 9 = .ok (.ireturn, 1) := by decide +kernel
theorem dX7_meet_10 : decode cX7_meet 10 = .ok (.iconst 0, 1) := by decide +kernel
theorem dX7_meet_11 : decode cX7_meet 11 = .ok (.istore_n 1, 1) := by decide +kernel
theorem dX7_meet_12 : decode cX7_meet 12 = .ok (.iconst 0, 1) := by decide +kernel
theorem dX7_meet_13 : decode cX7_meet 13 = .ok (.istore_n 2, 1) := by decide +kernel
theorem dX7_meet_14 : decode cX7_meet 14 = .ok (.iload_n 2, 1) := by decide +kernel
theorem dX7_meet_15 : decode cX7_meet 15 = .ok (.aload_n 0, 1) := by decide +kernel
theorem dX7_meet_16 : decode cX7_meet 16 = .ok (.getfield 7, 3) := by decide +kernel
theorem dX7_meet_19 : decode cX7_meet 19 = .ok (.iconst 0, 1) := by decide +kernel
theorem dX7_meet_20 : decode cX7_meet 20 = .ok (.iaload, 1) := by decide +kernel
theorem dX7_meet_21 : decode cX7_meet 21 = .ok (.if_icmp .ge 168, 3) := by decide +kernel
theorem dX7_meet_24 : decode cX7_meet 24 = .ok (.iconst 0, 1) := by decide +kernel
theorem dX7_meet_25 : decode cX7_meet 25 = .ok (.istore_n 3, 1) := by decide +kernel
theorem dX7_meet_26 : decode cX7_meet 26 = .ok (.iload_n 3, 1) := by decide +kernel
theorem dX7_meet_27 : decode cX7_meet 27 = .ok (.iload_n 2, 1) := by decide +kernel
theorem dX7_meet_28 : decode cX7_meet 28 = .ok (.if_icmp .ge 155, 3) := by decide +kernel
theorem dX7_meet_31 : decode cX7_meet 31 = .ok (.aload_n 0, 1) := by decide +kernel
theorem dX7_meet_32 : decode cX7_meet 32 = .ok (.getfield 7, 3) := by decide +kernel
theorem dX7_meet_35 : decode cX7_meet 35 = .ok (.sipush 150, 3) := by decide +kernel
theorem dX7_meet_38 : decode cX7_meet 38 = .ok (.iload_n 2, 1) := by decide +kernel
theorem dX7_meet_39 : decode cX7_meet 39 = .ok (.iadd, 1) := by decide +kernel
theorem dX7_meet_40 : decode cX7_meet 40 = .ok (.iaload, 1) := by decide +kernel
theorem dX7_meet_41 : decode cX7_meet 41 = .ok (.bipush 8, 2) := by decide +kernel
theorem dX7_meet_43 : decode cX7_meet 43 = .ok (.idiv, 1) := by decide +kernel
theorem dX7_meet_44 : decode cX7_meet 44 = .ok (.aload_n 0, 1) := by decide +kernel
theorem dX7_meet_45 : decode cX7_meet 45 = .ok (.getfield 7, 3) := by decide +kernel
theorem dX7_meet_48 : decode cX7_meet 48 = .ok (.sipush 160, 3) := by decide +kernel
theorem dX7_meet_51 : decode cX7_meet 51 = .ok (.iload_n 2, 1) := by decide +kernel
theorem dX7_meet_52 : decode cX7_meet 52 = .ok (.iadd, 1) := by decide +kernel
theorem dX7_meet_53 : decode cX7_meet 53 = .ok (.iaload, 1) := by decide +kernel
theorem dX7_meet_54 : decode cX7_meet 54 = .ok (.bipush 8, 2) := by decide +kernel
theorem dX7_meet_56 : decode cX7_meet 56 = .ok (.idiv, 1) := by decide +kernel
theorem dX7_meet_57 : decode cX7_meet 57 = .ok (.iadd, 1) := by decide +kernel
theorem dX7_meet_58 : decode cX7_meet 58 = .ok (.aload_n 0, 1) := by decide +kernel
theorem dX7_meet_59 : decode cX7_meet 59 = .ok (.getfield 7, 3) := by decide +kernel
theorem dX7_meet_62 : decode cX7_meet 62 = .ok (.sipush 150, 3) := by decide +kernel
theorem dX7_meet_65 : decode cX7_meet 65 = .ok (.iload_n 3, 1) := by decide +kernel
theorem dX7_meet_66 : decode cX7_meet 66 = .ok (.iadd, 1) := by decide +kernel
theorem dX7_meet_67 : decode cX7_meet 67 = .ok (.iaload, 1) := by decide +kernel
theorem dX7_meet_68 : decode cX7_meet 68 = .ok (.bipush 8, 2) := by decide +kernel
theorem dX7_meet_70 : decode cX7_meet 70 = .ok (.idiv, 1) := by decide +kernel
theorem dX7_meet_71 : decode cX7_meet 71 = .ok (.aload_n 0, 1) := by decide +kernel
theorem dX7_meet_72 : decode cX7_meet 72 = .ok (.getfield 7, 3) := by decide +kernel
theorem dX7_meet_75 : decode cX7_meet 75 = .ok (.sipush 160, 3) := by decide +kernel
theorem dX7_meet_78 : decode cX7_meet 78 = .ok (.iload_n 3, 1) := by decide +kernel
theorem dX7_meet_79 : decode cX7_meet 79 = .ok (.iadd, 1) := by decide +kernel
theorem dX7_meet_80 : decode cX7_meet 80 = .ok (.iaload, 1) := by decide +kernel
theorem dX7_meet_81 : decode cX7_meet 81 = .ok (.bipush 8, 2) := by decide +kernel
theorem dX7_meet_83 : decode cX7_meet 83 = .ok (.idiv, 1) := by decide +kernel
theorem dX7_meet_84 : decode cX7_meet 84 = .ok (.iadd, 1) := by decide +kernel
theorem dX7_meet_85 : decode cX7_meet 85 = .ok (.if_icmp .ne 7, 3) := by decide +kernel
theorem dX7_meet_88 : decode cX7_meet 88 = .ok (.iconst 1, 1) := by decide +kernel
theorem dX7_meet_89 : decode cX7_meet 89 = .ok (.goto 4, 3) := by decide +kernel
theorem dX7_meet_92 : decode cX7_meet 92 = .ok (.iconst 0, 1) := by decide +kernel
theorem dX7_meet_93 : decode cX7_meet 93 = .ok (.istore 4, 2) := by decide +kernel
theorem dX7_meet_95 : decode cX7_meet 95 = .ok (.aload_n 0, 1) := by decide +kernel
theorem dX7_meet_96 : decode cX7_meet 96 = .ok (.getfield 7, 3) := by decide +kernel
theorem dX7_meet_99 : decode cX7_meet 99 = .ok (.sipush 150, 3) := by decide +kernel
theorem dX7_meet_102 : decode cX7_meet 102 = .ok (.iload_n 2, 1) := by decide +kernel
theorem dX7_meet_103 : decode cX7_meet 103 = .ok (.iadd, 1) := by decide +kernel
theorem dX7_meet_104 : decode cX7_meet 104 = .ok (.iaload, 1) := by decide +kernel
theorem dX7_meet_105 : decode cX7_meet 105 = .ok (.bipush 8, 2) := by decide +kernel
theorem dX7_meet_107 : decode cX7_meet 107 = .ok (.irem, 1) := by decide +kernel
theorem dX7_meet_108 : decode cX7_meet 108 = .ok (.aload_n 0, 1) := by decide +kernel
theorem dX7_meet_109 : decode cX7_meet 109 = .ok (.getfield 7, 3) := by decide +kernel
theorem dX7_meet_112 : decode cX7_meet 112 = .ok (.sipush 160, 3) := by decide +kernel
theorem dX7_meet_115 : decode cX7_meet 115 = .ok (.iload_n 2, 1) := by decide +kernel
theorem dX7_meet_116 : decode cX7_meet 116 = .ok (.iadd, 1) := by decide +kernel
theorem dX7_meet_117 : decode cX7_meet 117 = .ok (.iaload, 1) := by decide +kernel
theorem dX7_meet_118 : decode cX7_meet 118 = .ok (.bipush 8, 2) := by decide +kernel
theorem dX7_meet_120 : decode cX7_meet 120 = .ok (.irem, 1) := by decide +kernel
theorem dX7_meet_121 : decode cX7_meet 121 = .ok (.iadd, 1) := by decide +kernel
theorem dX7_meet_122 : decode cX7_meet 122 = .ok (.aload_n 0, 1) := by decide +kernel
theorem dX7_meet_123 : decode cX7_meet 123 = .ok (.getfield 7, 3) := by decide +kernel
theorem dX7_meet_126 : decode cX7_meet 126 = .ok (.sipush 150, 3) := by decide +kernel
theorem dX7_meet_129 : decode cX7_meet 129 = .ok (.iload_n 3, 1) := by decide +kernel
theorem dX7_meet_130 : decode cX7_meet 130 = .ok (.iadd, 1) := by decide +kernel
theorem dX7_meet_131 : decode cX7_meet 131 = .ok (.iaload, 1) := by decide +kernel
theorem dX7_meet_132 : decode cX7_meet 132 = .ok (.bipush 8, 2) := by decide +kernel
theorem dX7_meet_134 : decode cX7_meet 134 = .ok (.irem, 1) := by decide +kernel
theorem dX7_meet_135 : decode cX7_meet 135 = .ok (.aload_n 0, 1) := by decide +kernel
theorem dX7_meet_136 : decode cX7_meet 136 = .ok (.getfield 7, 3) := by decide +kernel
theorem dX7_meet_139 : decode cX7_meet 139 = .ok (.sipush 160, 3) := by decide +kernel
theorem dX7_meet_142 : decode cX7_meet 142 = .ok (.iload_n 3, 1) := by decide +kernel
theorem dX7_meet_143 : decode cX7_meet 143 = .ok (.iadd, 1) := by decide +kernel
theorem dX7_meet_144 : decode cX7_meet 144 = .ok (.iaload, 1) := by decide +kernel
theorem dX7_meet_145 : decode cX7_meet 145 = .ok (.bipush 8, 2) := by decide +kernel
theorem dX7_meet_147 : decode cX7_meet 147 = .ok (.irem, 1) := by decide +kernel
theorem dX7_meet_148 : decode cX7_meet 148 = .ok (.iadd, 1) := by decide +kernel
theorem dX7_meet_149 : decode cX7_meet 149 = .ok (.if_icmp .ne 7, 3) := by decide +kernel
theorem dX7_meet_152 : decode cX7_meet 152 = .ok (.iconst 1, 1) := by decide +kernel
theorem dX7_meet_153 : decode cX7_meet 153 = .ok (.goto 4, 3) := by decide +kernel
theorem dX7_meet_156 : decode cX7_meet 156 = .ok (.iconst 0, 1) := by decide +kernel
theorem dX7_meet_157 : decode cX7_meet 157 = .ok (.istore 5, 2) := by decide +kernel
theorem dX7_meet_159 : decode cX7_meet 159 = .ok (.iload_n 1, 1) := by decide +kernel
theorem dX7_meet_160 : decode cX7_meet 160 = .ok (.iload 4, 2) := by decide +kernel
theorem dX7_meet_162 : decode cX7_meet 162 = .ok (.ifCond .eq 12, 3) := by decide +kernel
theorem dX7_meet_165 : decode cX7_meet 165 = .ok (.iload 5, 2) := by decide +kernel
theorem dX7_meet_167 : decode cX7_meet 167 = .ok (.ifCond .eq 7, 3) := by decide +kernel
theorem dX7_meet_170 : decode cX7_meet 170 = .ok (.iconst 1, 1) := by decide +kernel
theorem dX7_meet_171 : decode cX7_meet 171 = .ok (.goto 4, 3) := by decide +kernel
theorem dX7_meet_174 : decode cX7_meet 174 = .ok (.iconst 0, 1) := by decide +kernel
theorem dX7_meet_175 : decode cX7_meet 175 = .ok (.iadd, 1) := by decide +kernel
theorem dX7_meet_176 : decode cX7_meet 176 = .ok (.istore_n 1, 1) := by decide +kernel
theorem dX7_meet_177 : decode cX7_meet 177 = .ok (.iinc 3 1, 3) := by decide +kernel
theorem dX7_meet_180 : decode cX7_meet 180 = .ok (.goto (-154), 3) := by decide +kernel
theorem dX7_meet_183 : decode cX7_meet 183 = .ok (.iinc 2 1, 3) := by decide +kernel
theorem dX7_meet_186 : decode cX7_meet 186 = .ok (.goto (-172), 3) := by decide +kernel
theorem dX7_meet_189 : decode cX7_meet 189 = .ok (.iload_n 1, 1) := by decide +kernel
theorem dX7_meet_190 : decode cX7_meet 190 = .ok (.ireturn, 1) := by decide +kernel
theorem dX7_hard_0 : decode cX7_hard 0 = .ok (.iload_n 1, 1) := by decide +kernel
theorem dX7_hard_1 : decode cX7_hard 1 = .ok (.iconst 0, 1) := by decide +kernel
theorem dX7_hard_2 : decode cX7_hard 2 = .ok (.iconst 1, 1) := by decide +kernel
theorem dX7_hard_3 : decode cX7_hard 3 = .ok (.invokestatic 39, 3) := by decide +kernel
theorem dX7_hard_6 : decode cX7_hard 6 = .ok (.ifCond .ne 5, 3) := by decide +kernel
theorem dX7_hard_9 : decode cX7_hard 9 = .ok (.iconst (-1), 1) := by decide +kernel
theorem dX7_hard_10 : decode cX7_hard 10 = .ok (.ireturn, 1) := by decide +kernel
theorem dX7_hard_11 : decode cX7_hard 11 = .ok (.aload_n 0, 1) := by decide +kernel
theorem dX7_hard_12 : decode cX7_hard 12 = .ok (.invokevirtual 221, 3) := by decide +kernel
theorem dX7_hard_15 : decode cX7_hard 15 = .ok (.ifCond .eq 6, 3) := by decide +kernel
theorem dX7_hard_18 : decode cX7_hard 18 = .ok (.bipush (-5), 2) := by decide +kernel
theorem dX7_hard_20 : decode cX7_hard 20 = .ok (.ireturn, 1) := by decide +kernel
theorem dX7_hard_21 : decode cX7_hard 21 = .ok (.iconst 0, 1) := by decide +kernel
theorem dX7_hard_22 : decode cX7_hard 22 = .ok (.istore_n 2, 1) := by decide +kernel
theorem dX7_hard_23 : decode cX7_hard 23 = .ok (.iconst 0, 1) := by decide +kernel
theorem dX7_hard_24 : decode cX7_hard 24 = .ok (.istore_n 3, 1) := by decide +kernel
theorem dX7_hard_25 : decode cX7_hard 25 = .ok (.iload_n 3, 1) := by decide +kernel
theorem dX7_hard_26 : decode cX7_hard 26 = .ok (.aload_n 0, 1) := by decide +kernel
theorem dX7_hard_27 : decode cX7_hard 27 = .ok (.getfield 7, 3) := by decide +kernel
theorem dX7_hard_30 : decode cX7_hard 30 = .ok (.iconst 0, 1) := by decide +kernel
theorem dX7_hard_31 : decode cX7_hard 31 = .ok (.iaload, 1) := by decide +kernel
theorem dX7_hard_32 : decode cX7_hard 32 = .ok (.if_icmp .ge 30, 3) := by decide +kernel
theorem dX7_hard_35 : decode cX7_hard 35 = .ok (.aload_n 0, 1) := by decide +kernel
theorem dX7_hard_36 : decode cX7_hard 36 = .ok (.iload_n 3, 1) := by decide +kernel
theorem dX7_hard_37 : decode cX7_hard 37 = .ok (.iload_n 3, 1) := by decide +kernel
theorem dX7_hard_38 : decode cX7_hard 38 = .ok (.invokevirtual 214, 3) := by decide +kernel
theorem dX7_hard_41 : decode cX7_hard 41 = .ok (.iload_n 2, 1) := by decide +kernel
theorem dX7_hard_42 : decode cX7_hard 42 = .ok (.if_icmp .le 12, 3) := by decide +kernel
theorem dX7_hard_45 : decode cX7_hard 45 = .ok (.aload_n 0, 1) := by decide +kernel
theorem dX7_hard_46 : decode cX7_hard 46 = .ok (.iload_n 3, 1) := by decide +kernel
theorem dX7_hard_47 : decode cX7_hard 47 = .ok (.iload_n 3, 1) := by decide +kernel
theorem dX7_hard_48 : decode cX7_hard 48 = .ok (.invokevirtual 214, 3) := by decide +kernel
theorem dX7_hard_51 : decode cX7_hard 51 = .ok (.goto 4, 3) := by decide +kernel
theorem dX7_hard_54 : decode cX7_hard 54 = .ok (.iload_n 2, 1) := by decide +kernel
theorem dX7_hard_55 : decode cX7_hard 55 = .ok (.istore_n 2, 1) := by decide +kernel
theorem dX7_hard_56 : decode cX7_hard 56 = .ok (.iinc 3 1, 3) := by decide +kernel
theorem dX7_hard_59 : decode cX7_hard 59 = .ok (.goto (-34), 3) := by decide +kernel
theorem dX7_hard_62 : decode cX7_hard 62 = .ok (.iconst 0, 1) := by decide +kernel
theorem dX7_hard_63 : decode cX7_hard 63 = .ok (.istore_n 3, 1) := by decide +kernel
theorem dX7_hard_64 : decode cX7_hard 64 = .ok (.iconst 0, 1) := by decide +kernel
theorem dX7_hard_65 : decode cX7_hard 65 = .ok (.istore 4, 2) := by decide +kernel
theorem dX7_hard_67 : decode cX7_hard 67 = .ok (.iload 4, 2) := by decide +kernel
theorem dX7_hard_69 : decode cX7_hard 69 = .ok (.aload_n 0, 1) := by decide +kernel
theorem dX7_hard_70 : decode cX7_hard 70 = .ok (.getfield 7, 3) := by decide +kernel
theorem dX7_hard_73 : decode cX7_hard 73 = .ok (.iconst 0, 1) := by decide +kernel
theorem dX7_hard_74 : decode cX7_hard 74 = .ok (.iaload, 1) := by decide +kernel
theorem dX7_hard_75 : decode cX7_hard 75 = .ok (.if_icmp .ge 32, 3) := by decide +kernel
theorem dX7_hard_78 : decode cX7_hard 78 = .ok (.iload_n 3, 1) := by decide +kernel
theorem dX7_hard_79 : decode cX7_hard 79 = .ok (.aload_n 0, 1) := by decide +kernel
theorem dX7_hard_80 : decode cX7_hard 80 = .ok (.iload 4, 2) := by decide +kernel
theorem dX7_hard_82 : decode cX7_hard 82 = .ok (.iload 4, 2) := by decide +kernel
theorem dX7_hard_84 : decode cX7_hard 84 = .ok (.invokevirtual 214, 3) := by decide +kernel
theorem dX7_hard_87 : decode cX7_hard 87 = .ok (.iload_n 2, 1) := by decide +kernel
theorem dX7_hard_88 : decode cX7_hard 88 = .ok (.if_icmp .ne 10, 3) := by decide +kernel
theorem dX7_hard_91 : decode cX7_hard 91 = .ok (.iconst 1, 1) := by decide +kernel
theorem dX7_hard_92 : decode cX7_hard 92 = .ok (.iload 4, 2) := by decide +kernel
theorem dX7_hard_94 : decode cX7_hard 94 = .ok (.ishl, 1) := by decide +kernel
theorem dX7_hard_95 : decode cX7_hard 95 = .ok (.goto 4, 3) := by decide +kernel
theorem dX7_hard_98 : decode cX7_hard 98 = .ok (.iconst 0, 1) := by decide +kernel
theorem dX7_hard_99 : decode cX7_hard 99 = .ok (.ior, 1) := by decide +kernel
theorem dX7_hard_100 : decode cX7_hard 100 = .ok (.istore_n 3, 1) := by decide +kernel
theorem dX7_hard_101 : decode cX7_hard 101 = .ok (.iinc 4 1, 3) := by decide +kernel
theorem dX7_hard_104 : decode cX7_hard 104 = .ok (.goto (-37), 3) := by decide +kernel
theorem dX7_hard_107 : decode cX7_hard 107 = .ok (.iload_n 1, 1) := by decide +kernel
theorem dX7_hard_108 : decode cX7_hard 108 = .ok (.ifCond .ne 7, 3) := by decide +kernel
theorem dX7_hard_111 : decode cX7_hard 111 = .ok (.iload_n 3, 1) := by decide +kernel
theorem dX7_hard_112 : decode cX7_hard 112 = .ok (.goto 4, 3) := by decide +kernel
theorem dX7_hard_115 : decode cX7_hard 115 = .ok (.iload_n 2, 1) := by decide +kernel
theorem dX7_hard_116 : decode cX7_hard 116 = .ok (.ireturn, 1) := by decide +kernel
theorem dX7_march_0 : decode cX7_march 0 = .ok (.aload_n 0, 1) := by decide +kernel
theorem dX7_march_1 : decode cX7_march 1 = .ok (.invokevirtual 221, 3) := by decide +kernel
theorem dX7_march_4 : decode cX7_march 4 = .ok (.ifCond .eq 6, 3) := by decide +kernel
theorem dX7_march_7 : decode cX7_march 7 = .ok (.bipush (-3), 2) := by decide +kernel
theorem dX7_march_9 : decode cX7_march 9 = .ok (.ireturn, 1) := by decide +kernel
theorem dX7_march_10 : decode cX7_march 10 = .ok (.iconst 0, 1) := by decide +kernel
theorem dX7_march_11 : decode cX7_march 11 = .ok (.istore_n 1, 1) := by decide +kernel
theorem dX7_march_12 : decode cX7_march 12 = .ok (.iconst 0, 1) := by decide +kernel
theorem dX7_march_13 : decode cX7_march 13 = .ok (.istore_n 2, 1) := by decide +kernel
theorem dX7_march_14 : decode cX7_march 14 = .ok (.iload_n 2, 1) := by decide +kernel
theorem dX7_march_15 : decode cX7_march 15 = .ok (.aload_n 0, 1) := by decide +kernel
theorem dX7_march_16 : decode cX7_march 16 = .ok (.getfield 7, 3) := by decide +kernel
theorem dX7_march_19 : decode cX7_march 19 = .ok (.iconst 0, 1) := by decide +kernel
theorem dX7_march_20 : decode cX7_march 20 = .ok (.iaload, 1) := by decide +kernel
theorem dX7_march_21 : decode cX7_march 21 = .ok (.if_icmp .ge 60, 3) := by decide +kernel
theorem dX7_march_24 : decode cX7_march 24 = .ok (.iload_n 1, 1) := by decide +kernel
theorem dX7_march_25 : decode cX7_march 25 = .ok (.aload_n 0, 1) := by decide +kernel
theorem dX7_march_26 : decode cX7_march 26 = .ok (.getfield 7, 3) := by decide +kernel
theorem dX7_march_29 : decode cX7_march 29 = .ok (.sipush 150, 3) := by decide +kernel
theorem dX7_march_32 : decode cX7_march 32 = .ok (.iload_n 2, 1) := by decide +kernel
theorem dX7_march_33 : decode cX7_march 33 = .ok (.iadd, 1) := by decide +kernel
theorem dX7_march_34 : decode cX7_march 34 = .ok (.iaload, 1) := by decide +kernel
theorem dX7_march_35 : decode cX7_march 35 = .ok (.aload_n 0, 1) := by decide +kernel
theorem dX7_march_36 : decode cX7_march 36 = .ok (.getfield 7, 3) := by decide +kernel
theorem dX7_march_39 : decode cX7_march 39 = .ok (.sipush 160, 3) := by decide +kernel
theorem dX7_march_42 : decode cX7_march 42 = .ok (.iload_n 2, 1) := by decide +kernel
theorem dX7_march_43 : decode cX7_march 43 = .ok (.iadd, 1) := by decide +kernel
theorem dX7_march_44 : decode cX7_march 44 = .ok (.iaload, 1) := by decide +kernel
theorem dX7_march_45 : decode cX7_march 45 = .ok (.if_icmp .ne 7, 3) := by decide +kernel
theorem dX7_march_48 : decode cX7_march 48 = .ok (.iconst 0, 1) := by decide +kernel
theorem dX7_march_49 : decode cX7_march 49 = .ok (.goto 4, 3) := by decide +kernel
theorem dX7_march_52 : decode cX7_march 52 = .ok (.iconst 1, 1) := by decide +kernel
theorem dX7_march_53 : decode cX7_march 53 = .ok (.iadd, 1) := by decide +kernel
theorem dX7_march_54 : decode cX7_march 54 = .ok (.istore_n 1, 1) := by decide +kernel
theorem dX7_march_55 : decode cX7_march 55 = .ok (.aload_n 0, 1) := by decide +kernel
theorem dX7_march_56 : decode cX7_march 56 = .ok (.getfield 7, 3) := by decide +kernel
theorem dX7_march_59 : decode cX7_march 59 = .ok (.sipush 150, 3) := by decide +kernel
theorem dX7_march_62 : decode cX7_march 62 = .ok (.iload_n 2, 1) := by decide +kernel
theorem dX7_march_63 : decode cX7_march 63 = .ok (.iadd, 1) := by decide +kernel
theorem dX7_march_64 : decode cX7_march 64 = .ok (.aload_n 0, 1) := by decide +kernel
theorem dX7_march_65 : decode cX7_march 65 = .ok (.getfield 7, 3) := by decide +kernel
theorem dX7_march_68 : decode cX7_march 68 = .ok (.sipush 160, 3) := by decide +kernel
theorem dX7_march_71 : decode cX7_march 71 = .ok (.iload_n 2, 1) := by decide +kernel
theorem dX7_march_72 : decode cX7_march 72 = .ok (.iadd, 1) := by decide +kernel
theorem dX7_march_73 : decode cX7_march 73 = .ok (.iaload, 1) := by decide +kernel
theorem dX7_march_74 : decode cX7_march 74 = .ok (.iastore, 1) := by decide +kernel
theorem dX7_march_75 : decode cX7_march 75 = .ok (.iinc 2 1, 3) := by decide +kernel
theorem dX7_march_78 : decode cX7_march 78 = .ok (.goto (-64), 3) := by decide +kernel
theorem dX7_march_81 : decode cX7_march 81 = .ok (.iload_n 1, 1) := by decide +kernel
theorem dX7_march_82 : decode cX7_march 82 = .ok (.ireturn, 1) := by decide +kernel
theorem dX7_seen_0 : decode cX7_seen 0 = .ok (.iload_n 1, 1) := by decide +kernel
theorem dX7_seen_1 : decode cX7_seen 1 = .ok (.iconst (-1), 1) := by decide +kernel
theorem dX7_seen_2 : decode cX7_seen 2 = .ok (.if_icmp .ne 12, 3) := by decide +kernel
theorem dX7_seen_5 : decode cX7_seen 5 = .ok (.aload_n 0, 1) := by decide +kernel
theorem dX7_seen_6 : decode cX7_seen 6 = .ok (.getfield 7, 3) := by decide +kernel
theorem dX7_seen_9 : decode cX7_seen 9 = .ok (.iconst 3, 1) := by decide +kernel
theorem dX7_seen_10 : decode cX7_seen 10 = .ok (.iconst 0, 1) := by decide +kernel
theorem dX7_seen_11 : decode cX7_seen 11 = .ok (.iastore, 1) := by decide +kernel
theorem dX7_seen_12 : decode cX7_seen 12 = .ok (.iconst 0, 1) := by decide +kernel
theorem dX7_seen_13 : decode cX7_seen 13 = .ok (.ireturn, 1) := by decide +kernel
theorem dX7_seen_14 : decode cX7_seen 14 = .ok (.iload_n 1, 1) := by decide +kernel
theorem dX7_seen_15 : decode cX7_seen 15 = .ok (.invokestatic 145, 3) := by decide +kernel
theorem dX7_seen_18 : decode cX7_seen 18 = .ok (.ifCond .ne 5, 3) := by decide +kernel
theorem dX7_seen_21 : decode cX7_seen 21 = .ok (.iconst (-1), 1) := by decide +kernel
theorem dX7_seen_22 : decode cX7_seen 22 = .ok (.ireturn, 1) := by decide +kernel
theorem dX7_seen_23 : decode cX7_seen 23 = .ok (.aload_n 0, 1) := by decide +kernel
theorem dX7_seen_24 : decode cX7_seen 24 = .ok (.getfield 7, 3) := by decide +kernel
theorem dX7_seen_27 : decode cX7_seen 27 = .ok (.iconst 3, 1) := by decide +kernel
theorem dX7_seen_28 : decode cX7_seen 28 = .ok (.iaload, 1) := by decide +kernel
theorem dX7_seen_29 : decode cX7_seen 29 = .ok (.bipush 10, 2) := by decide +kernel
theorem dX7_seen_31 : decode cX7_seen 31 = .ok (.if_icmp .ne 6, 3) := by decide +kernel
theorem dX7_seen_34 : decode cX7_seen 34 = .ok (.bipush (-4), 2) := by decide +kernel
theorem dX7_seen_36 : decode cX7_seen 36 = .ok (.ireturn, 1) := by decide +kernel
theorem dX7_seen_37 : decode cX7_seen 37 = .ok (.aload_n 0, 1) := by decide +kernel
theorem dX7_seen_38 : decode cX7_seen 38 = .ok (.getfield 7, 3) := by decide +kernel
theorem dX7_seen_41 : decode cX7_seen 41 = .ok (.sipush 170, 3) := by decide +kernel
theorem dX7_seen_44 : decode cX7_seen 44 = .ok (.aload_n 0, 1) := by decide +kernel
theorem dX7_seen_45 : decode cX7_seen 45 = .ok (.getfield 7, 3) := by decide +kernel
theorem dX7_seen_48 : decode cX7_seen 48 = .ok (.iconst 3, 1) := by decide +kernel
theorem dX7_seen_49 : decode cX7_seen 49 = .ok (.iaload, 1) := by decide +kernel
theorem dX7_seen_50 : decode cX7_seen 50 = .ok (.iadd, 1) := by decide +kernel
theorem dX7_seen_51 : decode cX7_seen 51 = .ok (.iload_n 1, 1) := by decide +kernel
theorem dX7_seen_52 : decode cX7_seen 52 = .ok (.iastore, 1) := by decide +kernel
theorem dX7_seen_53 : decode cX7_seen 53 = .ok (.aload_n 0, 1) := by decide +kernel
theorem dX7_seen_54 : decode cX7_seen 54 = .ok (.getfield 7, 3) := by decide +kernel
theorem dX7_seen_57 : decode cX7_seen 57 = .ok (.iconst 3, 1) := by decide +kernel
theorem dX7_seen_58 : decode cX7_seen 58 = .ok (.dup2, 1) := by decide +kernel
theorem dX7_seen_59 : decode cX7_seen 59 = .ok (.iaload, 1) := by decide +kernel
theorem dX7_seen_60 : decode cX7_seen 60 = .ok (.iconst 1, 1) := by decide +kernel
theorem dX7_seen_61 : decode cX7_seen 61 = .ok (.iadd, 1) := by decide +kernel
theorem dX7_seen_62 : decode cX7_seen 62 = .ok (.iastore, 1) := by decide +kernel
theorem dX7_seen_63 : decode cX7_seen 63 = .ok (.aload_n 0, 1) := by decide +kernel
theorem dX7_seen_64 : decode cX7_seen 64 = .ok (.getfield 7, 3) := by decide +kernel
theorem dX7_seen_67 : decode cX7_seen 67 = .ok (.iconst 3, 1) := by decide +kernel
theorem dX7_seen_68 : decode cX7_seen 68 = .ok (.iaload, 1) := by decide +kernel
theorem dX7_seen_69 : decode cX7_seen 69 = .ok (.ireturn, 1) := by decide +kernel
theorem dX7_off_0 : decode cX7_off 0 = .ok (.iload_n 1, 1) := by decide +kernel
theorem dX7_off_1 : decode cX7_off 1 = .ok (.iconst 0, 1) := by decide +kernel
theorem dX7_off_2 : decode cX7_off 2 = .ok (.iconst 1, 1) := by decide +kernel
theorem dX7_off_3 : decode cX7_off 3 = .ok (.invokestatic 39, 3) := by decide +kernel
theorem dX7_off_6 : decode cX7_off 6 = .ok (.ifCond .ne 5, 3) := by decide +kernel
theorem dX7_off_9 : decode cX7_off 9 = .ok (.iconst (-1), 1) := by decide +kernel
theorem dX7_off_10 : decode cX7_off 10 = .ok (.ireturn, 1) := by decide +kernel
theorem dX7_off_11 : decode cX7_off 11 = .ok (.iconst 0, 1) := by decide +kernel
theorem dX7_off_12 : decode cX7_off 12 = .ok (.istore_n 2, 1) := by decide +kernel
theorem dX7_off_13 : decode cX7_off 13 = .ok (.bipush (-5), 2) := by decide +kernel
theorem dX7_off_15 : decode cX7_off 15 = .ok (.istore_n 3, 1) := by decide +kernel
theorem dX7_off_16 : decode cX7_off 16 = .ok (.iconst 0, 1) := by decide +kernel
theorem dX7_off_17 : decode cX7_off 17 = .ok (.istore 4, 2) := by decide +kernel
theorem dX7_off_19 : decode cX7_off 19 = .ok (.iconst 0, 1) := by decide +kernel
theorem dX7_off_20 : decode cX7_off 20 = .ok (.istore 5, 2) := by decide +kernel
theorem dX7_off_22 : decode cX7_off 22 = .ok (.iload 5, 2) := by decide +kernel
theorem dX7_off_24 : decode cX7_off 24 = .ok (.aload_n 0, 1) := by decide +kernel
theorem dX7_off_25 : decode cX7_off 25 = .ok (.getfield 7, 3) := by decide +kernel
theorem dX7_off_28 : decode cX7_off 28 = .ok (.iconst 0, 1) := by decide +kernel
theorem dX7_off_29 : decode cX7_off 29 = .ok (.iaload, 1) := by decide +kernel
theorem dX7_off_30 : decode cX7_off 30 = .ok (.if_icmp .ge 90, 3) := by decide +kernel
theorem dX7_off_33 : decode cX7_off 33 = .ok (.iload 5, 2) := by decide +kernel
theorem dX7_off_35 : decode cX7_off 35 = .ok (.aload_n 0, 1) := by decide +kernel
theorem dX7_off_36 : decode cX7_off 36 = .ok (.getfield 7, 3) := by decide +kernel
theorem dX7_off_39 : decode cX7_off 39 = .ok (.iconst 3, 1) := by decide +kernel
theorem dX7_off_40 : decode cX7_off 40 = .ok (.iaload, 1) := by decide +kernel
theorem dX7_off_41 : decode cX7_off 41 = .ok (.if_icmp .ge 79, 3) := by decide +kernel
theorem dX7_off_44 : decode cX7_off 44 = .ok (.aload_n 0, 1) := by decide +kernel
theorem dX7_off_45 : decode cX7_off 45 = .ok (.getfield 7, 3) := by decide +kernel
theorem dX7_off_48 : decode cX7_off 48 = .ok (.sipush 150, 3) := by decide +kernel
theorem dX7_off_51 : decode cX7_off 51 = .ok (.iload 5, 2) := by decide +kernel
theorem dX7_off_53 : decode cX7_off 53 = .ok (.iadd, 1) := by decide +kernel
theorem dX7_off_54 : decode cX7_off 54 = .ok (.iaload, 1) := by decide +kernel
theorem dX7_off_55 : decode cX7_off 55 = .ok (.aload_n 0, 1) := by decide +kernel
theorem dX7_off_56 : decode cX7_off 56 = .ok (.getfield 7, 3) := by decide +kernel
theorem dX7_off_59 : decode cX7_off 59 = .ok (.sipush 170, 3) := by decide +kernel
theorem dX7_off_62 : decode cX7_off 62 = .ok (.iload 5, 2) := by decide +kernel
theorem dX7_off_64 : decode cX7_off 64 = .ok (.iadd, 1) := by decide +kernel
theorem dX7_off_65 : decode cX7_off 65 = .ok (.iaload, 1) := by decide +kernel
theorem dX7_off_66 : decode cX7_off 66 = .ok (.invokestatic 155, 3) := by decide +kernel
theorem dX7_off_69 : decode cX7_off 69 = .ok (.istore 6, 2) := by decide +kernel
theorem dX7_off_71 : decode cX7_off 71 = .ok (.iload_n 2, 1) := by decide +kernel
theorem dX7_off_72 : decode cX7_off 72 = .ok (.iload 6, 2) := by decide +kernel
theorem dX7_off_74 : decode cX7_off 74 = .ok (.ifCond .le 7, 3) := by decide +kernel
theorem dX7_off_77 : decode cX7_off 77 = .ok (.iconst 1, 1) := by decide +kernel
theorem dX7_off_78 : decode cX7_off 78 = .ok (.goto 4, 3) := by decide +kernel
theorem dX7_off_81 : decode cX7_off 81 = .ok (.iconst 0, 1) := by decide +kernel
theorem dX7_off_82 : decode cX7_off 82 = .ok (.iadd, 1) := by decide +kernel
theorem dX7_off_83 : decode cX7_off 83 = .ok (.istore_n 2, 1) := by decide +kernel
theorem dX7_off_84 : decode cX7_off 84 = .ok (.iload 6, 2) := by decide +kernel
theorem dX7_off_86 : decode cX7_off 86 = .ok (.iload 4, 2) := by decide +kernel
theorem dX7_off_88 : decode cX7_off 88 = .ok (.if_icmp .le 8, 3) := by decide +kernel
theorem dX7_off_91 : decode cX7_off 91 = .ok (.iload 5, 2) := by decide +kernel
theorem dX7_off_93 : decode cX7_off 93 = .ok (.goto 4, 3) := by decide +kernel
theorem dX7_off_96 : decode cX7_off 96 = .ok (.iload_n 3, 1) := by decide +kernel
theorem dX7_off_97 : decode cX7_off 97 = .ok (.istore_n 3, 1) := by decide +kernel
theorem dX7_off_98 : decode cX7_off 98 = .ok (.iload 6, 2) := by decide +kernel
theorem dX7_off_100 : decode cX7_off 100 = .ok (.iload 4, 2) := by decide +kernel
theorem dX7_off_102 : decode cX7_off 102 = .ok (.if_icmp .le 8, 3) := by decide +kernel
theorem dX7_off_105 : decode cX7_off 105 = .ok (.iload 6, 2) := by decide +kernel
theorem dX7_off_107 : decode cX7_off 107 = .ok (.goto 5, 3) := by decide +kernel
theorem dX7_off_110 : decode cX7_off 110 = .ok (.iload 4, 2) := by decide +kernel
theorem dX7_off_112 : decode cX7_off 112 = .ok (.istore 4, 2) := by decide +kernel
theorem dX7_off_114 : decode cX7_off 114 = .ok (.iinc 5 1, 3) := by decide +kernel
theorem dX7_off_117 : decode cX7_off 117 = .ok (.goto (-95), 3) := by decide +kernel
theorem dX7_off_120 : decode cX7_off 120 = .ok (.iload_n 1, 1) := by decide +kernel
theorem dX7_off_121 : decode cX7_off 121 = .ok (.ifCond .ne 7, 3) := by decide +kernel
theorem dX7_off_124 : decode cX7_off 124 = .ok (.iload_n 2, 1) := by decide +kernel
theorem dX7_off_125 : decode cX7_off 125 = .ok (.goto 4, 3) := by decide +kernel
theorem dX7_off_128 : decode cX7_off 128 = .ok (.iload_n 3, 1) := by decide +kernel
theorem dX7_off_129 : decode cX7_off 129 = .ok (.ireturn, 1) := by decide +kernel
theorem dX7_whom_0 : decode cX7_whom 0 = .ok (.aload_n 0, 1) := by decide +kernel
theorem dX7_whom_1 : decode cX7_whom 1 = .ok (.iload_n 1, 1) := by decide +kernel
theorem dX7_whom_2 : decode cX7_whom 2 = .ok (.invokevirtual 152, 3) := by decide +kernel
theorem dX7_whom_5 : decode cX7_whom 5 = .ok (.ifCond .eq 10, 3) := by decide +kernel
theorem dX7_whom_8 : decode cX7_whom 8 = .ok (.iload_n 2, 1) := by decide +kernel
theorem dX7_whom_9 : decode cX7_whom 9 = .ok (.invokestatic 184, 3) := by decide +kernel
theorem dX7_whom_12 : decode cX7_whom 12 = .ok (.ifCond .ne 5, 3) := by decide +kernel
theorem dX7_whom_15 : decode cX7_whom 15 = .ok (.iconst (-1), 1) := by decide +kernel
theorem dX7_whom_16 : decode cX7_whom 16 = .ok (.ireturn, 1) := by decide +kernel
theorem dX7_whom_17 : decode cX7_whom 17 = .ok (.iload_n 3, 1) := by decide +kernel
theorem dX7_whom_18 : decode cX7_whom 18 = .ok (.iconst 0, 1) := by decide +kernel
theorem dX7_whom_19 : decode cX7_whom 19 = .ok (.sipush 999, 3) := by decide +kernel
theorem dX7_whom_22 : decode cX7_whom 22 = .ok (.invokestatic 39, 3) := by decide +kernel
theorem dX7_whom_25 : decode cX7_whom 25 = .ok (.ifCond .ne 6, 3) := by decide +kernel
theorem dX7_whom_28 : decode cX7_whom 28 = .ok (.bipush (-2), 2) := by decide +kernel
theorem dX7_whom_30 : decode cX7_whom 30 = .ok (.ireturn, 1) := by decide +kernel
theorem dX7_whom_31 : decode cX7_whom 31 = .ok (.aload_n 0, 1) := by decide +kernel
theorem dX7_whom_32 : decode cX7_whom 32 = .ok (.getfield 7, 3) := by decide +kernel
theorem dX7_whom_35 : decode cX7_whom 35 = .ok (.sipush 130, 3) := by decide +kernel
theorem dX7_whom_38 : decode cX7_whom 38 = .ok (.iload_n 1, 1) := by decide +kernel
theorem dX7_whom_39 : decode cX7_whom 39 = .ok (.iadd, 1) := by decide +kernel
theorem dX7_whom_40 : decode cX7_whom 40 = .ok (.iaload, 1) := by decide +kernel
theorem dX7_whom_41 : decode cX7_whom 41 = .ok (.istore 4, 2) := by decide +kernel
theorem dX7_whom_43 : decode cX7_whom 43 = .ok (.iconst 0, 1) := by decide +kernel
theorem dX7_whom_44 : decode cX7_whom 44 = .ok (.istore 5, 2) := by decide +kernel
theorem dX7_whom_46 : decode cX7_whom 46 = .ok (.iconst 0, 1) := by decide +kernel
theorem dX7_whom_47 : decode cX7_whom 47 = .ok (.istore 6, 2) := by decide +kernel
theorem dX7_whom_49 : decode cX7_whom 49 = .ok (.iload 6, 2) := by decide +kernel
theorem dX7_whom_51 : decode cX7_whom 51 = .ok (.bipush 7, 2) := by decide +kernel
theorem dX7_whom_53 : decode cX7_whom 53 = .ok (.if_icmp .ge 44, 3) := by decide +kernel
theorem dX7_whom_56 : decode cX7_whom 56 = .ok (.aload_n 0, 1) := by decide +kernel
theorem dX7_whom_57 : decode cX7_whom 57 = .ok (.getfield 7, 3) := by decide +kernel
theorem dX7_whom_60 : decode cX7_whom 60 = .ok (.sipush 130, 3) := by decide +kernel
theorem dX7_whom_63 : decode cX7_whom 63 = .ok (.iload_n 1, 1) := by decide +kernel
theorem dX7_whom_64 : decode cX7_whom 64 = .ok (.iadd, 1) := by decide +kernel
theorem dX7_whom_65 : decode cX7_whom 65 = .ok (.iload 6, 2) := by decide +kernel
theorem dX7_whom_67 : decode cX7_whom 67 = .ok (.iastore, 1) := by decide +kernel
theorem dX7_whom_68 : decode cX7_whom 68 = .ok (.iload 5, 2) := by decide +kernel
theorem dX7_whom_70 : decode cX7_whom 70 = .ok (.aload_n 0, 1) := by decide +kernel
theorem dX7_whom_71 : decode cX7_whom 71 = .ok (.iload_n 2, 1) := by decide +kernel
theorem dX7_whom_72 : decode cX7_whom 72 = .ok (.iload_n 1, 1) := by decide +kernel
theorem dX7_whom_73 : decode cX7_whom 73 = .ok (.invokevirtual 187, 3) := by decide +kernel
theorem dX7_whom_76 : decode cX7_whom 76 = .ok (.iload_n 3, 1) := by decide +kernel
theorem dX7_whom_77 : decode cX7_whom 77 = .ok (.if_icmp .ne 10, 3) := by decide +kernel
theorem dX7_whom_80 : decode cX7_whom 80 = .ok (.iconst 1, 1) := by decide +kernel
theorem dX7_whom_81 : decode cX7_whom 81 = .ok (.iload 6, 2) := by decide +kernel
theorem dX7_whom_83 : decode cX7_whom 83 = .ok (.ishl, 1) := by decide +kernel
theorem dX7_whom_84 : decode cX7_whom 84 = .ok (.goto 4, 3) := by decide +kernel
theorem dX7_whom_87 : decode cX7_whom 87 = .ok (.iconst 0, 1) := by decide +kernel
theorem dX7_whom_88 : decode cX7_whom 88 = .ok (.ior, 1) := by decide +kernel
theorem dX7_whom_89 : decode cX7_whom 89 = .ok (.istore 5, 2) := by decide +kernel
theorem dX7_whom_91 : decode cX7_whom 91 = .ok (.iinc 6 1, 3) := by decide +kernel
theorem dX7_whom_94 : decode cX7_whom 94 = .ok (.goto (-45), 3) := by decide +kernel
theorem dX7_whom_97 : decode cX7_whom 97 = .ok (.aload_n 0, 1) := by decide +kernel
theorem dX7_whom_98 : decode cX7_whom 98 = .ok (.getfield 7, 3) := by decide +kernel
theorem dX7_whom_101 : decode cX7_whom 101 = .ok (.sipush 130, 3) := by decide +kernel
theorem dX7_whom_104 : decode cX7_whom 104 = .ok (.iload_n 1, 1) := by decide +kernel
theorem dX7_whom_105 : decode cX7_whom 105 = .ok (.iadd, 1) := by decide +kernel
theorem dX7_whom_106 : decode cX7_whom 106 = .ok (.iload 4, 2) := by decide +kernel
theorem dX7_whom_108 : decode cX7_whom 108 = .ok (.iastore, 1) := by decide +kernel
theorem dX7_whom_109 : decode cX7_whom 109 = .ok (.iload 5, 2) := by decide +kernel
theorem dX7_whom_111 : decode cX7_whom 111 = .ok (.ireturn, 1) := by decide +kernel
theorem dX7_out_0 : decode cX7_out 0 = .ok (.aload_n 0, 1) := by decide +kernel
theorem dX7_out_1 : decode cX7_out 1 = .ok (.getfield 7, 3) := by decide +kernel
theorem dX7_out_4 : decode cX7_out 4 = .ok (.iconst 0, 1) := by decide +kernel
theorem dX7_out_5 : decode cX7_out 5 = .ok (.iaload, 1) := by decide +kernel
theorem dX7_out_6 : decode cX7_out 6 = .ok (.iconst 2, 1) := by decide +kernel
theorem dX7_out_7 : decode cX7_out 7 = .ok (.if_icmp .ge 6, 3) := by decide +kernel
theorem dX7_out_10 : decode cX7_out 10 = .ok (.bipush (-5), 2) := by decide +kernel
theorem dX7_out_12 : decode cX7_out 12 = .ok (.ireturn, 1) := by decide +kernel
theorem dX7_out_13 : decode cX7_out 13 = .ok (.iconst (-1), 1) := by decide +kernel
theorem dX7_out_14 : decode cX7_out 14 = .ok (.istore_n 1, 1) := by decide +kernel
theorem dX7_out_15 : decode cX7_out 15 = .ok (.iconst 0, 1) := by decide +kernel
theorem dX7_out_16 : decode cX7_out 16 = .ok (.istore_n 2, 1) := by decide +kernel
theorem dX7_out_17 : decode cX7_out 17 = .ok (.iconst 0, 1) := by decide +kernel
theorem dX7_out_18 : decode cX7_out 18 = .ok (.istore_n 3, 1) := by decide +kernel
theorem dX7_out_19 : decode cX7_out 19 = .ok (.iload_n 3, 1) := by decide +kernel
theorem dX7_out_20 : decode cX7_out 20 = .ok (.aload_n 0, 1) := by decide +kernel
theorem dX7_out_21 : decode cX7_out 21 = .ok (.getfield 7, 3) := by decide +kernel
theorem dX7_out_24 : decode cX7_out 24 = .ok (.iconst 0, 1) := by decide +kernel
theorem dX7_out_25 : decode cX7_out 25 = .ok (.iaload, 1) := by decide +kernel
theorem dX7_out_26 : decode cX7_out 26 = .ok (.if_icmp .ge 61, 3) := by decide +kernel
theorem dX7_out_29 : decode cX7_out 29 = .ok (.aload_n 0, 1) := by decide +kernel
theorem dX7_out_30 : decode cX7_out 30 = .ok (.iload_n 3, 1) := by decide +kernel
theorem dX7_out_31 : decode cX7_out 31 = .ok (.putfield 23, 3) := by decide +kernel
theorem dX7_out_34 : decode cX7_out 34 = .ok (.aload_n 0, 1) := by decide +kernel
theorem dX7_out_35 : decode cX7_out 35 = .ok (.invokevirtual 202, 3) := by decide +kernel
theorem dX7_out_38 : decode cX7_out 38 = .ok (.istore 4, 2) := by decide +kernel
theorem dX7_out_40 : decode cX7_out 40 = .ok (.iload_n 1, 1) := by decide +kernel
theorem dX7_out_41 : decode cX7_out 41 = .ok (.iconst (-1), 1) := by decide +kernel
theorem dX7_out_42 : decode cX7_out 42 = .ok (.if_icmp .eq 9, 3) := by decide +kernel
theorem dX7_out_45 : decode cX7_out 45 = .ok (.iload 4, 2) := by decide +kernel
theorem dX7_out_47 : decode cX7_out 47 = .ok (.iload_n 2, 1) := by decide +kernel
theorem dX7_out_48 : decode cX7_out 48 = .ok (.if_icmp .ge 7, 3) := by decide +kernel
theorem dX7_out_51 : decode cX7_out 51 = .ok (.iconst 1, 1) := by decide +kernel
theorem dX7_out_52 : decode cX7_out 52 = .ok (.goto 4, 3) := by decide +kernel
theorem dX7_out_55 : decode cX7_out 55 = .ok (.iconst 0, 1) := by decide +kernel
theorem dX7_out_56 : decode cX7_out 56 = .ok (.istore 5, 2) := by decide +kernel
theorem dX7_out_58 : decode cX7_out 58 = .ok (.iload 5, 2) := by decide +kernel
theorem dX7_out_60 : decode cX7_out 60 = .ok (.ifCond .eq 7, 3) := by decide +kernel
theorem dX7_out_63 : decode cX7_out 63 = .ok (.iload_n 3, 1) := by decide +kernel
theorem dX7_out_64 : decode cX7_out 64 = .ok (.goto 4, 3) := by decide +kernel
theorem dX7_out_67 : decode cX7_out 67 = .ok (.iload_n 1, 1) := by decide +kernel
theorem dX7_out_68 : decode cX7_out 68 = .ok (.istore_n 1, 1) := by decide +kernel
theorem dX7_out_69 : decode cX7_out 69 = .ok (.iload 5, 2) := by decide +kernel
theorem dX7_out_71 : decode cX7_out 71 = .ok (.ifCond .eq 8, 3) := by decide +kernel
theorem dX7_out_74 : decode cX7_out 74 = .ok (.iload 4, 2) := by decide +kernel
theorem dX7_out_76 : decode cX7_out 76 = .ok (.goto 4, 3) := by decide +kernel
theorem dX7_out_79 : decode cX7_out 79 = .ok (.iload_n 2, 1) := by decide +kernel
theorem dX7_out_80 : decode cX7_out 80 = .ok (.istore_n 2, 1) := by decide +kernel
theorem dX7_out_81 : decode cX7_out 81 = .ok (.iinc 3 1, 3) := by decide +kernel
theorem dX7_out_84 : decode cX7_out 84 = .ok (.goto (-65), 3) := by decide +kernel
theorem dX7_out_87 : decode cX7_out 87 = .ok (.aload_n 0, 1) := by decide +kernel
theorem dX7_out_88 : decode cX7_out 88 = .ok (.iconst (-1), 1) := by decide +kernel
theorem dX7_out_89 : decode cX7_out 89 = .ok (.putfield 23, 3) := by decide +kernel
theorem dX7_out_92 : decode cX7_out 92 = .ok (.iload_n 1, 1) := by decide +kernel
theorem dX7_out_93 : decode cX7_out 93 = .ok (.ireturn, 1) := by decide +kernel
theorem dX7_runs_0 : decode cX7_runs 0 = .ok (.aload_n 0, 1) := by decide +kernel
theorem dX7_runs_1 : decode cX7_runs 1 = .ok (.getfield 228, 3) := by decide +kernel
theorem dX7_runs_4 : decode cX7_runs 4 = .ok (.bipush 20, 2) := by decide +kernel
theorem dX7_runs_6 : decode cX7_runs 6 = .ok (.if_icmp .ge 13, 3) := by decide +kernel
theorem dX7_runs_9 : decode cX7_runs 9 = .ok (.aload_n 0, 1) := by decide +kernel
theorem dX7_runs_10 : decode cX7_runs 10 = .ok (.getfield 33, 3) := by decide +kernel
theorem dX7_runs_13 : decode cX7_runs 13 = .ok (.aload_n 0, 1) := by decide +kernel
theorem dX7_runs_14 : decode cX7_runs 14 = .ok (.getfield 228, 3) := by decide +kernel
theorem dX7_runs_17 : decode cX7_runs 17 = .ok (.iload_n 1, 1) := by decide +kernel
theorem dX7_runs_18 : decode cX7_runs 18 = .ok (.iastore, 1) := by decide +kernel
theorem dX7_runs_19 : decode cX7_runs 19 = .ok (.aload_n 0, 1) := by decide +kernel
theorem dX7_runs_20 : decode cX7_runs 20 = .ok (.dup, 1) := by decide +kernel
theorem dX7_runs_21 : decode cX7_runs 21 = .ok (.getfield 228, 3) := by decide +kernel
theorem dX7_runs_24 : decode cX7_runs 24 = .ok (.iconst 1, 1) := by decide +kernel
theorem dX7_runs_25 : decode cX7_runs 25 = .ok (.iadd, 1) := by decide +kernel
theorem dX7_runs_26 : decode cX7_runs 26 = .ok (.putfield 228, 3) := by decide +kernel
theorem dX7_runs_29 : decode cX7_runs 29 = .ok (.return_, 1) := by decide +kernel
theorem dX7_isUnder_0 : decode cX7_isUnder 0 = .ok (.iload_n 1, 1) := by decide +kernel
theorem dX7_isUnder_1 : decode cX7_isUnder 1 = .ok (.ifCond .eq 39, 3) := by decide +kernel
theorem dX7_isUnder_4 : decode cX7_isUnder 4 = .ok (.iload_n 1, 1) := by decide +kernel
theorem dX7_isUnder_5 : decode cX7_isUnder 5 = .ok (.iload_n 0, 1) := by decide +kernel
theorem dX7_isUnder_6 : decode cX7_isUnder 6 = .ok (.if_icmp .eq 34, 3) := by decide +kernel
theorem dX7_isUnder_9 : decode cX7_isUnder 9 = .ok (.iload_n 1, 1) := by decide +kernel
theorem dX7_isUnder_10 : decode cX7_isUnder 10 = .ok (.iconst 1, 1) := by decide +kernel
theorem dX7_isUnder_11 : decode cX7_isUnder 11 = .ok (.if_icmp .ne 8, 3) := by decide +kernel
theorem dX7_isUnder_14 : decode cX7_isUnder 14 = .ok (.iload_n 0, 1) := by decide +kernel
theorem dX7_isUnder_15 : decode cX7_isUnder 15 = .ok (.iconst 4, 1) := by decide +kernel
theorem dX7_isUnder_16 : decode cX7_isUnder 16 = .ok (.if_icmp .eq 24, 3) := by decide +kernel
theorem dX7_isUnder_19 : decode cX7_isUnder 19 = .ok (.iload_n 1, 1) := by decide +kernel
theorem dX7_isUnder_20 : decode cX7_isUnder 20 = .ok (.iconst 2, 1) := by decide +kernel
theorem dX7_isUnder_21 : decode cX7_isUnder 21 = .ok (.if_icmp .ne 8, 3) := by decide +kernel
theorem dX7_isUnder_24 : decode cX7_isUnder 24 = .ok (.iload_n 0, 1) := by decide +kernel
theorem dX7_isUnder_25 : decode cX7_isUnder 25 = .ok (.iconst 5, 1) := by decide +kernel
theorem dX7_isUnder_26 : decode cX7_isUnder 26 = .ok (.if_icmp .eq 14, 3) := by decide +kernel
theorem dX7_isUnder_29 : decode cX7_isUnder 29 = .ok (.iload_n 1, 1) := by decide +kernel
theorem dX7_isUnder_30 : decode cX7_isUnder 30 = .ok (.iconst 3, 1) := by decide +kernel
theorem dX7_isUnder_31 : decode cX7_isUnder 31 = .ok (.if_icmp .ne 13, 3) := by decide +kernel
theorem dX7_isUnder_34 : decode cX7_isUnder 34 = .ok (.iload_n 0, 1) := by decide +kernel
theorem dX7_isUnder_35 : decode cX7_isUnder 35 = .ok (.bipush 6, 2) := by decide +kernel
theorem dX7_isUnder_37 : decode cX7_isUnder 37 = .ok (.if_icmp .ne 7, 3) := by decide +kernel
theorem dX7_isUnder_40 : decode cX7_isUnder 40 = .ok (.iconst 1, 1) := by decide +kernel
theorem dX7_isUnder_41 : decode cX7_isUnder 41 = .ok (.goto 4, 3) := by decide +kernel
theorem dX7_isUnder_44 : decode cX7_isUnder 44 = .ok (.iconst 0, 1) := by decide +kernel
theorem dX7_isUnder_45 : decode cX7_isUnder 45 = .ok (.ireturn, 1) := by decide +kernel
theorem dX7_plainGoes_0 : decode cX7_plainGoes 0 = .ok (.aload_n 0, 1) := by decide +kernel
theorem dX7_plainGoes_1 : decode cX7_plainGoes 1 = .ok (.iconst 1, 1) := by decide +kernel
theorem dX7_plainGoes_2 : decode cX7_plainGoes 2 = .ok (.invokevirtual 231, 3) := by decide +kernel
theorem dX7_plainGoes_5 : decode cX7_plainGoes 5 = .ok (.iload_n 1, 1) := by decide +kernel
theorem dX7_plainGoes_6 : decode cX7_plainGoes 6 = .ok (.aload_n 0, 1) := by decide +kernel
theorem dX7_plainGoes_7 : decode cX7_plainGoes 7 = .ok (.getfield 234, 3) := by decide +kernel
theorem dX7_plainGoes_10 : decode cX7_plainGoes 10 = .ok (.iadd, 1) := by decide +kernel
theorem dX7_plainGoes_11 : decode cX7_plainGoes 11 = .ok (.ireturn, 1) := by decide +kernel
theorem dX7_goesActs_0 : decode cX7_goesActs 0 = .ok (.aload_n 0, 1) := by decide +kernel
theorem dX7_goesActs_1 : decode cX7_goesActs 1 = .ok (.getfield 237, 3) := by decide +kernel
theorem dX7_goesActs_4 : decode cX7_goesActs 4 = .ok (.iconst 1, 1) := by decide +kernel
theorem dX7_goesActs_5 : decode cX7_goesActs 5 = .ok (.invokestatic 240, 3) := by decide +kernel
theorem dX7_goesActs_8 : decode cX7_goesActs 8 = .ok (.ifCond .eq 17, 3) := by decide +kernel
theorem dX7_goesActs_11 : decode cX7_goesActs 11 = .ok (.aload_n 0, 1) := by decide +kernel
theorem dX7_goesActs_12 : decode cX7_goesActs 12 = .ok (.bipush 11, 2) := by decide +kernel
theorem dX7_goesActs_14 : decode cX7_goesActs 14 = .ok (.invokevirtual 231, 3) := by decide +kernel
theorem dX7_goesActs_17 : decode cX7_goesActs 17 = .ok (.aload_n 0, 1) := by decide +kernel
theorem dX7_goesActs_18 : decode cX7_goesActs 18 = .ok (.iload_n 1, 1) := by decide +kernel
theorem dX7_goesActs_19 : decode cX7_goesActs 19 = .ok (.iconst 3, 1) := by decide +kernel
theorem dX7_goesActs_20 : decode cX7_goesActs 20 = .ok (.imul, 1) := by decide +kernel
theorem dX7_goesActs_21 : decode cX7_goesActs 21 = .ok (.invokevirtual 244, 3) := by decide +kernel
theorem dX7_goesActs_24 : decode cX7_goesActs 24 = .ok (.ireturn, 1) := by decide +kernel
theorem dX7_goesActs_25 : decode cX7_goesActs 25 = .ok (.aload_n 0, 1) := by decide +kernel
theorem dX7_goesActs_26 : decode cX7_goesActs 26 = .ok (.getfield 237, 3) := by decide +kernel
theorem dX7_goesActs_29 : decode cX7_goesActs 29 = .ok (.iconst 5, 1) := by decide +kernel
theorem dX7_goesActs_30 : decode cX7_goesActs 30 = .ok (.if_icmp .ne 20, 3) := by decide +kernel
theorem dX7_goesActs_33 : decode cX7_goesActs 33 = .ok (.aload_n 0, 1) := by decide +kernel
theorem dX7_goesActs_34 : decode cX7_goesActs 34 = .ok (.bipush 51, 2) := by decide +kernel
theorem dX7_goesActs_36 : decode cX7_goesActs 36 = .ok (.invokevirtual 231, 3) := by decide +kernel
theorem dX7_goesActs_39 : decode cX7_goesActs 39 = .ok (.aload_n 0, 1) := by decide +kernel
theorem dX7_goesActs_40 : decode cX7_goesActs 40 = .ok (.iload_n 1, 1) := by decide +kernel
theorem dX7_goesActs_41 : decode cX7_goesActs 41 = .ok (.invokevirtual 244, 3) := by decide +kernel
theorem dX7_goesActs_44 : decode cX7_goesActs 44 = .ok (.aload_n 0, 1) := by decide +kernel
theorem dX7_goesActs_45 : decode cX7_goesActs 45 = .ok (.getfield 234, 3) := by decide +kernel
theorem dX7_goesActs_48 : decode cX7_goesActs 48 = .ok (.ixor, 1) := by decide +kernel
theorem dX7_goesActs_49 : decode cX7_goesActs 49 = .ok (.ireturn, 1) := by decide +kernel
theorem dX7_goesActs_50 : decode cX7_goesActs 50 = .ok (.aload_n 0, 1) := by decide +kernel
theorem dX7_goesActs_51 : decode cX7_goesActs 51 = .ok (.iload_n 1, 1) := by decide +kernel
theorem dX7_goesActs_52 : decode cX7_goesActs 52 = .ok (.invokevirtual 244, 3) := by decide +kernel
theorem dX7_goesActs_55 : decode cX7_goesActs 55 = .ok (.ireturn, 1) := by decide +kernel
theorem dX7_plainPlays_0 : decode cX7_plainPlays 0 = .ok (.aload_n 0, 1) := by decide +kernel
theorem dX7_plainPlays_1 : decode cX7_plainPlays 1 = .ok (.iconst 2, 1) := by decide +kernel
theorem dX7_plainPlays_2 : decode cX7_plainPlays 2 = .ok (.invokevirtual 231, 3) := by decide +kernel
theorem dX7_plainPlays_5 : decode cX7_plainPlays 5 = .ok (.aload_n 0, 1) := by decide +kernel
theorem dX7_plainPlays_6 : decode cX7_plainPlays 6 = .ok (.iload_n 1, 1) := by decide +kernel
theorem dX7_plainPlays_7 : decode cX7_plainPlays 7 = .ok (.invokevirtual 247, 3) := by decide +kernel
theorem dX7_plainPlays_10 : decode cX7_plainPlays 10 = .ok (.aload_n 0, 1) := by decide +kernel
theorem dX7_plainPlays_11 : decode cX7_plainPlays 11 = .ok (.getfield 250, 3) := by decide +kernel
theorem dX7_plainPlays_14 : decode cX7_plainPlays 14 = .ok (.isub, 1) := by decide +kernel
theorem dX7_plainPlays_15 : decode cX7_plainPlays 15 = .ok (.ireturn, 1) := by decide +kernel
theorem dX7_playsActs_0 : decode cX7_playsActs 0 = .ok (.aload_n 0, 1) := by decide +kernel
theorem dX7_playsActs_1 : decode cX7_playsActs 1 = .ok (.getfield 237, 3) := by decide +kernel
theorem dX7_playsActs_4 : decode cX7_playsActs 4 = .ok (.iconst 2, 1) := by decide +kernel
theorem dX7_playsActs_5 : decode cX7_playsActs 5 = .ok (.invokestatic 240, 3) := by decide +kernel
theorem dX7_playsActs_8 : decode cX7_playsActs 8 = .ok (.ifCond .eq 16, 3) := by decide +kernel
theorem dX7_playsActs_11 : decode cX7_playsActs 11 = .ok (.aload_n 0, 1) := by decide +kernel
theorem dX7_playsActs_12 : decode cX7_playsActs 12 = .ok (.bipush 21, 2) := by decide +kernel
theorem dX7_playsActs_14 : decode cX7_playsActs 14 = .ok (.invokevirtual 231, 3) := by decide +kernel
theorem dX7_playsActs_17 : decode cX7_playsActs 17 = .ok (.aload_n 0, 1) := by decide +kernel
theorem dX7_playsActs_18 : decode cX7_playsActs 18 = .ok (.iload_n 1, 1) := by decide +kernel
theorem dX7_playsActs_19 : decode cX7_playsActs 19 = .ok (.invokevirtual 253, 3) := by decide +kernel
theorem dX7_playsActs_22 : decode cX7_playsActs 22 = .ok (.ineg, 1) := by decide +kernel
theorem dX7_playsActs_23 : decode cX7_playsActs 23 = .ok (.ireturn, 1) := by decide +kernel
theorem dX7_playsActs_24 : decode cX7_playsActs 24 = .ok (.aload_n 0, 1) := by decide +kernel
theorem dX7_playsActs_25 : decode cX7_playsActs 25 = .ok (.getfield 237, 3) := by decide +kernel
theorem dX7_playsActs_28 : decode cX7_playsActs 28 = .ok (.bipush 6, 2) := by decide +kernel
theorem dX7_playsActs_30 : decode cX7_playsActs 30 = .ok (.if_icmp .ne 20, 3) := by decide +kernel
theorem dX7_playsActs_33 : decode cX7_playsActs 33 = .ok (.aload_n 0, 1) := by decide +kernel
theorem dX7_playsActs_34 : decode cX7_playsActs 34 = .ok (.bipush 61, 2) := by decide +kernel
theorem dX7_playsActs_36 : decode cX7_playsActs 36 = .ok (.invokevirtual 231, 3) := by decide +kernel
theorem dX7_playsActs_39 : decode cX7_playsActs 39 = .ok (.aload_n 0, 1) := by decide +kernel
theorem dX7_playsActs_40 : decode cX7_playsActs 40 = .ok (.iload_n 1, 1) := by decide +kernel
theorem dX7_playsActs_41 : decode cX7_playsActs 41 = .ok (.invokevirtual 253, 3) := by decide +kernel
theorem dX7_playsActs_44 : decode cX7_playsActs 44 = .ok (.aload_n 0, 1) := by decide +kernel
theorem dX7_playsActs_45 : decode cX7_playsActs 45 = .ok (.getfield 250, 3) := by decide +kernel
theorem dX7_playsActs_48 : decode cX7_playsActs 48 = .ok (.iadd, 1) := by decide +kernel
theorem dX7_playsActs_49 : decode cX7_playsActs 49 = .ok (.ireturn, 1) := by decide +kernel
theorem dX7_playsActs_50 : decode cX7_playsActs 50 = .ok (.aload_n 0, 1) := by decide +kernel
theorem dX7_playsActs_51 : decode cX7_playsActs 51 = .ok (.iload_n 1, 1) := by decide +kernel
theorem dX7_playsActs_52 : decode cX7_playsActs 52 = .ok (.invokevirtual 253, 3) := by decide +kernel
theorem dX7_playsActs_55 : decode cX7_playsActs 55 = .ok (.ireturn, 1) := by decide +kernel
theorem dX7_plainFits_0 : decode cX7_plainFits 0 = .ok (.aload_n 0, 1) := by decide +kernel
theorem dX7_plainFits_1 : decode cX7_plainFits 1 = .ok (.iconst 3, 1) := by decide +kernel
theorem dX7_plainFits_2 : decode cX7_plainFits 2 = .ok (.invokevirtual 231, 3) := by decide +kernel
theorem dX7_plainFits_5 : decode cX7_plainFits 5 = .ok (.aload_n 0, 1) := by decide +kernel
theorem dX7_plainFits_6 : decode cX7_plainFits 6 = .ok (.iload_n 1, 1) := by decide +kernel
theorem dX7_plainFits_7 : decode cX7_plainFits 7 = .ok (.invokevirtual 256, 3) := by decide +kernel
theorem dX7_plainFits_10 : decode cX7_plainFits 10 = .ok (.iconst 2, 1) := by decide +kernel
theorem dX7_plainFits_11 : decode cX7_plainFits 11 = .ok (.imul, 1) := by decide +kernel
theorem dX7_plainFits_12 : decode cX7_plainFits 12 = .ok (.ireturn, 1) := by decide +kernel
theorem dX7_fitsActs_0 : decode cX7_fitsActs 0 = .ok (.aload_n 0, 1) := by decide +kernel
theorem dX7_fitsActs_1 : decode cX7_fitsActs 1 = .ok (.getfield 237, 3) := by decide +kernel
theorem dX7_fitsActs_4 : decode cX7_fitsActs 4 = .ok (.iconst 3, 1) := by decide +kernel
theorem dX7_fitsActs_5 : decode cX7_fitsActs 5 = .ok (.invokestatic 240, 3) := by decide +kernel
theorem dX7_fitsActs_8 : decode cX7_fitsActs 8 = .ok (.ifCond .eq 18, 3) := by decide +kernel
theorem dX7_fitsActs_11 : decode cX7_fitsActs 11 = .ok (.aload_n 0, 1) := by decide +kernel
theorem dX7_fitsActs_12 : decode cX7_fitsActs 12 = .ok (.bipush 31, 2) := by decide +kernel
theorem dX7_fitsActs_14 : decode cX7_fitsActs 14 = .ok (.invokevirtual 231, 3) := by decide +kernel
theorem dX7_fitsActs_17 : decode cX7_fitsActs 17 = .ok (.aload_n 0, 1) := by decide +kernel
theorem dX7_fitsActs_18 : decode cX7_fitsActs 18 = .ok (.iload_n 1, 1) := by decide +kernel
theorem dX7_fitsActs_19 : decode cX7_fitsActs 19 = .ok (.invokevirtual 259, 3) := by decide +kernel
theorem dX7_fitsActs_22 : decode cX7_fitsActs 22 = .ok (.bipush 7, 2) := by decide +kernel
theorem dX7_fitsActs_24 : decode cX7_fitsActs 24 = .ok (.ixor, 1) := by decide +kernel
theorem dX7_fitsActs_25 : decode cX7_fitsActs 25 = .ok (.ireturn, 1) := by decide +kernel
theorem dX7_fitsActs_26 : decode cX7_fitsActs 26 = .ok (.aload_n 0, 1) := by decide +kernel
theorem dX7_fitsActs_27 : decode cX7_fitsActs 27 = .ok (.getfield 237, 3) := by decide +kernel
theorem dX7_fitsActs_30 : decode cX7_fitsActs 30 = .ok (.iconst 4, 1) := by decide +kernel
theorem dX7_fitsActs_31 : decode cX7_fitsActs 31 = .ok (.if_icmp .ne 25, 3) := by decide +kernel
theorem dX7_fitsActs_34 : decode cX7_fitsActs 34 = .ok (.aload_n 0, 1) := by decide +kernel
theorem dX7_fitsActs_35 : decode cX7_fitsActs 35 = .ok (.bipush 41, 2) := by decide +kernel
theorem dX7_fitsActs_37 : decode cX7_fitsActs 37 = .ok (.invokevirtual 231, 3) := by decide +kernel
theorem dX7_fitsActs_40 : decode cX7_fitsActs 40 = .ok (.aload_n 0, 1) := by decide +kernel
theorem dX7_fitsActs_41 : decode cX7_fitsActs 41 = .ok (.iload_n 1, 1) := by decide +kernel
theorem dX7_fitsActs_42 : decode cX7_fitsActs 42 = .ok (.iconst 1, 1) := by decide +kernel
theorem dX7_fitsActs_43 : decode cX7_fitsActs 43 = .ok (.isub, 1) := by decide +kernel
theorem dX7_fitsActs_44 : decode cX7_fitsActs 44 = .ok (.invokevirtual 259, 3) := by decide +kernel
theorem dX7_fitsActs_47 : decode cX7_fitsActs 47 = .ok (.istore_n 2, 1) := by decide +kernel
theorem dX7_fitsActs_48 : decode cX7_fitsActs 48 = .ok (.iload_n 2, 1) := by decide +kernel
theorem dX7_fitsActs_49 : decode cX7_fitsActs 49 = .ok (.aload_n 0, 1) := by decide +kernel
theorem dX7_fitsActs_50 : decode cX7_fitsActs 50 = .ok (.iconst 2, 1) := by decide +kernel
theorem dX7_fitsActs_51 : decode cX7_fitsActs 51 = .ok (.invokevirtual 247, 3) := by decide +kernel
theorem dX7_fitsActs_54 : decode cX7_fitsActs 54 = .ok (.iadd, 1) := by decide +kernel
theorem dX7_fitsActs_55 : decode cX7_fitsActs 55 = .ok (.ireturn, 1) := by decide +kernel
theorem dX7_fitsActs_56 : decode cX7_fitsActs 56 = .ok (.aload_n 0, 1) := by decide +kernel
theorem dX7_fitsActs_57 : decode cX7_fitsActs 57 = .ok (.iload_n 1, 1) := by decide +kernel
theorem dX7_fitsActs_58 : decode cX7_fitsActs 58 = .ok (.invokevirtual 259, 3) := by decide +kernel
theorem dX7_fitsActs_61 : decode cX7_fitsActs 61 = .ok (.ireturn, 1) := by decide +kernel
theorem dX7_act_0 : decode cX7_act 0 = .ok (.aload_n 0, 1) := by decide +kernel
theorem dX7_act_1 : decode cX7_act 1 = .ok (.iconst 0, 1) := by decide +kernel
theorem dX7_act_2 : decode cX7_act 2 = .ok (.putfield 228, 3) := by decide +kernel
theorem dX7_act_5 : decode cX7_act 5 = .ok (.aload_n 0, 1) := by decide +kernel
theorem dX7_act_6 : decode cX7_act 6 = .ok (.iload_n 1, 1) := by decide +kernel
theorem dX7_act_7 : decode cX7_act 7 = .ok (.invokevirtual 152, 3) := by decide +kernel
theorem dX7_act_10 : decode cX7_act 10 = .ok (.ifCond .eq 12, 3) := by decide +kernel
theorem dX7_act_13 : decode cX7_act 13 = .ok (.iload_n 2, 1) := by decide +kernel
theorem dX7_act_14 : decode cX7_act 14 = .ok (.iconst 0, 1) := by decide +kernel
theorem dX7_act_15 : decode cX7_act 15 = .ok (.iconst 2, 1) := by decide +kernel
theorem dX7_act_16 : decode cX7_act 16 = .ok (.invokestatic 39, 3) := by decide +kernel
theorem dX7_act_19 : decode cX7_act 19 = .ok (.ifCond .ne 5, 3) := by decide +kernel
theorem dX7_act_22 : decode cX7_act 22 = .ok (.iconst 0, 1) := by decide +kernel
theorem dX7_act_23 : decode cX7_act 23 = .ok (.ireturn, 1) := by decide +kernel
theorem dX7_act_24 : decode cX7_act 24 = .ok (.aload_n 0, 1) := by decide +kernel
theorem dX7_act_25 : decode cX7_act 25 = .ok (.aload_n 0, 1) := by decide +kernel
theorem dX7_act_26 : decode cX7_act 26 = .ok (.getfield 7, 3) := by decide +kernel
theorem dX7_act_29 : decode cX7_act 29 = .ok (.sipush 130, 3) := by decide +kernel
theorem dX7_act_32 : decode cX7_act 32 = .ok (.iload_n 1, 1) := by decide +kernel
theorem dX7_act_33 : decode cX7_act 33 = .ok (.iadd, 1) := by decide +kernel
theorem dX7_act_34 : decode cX7_act 34 = .ok (.iaload, 1) := by decide +kernel
theorem dX7_act_35 : decode cX7_act 35 = .ok (.putfield 237, 3) := by decide +kernel
theorem dX7_act_38 : decode cX7_act 38 = .ok (.aload_n 0, 1) := by decide +kernel
theorem dX7_act_39 : decode cX7_act 39 = .ok (.iload_n 1, 1) := by decide +kernel
theorem dX7_act_40 : decode cX7_act 40 = .ok (.putfield 234, 3) := by decide +kernel
theorem dX7_act_43 : decode cX7_act 43 = .ok (.aload_n 0, 1) := by decide +kernel
theorem dX7_act_44 : decode cX7_act 44 = .ok (.aload_n 0, 1) := by decide +kernel
theorem dX7_act_45 : decode cX7_act 45 = .ok (.getfield 7, 3) := by decide +kernel
theorem dX7_act_48 : decode cX7_act 48 = .ok (.sipush 140, 3) := by decide +kernel
theorem dX7_act_51 : decode cX7_act 51 = .ok (.iload_n 1, 1) := by decide +kernel
theorem dX7_act_52 : decode cX7_act 52 = .ok (.iadd, 1) := by decide +kernel
theorem dX7_act_53 : decode cX7_act 53 = .ok (.iaload, 1) := by decide +kernel
theorem dX7_act_54 : decode cX7_act 54 = .ok (.putfield 250, 3) := by decide +kernel
theorem dX7_act_57 : decode cX7_act 57 = .ok (.iload_n 2, 1) := by decide +kernel
theorem dX7_act_58 : decode cX7_act 58 = .ok (.ifCond .ne 11, 3) := by decide +kernel
theorem dX7_act_61 : decode cX7_act 61 = .ok (.aload_n 0, 1) := by decide +kernel
theorem dX7_act_62 : decode cX7_act 62 = .ok (.iload_n 3, 1) := by decide +kernel
theorem dX7_act_63 : decode cX7_act 63 = .ok (.invokevirtual 247, 3) := by decide +kernel
theorem dX7_act_66 : decode cX7_act 66 = .ok (.goto 21, 3) := by decide +kernel
theorem dX7_act_69 : decode cX7_act 69 = .ok (.iload_n 2, 1) := by decide +kernel
theorem dX7_act_70 : decode cX7_act 70 = .ok (.iconst 1, 1) := by decide +kernel
theorem dX7_act_71 : decode cX7_act 71 = .ok (.if_icmp .ne 11, 3) := by decide +kernel
theorem dX7_act_74 : decode cX7_act 74 = .ok (.aload_n 0, 1) := by decide +kernel
theorem dX7_act_75 : decode cX7_act 75 = .ok (.iload_n 3, 1) := by decide +kernel
theorem dX7_act_76 : decode cX7_act 76 = .ok (.invokevirtual 256, 3) := by decide +kernel
theorem dX7_act_79 : decode cX7_act 79 = .ok (.goto 8, 3) := by decide +kernel
theorem dX7_act_82 : decode cX7_act 82 = .ok (.aload_n 0, 1) := by decide +kernel
theorem dX7_act_83 : decode cX7_act 83 = .ok (.iload_n 3, 1) := by decide +kernel
theorem dX7_act_84 : decode cX7_act 84 = .ok (.invokevirtual 262, 3) := by decide +kernel
theorem dX7_act_87 : decode cX7_act 87 = .ok (.ireturn, 1) := by decide +kernel
theorem dX7_trace_0 : decode cX7_trace 0 = .ok (.iload_n 1, 1) := by decide +kernel
theorem dX7_trace_1 : decode cX7_trace 1 = .ok (.iconst 0, 1) := by decide +kernel
theorem dX7_trace_2 : decode cX7_trace 2 = .ok (.aload_n 0, 1) := by decide +kernel
theorem dX7_trace_3 : decode cX7_trace 3 = .ok (.getfield 228, 3) := by decide +kernel
theorem dX7_trace_6 : decode cX7_trace 6 = .ok (.bipush 20, 2) := by decide +kernel
theorem dX7_trace_8 : decode cX7_trace 8 = .ok (.if_icmp .ge 10, 3) := by decide +kernel
theorem dX7_trace_11 : decode cX7_trace 11 = .ok (.aload_n 0, 1) := by decide +kernel
theorem dX7_trace_12 : decode cX7_trace 12 = .ok (.getfield 228, 3) := by decide +kernel
theorem dX7_trace_15 : decode cX7_trace 15 = .ok (.goto 5, 3) := by decide +kernel
theorem dX7_trace_18 : decode cX7_trace 18 = .ok (.bipush 20, 2) := by decide +kernel
theorem dX7_trace_20 : decode cX7_trace 20 = .ok (.iconst 1, 1) := by decide +kernel
theorem dX7_trace_21 : decode cX7_trace 21 = .ok (.isub, 1) := by decide +kernel
theorem dX7_trace_22 : decode cX7_trace 22 = .ok (.invokestatic 39, 3) := by decide +kernel
theorem dX7_trace_25 : decode cX7_trace 25 = .ok (.ifCond .eq 12, 3) := by decide +kernel
theorem dX7_trace_28 : decode cX7_trace 28 = .ok (.aload_n 0, 1) := by decide +kernel
theorem dX7_trace_29 : decode cX7_trace 29 = .ok (.getfield 33, 3) := by decide +kernel
theorem dX7_trace_32 : decode cX7_trace 32 = .ok (.iload_n 1, 1) := by decide +kernel
theorem dX7_trace_33 : decode cX7_trace 33 = .ok (.iaload, 1) := by decide +kernel
theorem dX7_trace_34 : decode cX7_trace 34 = .ok (.goto 4, 3) := by decide +kernel
theorem dX7_trace_37 : decode cX7_trace 37 = .ok (.iconst (-1), 1) := by decide +kernel
theorem dX7_trace_38 : decode cX7_trace 38 = .ok (.ireturn, 1) := by decide +kernel
theorem dX7_as_0 : decode cX7_as 0 = .ok (.aload_n 0, 1) := by decide +kernel
theorem dX7_as_1 : decode cX7_as 1 = .ok (.iload_n 1, 1) := by decide +kernel
theorem dX7_as_2 : decode cX7_as 2 = .ok (.invokevirtual 152, 3) := by decide +kernel
theorem dX7_as_5 : decode cX7_as 5 = .ok (.ifCond .eq 13, 3) := by decide +kernel
theorem dX7_as_8 : decode cX7_as 8 = .ok (.iload_n 2, 1) := by decide +kernel
theorem dX7_as_9 : decode cX7_as 9 = .ok (.iconst 0, 1) := by decide +kernel
theorem dX7_as_10 : decode cX7_as 10 = .ok (.bipush 6, 2) := by decide +kernel
theorem dX7_as_12 : decode cX7_as 12 = .ok (.invokestatic 39, 3) := by decide +kernel
theorem dX7_as_15 : decode cX7_as 15 = .ok (.ifCond .ne 5, 3) := by decide +kernel
theorem dX7_as_18 : decode cX7_as 18 = .ok (.iconst (-1), 1) := by decide +kernel
theorem dX7_as_19 : decode cX7_as 19 = .ok (.ireturn, 1) := by decide +kernel
theorem dX7_as_20 : decode cX7_as 20 = .ok (.aload_n 0, 1) := by decide +kernel
theorem dX7_as_21 : decode cX7_as 21 = .ok (.getfield 7, 3) := by decide +kernel
theorem dX7_as_24 : decode cX7_as 24 = .ok (.sipush 130, 3) := by decide +kernel
theorem dX7_as_27 : decode cX7_as 27 = .ok (.iload_n 1, 1) := by decide +kernel
theorem dX7_as_28 : decode cX7_as 28 = .ok (.iadd, 1) := by decide +kernel
theorem dX7_as_29 : decode cX7_as 29 = .ok (.iaload, 1) := by decide +kernel
theorem dX7_as_30 : decode cX7_as 30 = .ok (.iload_n 2, 1) := by decide +kernel
theorem dX7_as_31 : decode cX7_as 31 = .ok (.invokestatic 240, 3) := by decide +kernel
theorem dX7_as_34 : decode cX7_as 34 = .ok (.ifCond .eq 16, 3) := by decide +kernel
theorem dX7_as_37 : decode cX7_as 37 = .ok (.aload_n 0, 1) := by decide +kernel
theorem dX7_as_38 : decode cX7_as 38 = .ok (.getfield 7, 3) := by decide +kernel
theorem dX7_as_41 : decode cX7_as 41 = .ok (.sipush 140, 3) := by decide +kernel
theorem dX7_as_44 : decode cX7_as 44 = .ok (.iload_n 1, 1) := by decide +kernel
theorem dX7_as_45 : decode cX7_as 45 = .ok (.iadd, 1) := by decide +kernel
theorem dX7_as_46 : decode cX7_as 46 = .ok (.iaload, 1) := by decide +kernel
theorem dX7_as_47 : decode cX7_as 47 = .ok (.goto 5, 3) := by decide +kernel
theorem dX7_as_50 : decode cX7_as 50 = .ok (.bipush (-6), 2) := by decide +kernel
theorem dX7_as_52 : decode cX7_as 52 = .ok (.ireturn, 1) := by decide +kernel
theorem dX7_image_0 : decode cX7_image 0 = .ok (.iconst 0, 1) := by decide +kernel
theorem dX7_image_1 : decode cX7_image 1 = .ok (.istore_n 1, 1) := by decide +kernel
theorem dX7_image_2 : decode cX7_image 2 = .ok (.iload_n 1, 1) := by decide +kernel
theorem dX7_image_3 : decode cX7_image 3 = .ok (.sipush 900, 3) := by decide +kernel
theorem dX7_image_6 : decode cX7_image 6 = .ok (.if_icmp .ge 21, 3) := by decide +kernel
theorem dX7_image_9 : decode cX7_image 9 = .ok (.aload_n 0, 1) := by decide +kernel
theorem dX7_image_10 : decode cX7_image 10 = .ok (.getfield 13, 3) := by decide +kernel
theorem dX7_image_13 : decode cX7_image 13 = .ok (.iload_n 1, 1) := by decide +kernel
theorem dX7_image_14 : decode cX7_image 14 = .ok (.aload_n 0, 1) := by decide +kernel
theorem dX7_image_15 : decode cX7_image 15 = .ok (.getfield 7, 3) := by decide +kernel
theorem dX7_image_18 : decode cX7_image 18 = .ok (.iload_n 1, 1) := by decide +kernel
theorem dX7_image_19 : decode cX7_image 19 = .ok (.iaload, 1) := by decide +kernel
theorem dX7_image_20 : decode cX7_image 20 = .ok (.iastore, 1) := by decide +kernel
theorem dX7_image_21 : decode cX7_image 21 = .ok (.iinc 1 1, 3) := by decide +kernel
theorem dX7_image_24 : decode cX7_image 24 = .ok (.goto (-22), 3) := by decide +kernel
theorem dX7_image_27 : decode cX7_image 27 = .ok (.aload_n 0, 1) := by decide +kernel
theorem dX7_image_28 : decode cX7_image 28 = .ok (.iconst 1, 1) := by decide +kernel
theorem dX7_image_29 : decode cX7_image 29 = .ok (.putfield 265, 3) := by decide +kernel
theorem dX7_image_32 : decode cX7_image 32 = .ok (.aload_n 0, 1) := by decide +kernel
theorem dX7_image_33 : decode cX7_image 33 = .ok (.getfield 7, 3) := by decide +kernel
theorem dX7_image_36 : decode cX7_image 36 = .ok (.iconst 0, 1) := by decide +kernel
theorem dX7_image_37 : decode cX7_image 37 = .ok (.iaload, 1) := by decide +kernel
theorem dX7_image_38 : decode cX7_image 38 = .ok (.ireturn, 1) := by decide +kernel
theorem dX7_undo_0 : decode cX7_undo 0 = .ok (.aload_n 0, 1) := by decide +kernel
theorem dX7_undo_1 : decode cX7_undo 1 = .ok (.getfield 265, 3) := by decide +kernel
theorem dX7_undo_4 : decode cX7_undo 4 = .ok (.ifCond .ne 6, 3) := by decide +kernel
theorem dX7_undo_7 : decode cX7_undo 7 = .ok (.bipush (-3), 2) := by decide +kernel
theorem dX7_undo_9 : decode cX7_undo 9 = .ok (.ireturn, 1) := by decide +kernel
theorem dX7_undo_10 : decode cX7_undo 10 = .ok (.iconst 0, 1) := by decide +kernel
theorem dX7_undo_11 : decode cX7_undo 11 = .ok (.istore_n 1, 1) := by decide +kernel
theorem dX7_undo_12 : decode cX7_undo 12 = .ok (.iload_n 1, 1) := by decide +kernel
theorem dX7_undo_13 : decode cX7_undo 13 = .ok (.sipush 900, 3) := by decide +kernel
theorem dX7_undo_16 : decode cX7_undo 16 = .ok (.if_icmp .ge 21, 3) := by decide +kernel
theorem dX7_undo_19 : decode cX7_undo 19 = .ok (.aload_n 0, 1) := by decide +kernel
theorem dX7_undo_20 : decode cX7_undo 20 = .ok (.getfield 7, 3) := by decide +kernel
theorem dX7_undo_23 : decode cX7_undo 23 = .ok (.iload_n 1, 1) := by decide +kernel
theorem dX7_undo_24 : decode cX7_undo 24 = .ok (.aload_n 0, 1) := by decide +kernel
theorem dX7_undo_25 : decode cX7_undo 25 = .ok (.getfield 13, 3) := by decide +kernel
theorem dX7_undo_28 : decode cX7_undo 28 = .ok (.iload_n 1, 1) := by decide +kernel
theorem dX7_undo_29 : decode cX7_undo 29 = .ok (.iaload, 1) := by decide +kernel
theorem dX7_undo_30 : decode cX7_undo 30 = .ok (.iastore, 1) := by decide +kernel
theorem dX7_undo_31 : decode cX7_undo 31 = .ok (.iinc 1 1, 3) := by decide +kernel
theorem dX7_undo_34 : decode cX7_undo 34 = .ok (.goto (-22), 3) := by decide +kernel
theorem dX7_undo_37 : decode cX7_undo 37 = .ok (.aload_n 0, 1) := by decide +kernel
theorem dX7_undo_38 : decode cX7_undo 38 = .ok (.getfield 7, 3) := by decide +kernel
theorem dX7_undo_41 : decode cX7_undo 41 = .ok (.iconst 0, 1) := by decide +kernel
theorem dX7_undo_42 : decode cX7_undo 42 = .ok (.iaload, 1) := by decide +kernel
theorem dX7_undo_43 : decode cX7_undo 43 = .ok (.ireturn, 1) := by decide +kernel
theorem dX7_count_0 : decode cX7_count 0 = .ok (.iload_n 1, 1) := by decide +kernel
theorem dX7_count_1 : decode cX7_count 1 = .ok (.tableswitch 90 0 6 #[43, 50, 57, 64, 71, 78, 83], 43) := by decide +kernel
theorem dX7_count_44 : decode cX7_count 44 = .ok (.aload_n 0, 1) := by decide +kernel
theorem dX7_count_45 : decode cX7_count 45 = .ok (.getfield 7, 3) := by decide +kernel
theorem dX7_count_48 : decode cX7_count 48 = .ok (.iconst 0, 1) := by decide +kernel
theorem dX7_count_49 : decode cX7_count 49 = .ok (.iaload, 1) := by decide +kernel
theorem dX7_count_50 : decode cX7_count 50 = .ok (.ireturn, 1) := by decide +kernel
theorem dX7_count_51 : decode cX7_count 51 = .ok (.aload_n 0, 1) := by decide +kernel
theorem dX7_count_52 : decode cX7_count 52 = .ok (.getfield 7, 3) := by decide +kernel
theorem dX7_count_55 : decode cX7_count 55 = .ok (.iconst 1, 1) := by decide +kernel
theorem dX7_count_56 : decode cX7_count 56 = .ok (.iaload, 1) := by decide +kernel
theorem dX7_count_57 : decode cX7_count 57 = .ok (.ireturn, 1) := by decide +kernel
theorem dX7_count_58 : decode cX7_count 58 = .ok (.aload_n 0, 1) := by decide +kernel
theorem dX7_count_59 : decode cX7_count 59 = .ok (.getfield 7, 3) := by decide +kernel
theorem dX7_count_62 : decode cX7_count 62 = .ok (.iconst 2, 1) := by decide +kernel
theorem dX7_count_63 : decode cX7_count 63 = .ok (.iaload, 1) := by decide +kernel
theorem dX7_count_64 : decode cX7_count 64 = .ok (.ireturn, 1) := by decide +kernel
theorem dX7_count_65 : decode cX7_count 65 = .ok (.aload_n 0, 1) := by decide +kernel
theorem dX7_count_66 : decode cX7_count 66 = .ok (.getfield 7, 3) := by decide +kernel
theorem dX7_count_69 : decode cX7_count 69 = .ok (.iconst 3, 1) := by decide +kernel
theorem dX7_count_70 : decode cX7_count 70 = .ok (.iaload, 1) := by decide +kernel
theorem dX7_count_71 : decode cX7_count 71 = .ok (.ireturn, 1) := by decide +kernel
theorem dX7_count_72 : decode cX7_count 72 = .ok (.aload_n 0, 1) := by decide +kernel
theorem dX7_count_73 : decode cX7_count 73 = .ok (.getfield 7, 3) := by decide +kernel
theorem dX7_count_76 : decode cX7_count 76 = .ok (.iconst 4, 1) := by decide +kernel
theorem dX7_count_77 : decode cX7_count 77 = .ok (.iaload, 1) := by decide +kernel
theorem dX7_count_78 : decode cX7_count 78 = .ok (.ireturn, 1) := by decide +kernel
theorem dX7_count_79 : decode cX7_count 79 = .ok (.aload_n 0, 1) := by decide +kernel
theorem dX7_count_80 : decode cX7_count 80 = .ok (.getfield 228, 3) := by decide +kernel
theorem dX7_count_83 : decode cX7_count 83 = .ok (.ireturn, 1) := by decide +kernel
theorem dX7_count_84 : decode cX7_count 84 = .ok (.aload_n 0, 1) := by decide +kernel
theorem dX7_count_85 : decode cX7_count 85 = .ok (.getfield 7, 3) := by decide +kernel
theorem dX7_count_88 : decode cX7_count 88 = .ok (.iconst 5, 1) := by decide +kernel
theorem dX7_count_89 : decode cX7_count 89 = .ok (.iaload, 1) := by decide +kernel
theorem dX7_count_90 : decode cX7_count 90 = .ok (.ireturn, 1) := by decide +kernel
theorem dX7_count_91 : decode cX7_count 91 = .ok (.iconst (-1), 1) := by decide +kernel
theorem dX7_count_92 : decode cX7_count 92 = .ok (.ireturn, 1) := by decide +kernel
end
section
theorem dJ11_isValidCodePoint_9a6ad_0 : decode cJ11_isValidCodePoint_9a6ad 0 = .ok (.iload_n 0, 1) := by decide +kernel
theorem dJ11_isValidCodePoint_9a6ad_1 : decode cJ11_isValidCodePoint_9a6ad 1 = .ok (.bipush 16, 2) := by decide +kernel
theorem dJ11_isValidCodePoint_9a6ad_3 : decode cJ11_isValidCodePoint_9a6ad 3 = .ok (.iushr, 1) := by decide +kernel
theorem dJ11_isValidCodePoint_9a6ad_4 : decode cJ11_isValidCodePoint_9a6ad 4 = .ok (.istore_n 1, 1) := by decide +kernel
theorem dJ11_isValidCodePoint_9a6ad_5 : decode cJ11_isValidCodePoint_9a6ad 5 = .ok (.iload_n 1, 1) := by decide +kernel
theorem dJ11_isValidCodePoint_9a6ad_6 : decode cJ11_isValidCodePoint_9a6ad 6 = .ok (.bipush 17, 2) := by decide +kernel
theorem dJ11_isValidCodePoint_9a6ad_8 : decode cJ11_isValidCodePoint_9a6ad 8 = .ok (.if_icmp .ge 7, 3) := by decide +kernel
theorem dJ11_isValidCodePoint_9a6ad_11 : decode cJ11_isValidCodePoint_9a6ad 11 = .ok (.iconst 1, 1) := by decide +kernel
theorem dJ11_isValidCodePoint_9a6ad_12 : decode cJ11_isValidCodePoint_9a6ad 12 = .ok (.goto 4, 3) := by decide +kernel
theorem dJ11_isValidCodePoint_9a6ad_15 : decode cJ11_isValidCodePoint_9a6ad 15 = .ok (.iconst 0, 1) := by decide +kernel
theorem dJ11_isValidCodePoint_9a6ad_16 : decode cJ11_isValidCodePoint_9a6ad 16 = .ok (.ireturn, 1) := by decide +kernel
theorem dJ11_highSurrogate_5068e_0 : decode cJ11_highSurrogate_5068e 0 = .ok (.iload_n 0, 1) := by decide +kernel
theorem dJ11_highSurrogate_5068e_1 : decode cJ11_highSurrogate_5068e 1 = .ok (.bipush 10, 2) := by decide +kernel
theorem dJ11_highSurrogate_5068e_3 : decode cJ11_highSurrogate_5068e 3 = .ok (.iushr, 1) := by decide +kernel
theorem dJ11_highSurrogate_5068e_4 : decode cJ11_highSurrogate_5068e 4 = .ok (.ldc 110, 2) := by decide +kernel
theorem dJ11_highSurrogate_5068e_6 : decode cJ11_highSurrogate_5068e 6 = .ok (.iadd, 1) := by decide +kernel
theorem dJ11_highSurrogate_5068e_7 : decode cJ11_highSurrogate_5068e 7 = .ok (.i2c, 1) := by decide +kernel
theorem dJ11_highSurrogate_5068e_8 : decode cJ11_highSurrogate_5068e 8 = .ok (.ireturn, 1) := by decide +kernel
theorem dJ11_lowSurrogate_5068e_0 : decode cJ11_lowSurrogate_5068e 0 = .ok (.iload_n 0, 1) := by decide +kernel
theorem dJ11_lowSurrogate_5068e_1 : decode cJ11_lowSurrogate_5068e 1 = .ok (.sipush 1023, 3) := by decide +kernel
theorem dJ11_lowSurrogate_5068e_4 : decode cJ11_lowSurrogate_5068e 4 = .ok (.iand, 1) := by decide +kernel
theorem dJ11_lowSurrogate_5068e_5 : decode cJ11_lowSurrogate_5068e 5 = .ok (.ldc 76, 2) := by decide +kernel
theorem dJ11_lowSurrogate_5068e_7 : decode cJ11_lowSurrogate_5068e 7 = .ok (.iadd, 1) := by decide +kernel
theorem dJ11_lowSurrogate_5068e_8 : decode cJ11_lowSurrogate_5068e 8 = .ok (.i2c, 1) := by decide +kernel
theorem dJ11_lowSurrogate_5068e_9 : decode cJ11_lowSurrogate_5068e 9 = .ok (.ireturn, 1) := by decide +kernel
theorem dJ9_abs_0f7a4_0 : decode cJ9_abs_0f7a4 0 = .ok (.iload_n 0, 1) := by decide +kernel
theorem dJ9_abs_0f7a4_1 : decode cJ9_abs_0f7a4 1 = .ok (.ifCond .ge 8, 3) := by decide +kernel
theorem dJ9_abs_0f7a4_4 : decode cJ9_abs_0f7a4 4 = .ok (.iload_n 0, 1) := by decide +kernel
theorem dJ9_abs_0f7a4_5 : decode cJ9_abs_0f7a4 5 = .ok (.ineg, 1) := by decide +kernel
theorem dJ9_abs_0f7a4_6 : decode cJ9_abs_0f7a4 6 = .ok (.goto 4, 3) := by decide +kernel
theorem dJ9_abs_0f7a4_9 : decode cJ9_abs_0f7a4 9 = .ok (.iload_n 0, 1) := by decide +kernel
theorem dJ9_abs_0f7a4_10 : decode cJ9_abs_0f7a4 10 = .ok (.ireturn, 1) := by decide +kernel
theorem dJ9_max_7cf53_0 : decode cJ9_max_7cf53 0 = .ok (.iload_n 0, 1) := by decide +kernel
theorem dJ9_max_7cf53_1 : decode cJ9_max_7cf53 1 = .ok (.iload_n 1, 1) := by decide +kernel
theorem dJ9_max_7cf53_2 : decode cJ9_max_7cf53 2 = .ok (.if_icmp .lt 7, 3) := by decide +kernel
theorem dJ9_max_7cf53_5 : decode cJ9_max_7cf53 5 = .ok (.iload_n 0, 1) := by decide +kernel
theorem dJ9_max_7cf53_6 : decode cJ9_max_7cf53 6 = .ok (.goto 4, 3) := by decide +kernel
theorem dJ9_max_7cf53_9 : decode cJ9_max_7cf53 9 = .ok (.iload_n 1, 1) := by decide +kernel
theorem dJ9_max_7cf53_10 : decode cJ9_max_7cf53 10 = .ok (.ireturn, 1) := by decide +kernel
theorem dJ9_min_7cf53_0 : decode cJ9_min_7cf53 0 = .ok (.iload_n 0, 1) := by decide +kernel
theorem dJ9_min_7cf53_1 : decode cJ9_min_7cf53 1 = .ok (.iload_n 1, 1) := by decide +kernel
theorem dJ9_min_7cf53_2 : decode cJ9_min_7cf53 2 = .ok (.if_icmp .gt 7, 3) := by decide +kernel
theorem dJ9_min_7cf53_5 : decode cJ9_min_7cf53 5 = .ok (.iload_n 0, 1) := by decide +kernel
theorem dJ9_min_7cf53_6 : decode cJ9_min_7cf53 6 = .ok (.goto 4, 3) := by decide +kernel
theorem dJ9_min_7cf53_9 : decode cJ9_min_7cf53 9 = .ok (.iload_n 1, 1) := by decide +kernel
theorem dJ9_min_7cf53_10 : decode cJ9_min_7cf53 10 = .ok (.ireturn, 1) := by decide +kernel
theorem dJ0_length_8abf5_0 : decode cJ0_length_8abf5 0 = .ok (.aload_n 0, 1) := by decide +kernel
theorem dJ0_length_8abf5_1 : decode cJ0_length_8abf5 1 = .ok (.getfield 9, 3) := by decide +kernel
theorem dJ0_length_8abf5_4 : decode cJ0_length_8abf5 4 = .ok (.arraylength, 1) := by decide +kernel
theorem dJ0_length_8abf5_5 : decode cJ0_length_8abf5 5 = .ok (.aload_n 0, 1) := by decide +kernel
theorem dJ0_length_8abf5_6 : decode cJ0_length_8abf5 6 = .ok (.invokevirtual 335, 3) := by decide +kernel
theorem dJ0_length_8abf5_9 : decode cJ0_length_8abf5 9 = .ok (.ishr, 1) := by decide +kernel
theorem dJ0_length_8abf5_10 : decode cJ0_length_8abf5 10 = .ok (.ireturn, 1) := by decide +kernel
theorem dJ0_charAt_5068e_0 : decode cJ0_charAt_5068e 0 = .ok (.aload_n 0, 1) := by decide +kernel
theorem dJ0_charAt_5068e_1 : decode cJ0_charAt_5068e 1 = .ok (.invokevirtual 492, 3) := by decide +kernel
theorem dJ0_charAt_5068e_4 : decode cJ0_charAt_5068e 4 = .ok (.ifCond .eq 12, 3) := by decide +kernel
theorem dJ0_charAt_5068e_7 : decode cJ0_charAt_5068e 7 = .ok (.aload_n 0, 1) := by decide +kernel
theorem dJ0_charAt_5068e_8 : decode cJ0_charAt_5068e 8 = .ok (.getfield 9, 3) := by decide +kernel
theorem dJ0_charAt_5068e_11 : decode cJ0_charAt_5068e 11 = .ok (.iload_n 1, 1) := by decide +kernel
theorem dJ0_charAt_5068e_12 : decode cJ0_charAt_5068e 12 = .ok (.invokestatic 495, 3) := by decide +kernel
theorem dJ0_charAt_5068e_15 : decode cJ0_charAt_5068e 15 = .ok (.ireturn, 1) := by decide +kernel
theorem dJ0_charAt_5068e_16 : decode cJ0_charAt_5068e 16 = .ok (.aload_n 0, 1) := by decide +kernel
theorem dJ0_charAt_5068e_17 : decode cJ0_charAt_5068e 17 = .ok (.getfield 9, 3) := by decide +kernel
theorem dJ0_charAt_5068e_20 : decode cJ0_charAt_5068e 20 = .ok (.iload_n 1, 1) := by decide +kernel
theorem dJ0_charAt_5068e_21 : decode cJ0_charAt_5068e 21 = .ok (.invokestatic 498, 3) := by decide +kernel
theorem dJ0_charAt_5068e_24 : decode cJ0_charAt_5068e 24 = .ok (.ireturn, 1) := by decide +kernel
theorem dJ0_indexOf_0f7a4_0 : decode cJ0_indexOf_0f7a4 0 = .ok (.aload_n 0, 1) := by decide +kernel
theorem dJ0_indexOf_0f7a4_1 : decode cJ0_indexOf_0f7a4 1 = .ok (.iload_n 1, 1) := by decide +kernel
theorem dJ0_indexOf_0f7a4_2 : decode cJ0_indexOf_0f7a4 2 = .ok (.iconst 0, 1) := by decide +kernel
theorem dJ0_indexOf_0f7a4_3 : decode cJ0_indexOf_0f7a4 3 = .ok (.invokevirtual 633, 3) := by decide +kernel
theorem dJ0_indexOf_0f7a4_6 : decode cJ0_indexOf_0f7a4 6 = .ok (.ireturn, 1) := by decide +kernel
theorem dJ0_indexOf_7cf53_0 : decode cJ0_indexOf_7cf53 0 = .ok (.aload_n 0, 1) := by decide +kernel
theorem dJ0_indexOf_7cf53_1 : decode cJ0_indexOf_7cf53 1 = .ok (.invokevirtual 492, 3) := by decide +kernel
theorem dJ0_indexOf_7cf53_4 : decode cJ0_indexOf_7cf53 4 = .ok (.ifCond .eq 19, 3) := by decide +kernel
theorem dJ0_indexOf_7cf53_7 : decode cJ0_indexOf_7cf53 7 = .ok (.aload_n 0, 1) := by decide +kernel
theorem dJ0_indexOf_7cf53_8 : decode cJ0_indexOf_7cf53 8 = .ok (.getfield 9, 3) := by decide +kernel
theorem dJ0_indexOf_7cf53_11 : decode cJ0_indexOf_7cf53 11 = .ok (.iload_n 1, 1) := by decide +kernel
theorem dJ0_indexOf_7cf53_12 : decode cJ0_indexOf_7cf53 12 = .ok (.iload_n 2, 1) := by decide +kernel
theorem dJ0_indexOf_7cf53_13 : decode cJ0_indexOf_7cf53 13 = .ok (.aload_n 0, 1) := by decide +kernel
theorem dJ0_indexOf_7cf53_14 : decode cJ0_indexOf_7cf53 14 = .ok (.invokevirtual 505, 3) := by decide +kernel
theorem dJ0_indexOf_7cf53_17 : decode cJ0_indexOf_7cf53 17 = .ok (.invokestatic 637, 3) := by decide +kernel
theorem dJ0_indexOf_7cf53_20 : decode cJ0_indexOf_7cf53 20 = .ok (.goto 16, 3) := by decide +kernel
theorem dJ0_indexOf_7cf53_23 : decode cJ0_indexOf_7cf53 23 = .ok (.aload_n 0, 1) := by decide +kernel
theorem dJ0_indexOf_7cf53_24 : decode cJ0_indexOf_7cf53 24 = .ok (.getfield 9, 3) := by decide +kernel
theorem dJ0_indexOf_7cf53_27 : decode cJ0_indexOf_7cf53 27 = .ok (.iload_n 1, 1) := by decide +kernel
theorem dJ0_indexOf_7cf53_28 : decode cJ0_indexOf_7cf53 28 = .ok (.iload_n 2, 1) := by decide +kernel
theorem dJ0_indexOf_7cf53_29 : decode cJ0_indexOf_7cf53 29 = .ok (.aload_n 0, 1) := by decide +kernel
theorem dJ0_indexOf_7cf53_30 : decode cJ0_indexOf_7cf53 30 = .ok (.invokevirtual 505, 3) := by decide +kernel
theorem dJ0_indexOf_7cf53_33 : decode cJ0_indexOf_7cf53 33 = .ok (.invokestatic 640, 3) := by decide +kernel
theorem dJ0_indexOf_7cf53_36 : decode cJ0_indexOf_7cf53 36 = .ok (.ireturn, 1) := by decide +kernel
theorem dJ0_coder_7d493_0 : decode cJ0_coder_7d493 0 = .ok (.getstatic 38, 3) := by decide +kernel
theorem dJ0_coder_7d493_3 : decode cJ0_coder_7d493 3 = .ok (.ifCond .eq 10, 3) := by decide +kernel
theorem dJ0_coder_7d493_6 : decode cJ0_coder_7d493 6 = .ok (.aload_n 0, 1) := by decide +kernel
theorem dJ0_coder_7d493_7 : decode cJ0_coder_7d493 7 = .ok (.getfield 15, 3) := by decide +kernel
theorem dJ0_coder_7d493_10 : decode cJ0_coder_7d493 10 = .ok (.goto 4, 3) := by decide +kernel
theorem dJ0_coder_7d493_13 : decode cJ0_coder_7d493 13 = .ok (.iconst 1, 1) := by decide +kernel
theorem dJ0_coder_7d493_14 : decode cJ0_coder_7d493 14 = .ok (.ireturn, 1) := by decide +kernel
theorem dJ0_isLatin1_aae02_0 : decode cJ0_isLatin1_aae02 0 = .ok (.getstatic 38, 3) := by decide +kernel
theorem dJ0_isLatin1_aae02_3 : decode cJ0_isLatin1_aae02 3 = .ok (.ifCond .eq 14, 3) := by decide +kernel
theorem dJ0_isLatin1_aae02_6 : decode cJ0_isLatin1_aae02 6 = .ok (.aload_n 0, 1) := by decide +kernel
theorem dJ0_isLatin1_aae02_7 : decode cJ0_isLatin1_aae02 7 = .ok (.getfield 15, 3) := by decide +kernel
theorem dJ0_isLatin1_aae02_10 : decode cJ0_isLatin1_aae02 10 = .ok (.ifCond .ne 7, 3) := by decide +kernel
theorem dJ0_isLatin1_aae02_13 : decode cJ0_isLatin1_aae02 13 = .ok (.iconst 1, 1) := by decide +kernel
theorem dJ0_isLatin1_aae02_14 : decode cJ0_isLatin1_aae02 14 = .ok (.goto 4, 3) := by decide +kernel
theorem dJ0_isLatin1_aae02_17 : decode cJ0_isLatin1_aae02 17 = .ok (.iconst 0, 1) := by decide +kernel
theorem dJ0_isLatin1_aae02_18 : decode cJ0_isLatin1_aae02 18 = .ok (.ireturn, 1) := by decide +kernel
theorem dJ0_checkIndex_df160_0 : decode cJ0_checkIndex_df160 0 = .ok (.iload_n 0, 1) := by decide +kernel
theorem dJ0_checkIndex_df160_1 : decode cJ0_checkIndex_df160 1 = .ok (.iload_n 1, 1) := by decide +kernel
theorem dJ0_checkIndex_df160_2 : decode cJ0_checkIndex_df160 2 = .ok (.getstatic 1053, 3) := by decide +kernel
theorem dJ0_checkIndex_df160_5 : decode cJ0_checkIndex_df160 5 = .ok (.invokestatic 1059, 3) := by decide +kernel
theorem dJ0_checkIndex_df160_8 : decode cJ0_checkIndex_df160 8 = .ok (.pop, 1) := by decide +kernel
theorem dJ0_checkIndex_df160_9 : decode cJ0_checkIndex_df160 9 = .ok (.return_, 1) := by decide +kernel
theorem dJ0_checkBoundsBeginEnd_23922_0 : decode cJ0_checkBoundsBeginEnd_23922 0 = .ok (.iload_n 0, 1) := by decide +kernel
theorem dJ0_checkBoundsBeginEnd_23922_1 : decode cJ0_checkBoundsBeginEnd_23922 1 = .ok (.iload_n 1, 1) := by decide +kernel
theorem dJ0_checkBoundsBeginEnd_23922_2 : decode cJ0_checkBoundsBeginEnd_23922 2 = .ok (.iload_n 2, 1) := by decide +kernel
theorem dJ0_checkBoundsBeginEnd_23922_3 : decode cJ0_checkBoundsBeginEnd_23922 3 = .ok (.getstatic 1053, 3) := by decide +kernel
theorem dJ0_checkBoundsBeginEnd_23922_6 : decode cJ0_checkBoundsBeginEnd_23922 6 = .ok (.invokestatic 1062, 3) := by decide +kernel
theorem dJ0_checkBoundsBeginEnd_23922_9 : decode cJ0_checkBoundsBeginEnd_23922 9 = .ok (.pop, 1) := by decide +kernel
theorem dJ0_checkBoundsBeginEnd_23922_10 : decode cJ0_checkBoundsBeginEnd_23922 10 = .ok (.return_, 1) := by decide +kernel
theorem dJ1_charAt_3b067_0 : decode cJ1_charAt_3b067 0 = .ok (.iload_n 1, 1) := by decide +kernel
theorem dJ1_charAt_3b067_1 : decode cJ1_charAt_3b067 1 = .ok (.aload_n 0, 1) := by decide +kernel
theorem dJ1_charAt_3b067_2 : decode cJ1_charAt_3b067 2 = .ok (.arraylength, 1) := by decide +kernel
theorem dJ1_charAt_3b067_3 : decode cJ1_charAt_3b067 3 = .ok (.invokestatic 9, 3) := by decide +kernel
theorem dJ1_charAt_3b067_6 : decode cJ1_charAt_3b067 6 = .ok (.aload_n 0, 1) := by decide +kernel
theorem dJ1_charAt_3b067_7 : decode cJ1_charAt_3b067 7 = .ok (.iload_n 1, 1) := by decide +kernel
theorem dJ1_charAt_3b067_8 : decode cJ1_charAt_3b067 8 = .ok (.baload, 1) := by decide +kernel
theorem dJ1_charAt_3b067_9 : decode cJ1_charAt_3b067 9 = .ok (.sipush 255, 3) := by decide +kernel
theorem dJ1_charAt_3b067_12 : decode cJ1_charAt_3b067 12 = .ok (.iand, 1) := by decide +kernel
theorem dJ1_charAt_3b067_13 : decode cJ1_charAt_3b067 13 = .ok (.i2c, 1) := by decide +kernel
theorem dJ1_charAt_3b067_14 : decode cJ1_charAt_3b067 14 = .ok (.ireturn, 1) := by decide +kernel
theorem dJ1_canEncode_9a6ad_0 : decode cJ1_canEncode_9a6ad 0 = .ok (.iload_n 0, 1) := by decide +kernel
theorem dJ1_canEncode_9a6ad_1 : decode cJ1_canEncode_9a6ad 1 = .ok (.ifCond .lt 14, 3) := by decide +kernel
theorem dJ1_canEncode_9a6ad_4 : decode cJ1_canEncode_9a6ad 4 = .ok (.iload_n 0, 1) := by decide +kernel
theorem dJ1_canEncode_9a6ad_5 : decode cJ1_canEncode_9a6ad 5 = .ok (.sipush 255, 3) := by decide +kernel
theorem dJ1_canEncode_9a6ad_8 : decode cJ1_canEncode_9a6ad 8 = .ok (.if_icmp .gt 7, 3) := by decide +kernel
theorem dJ1_canEncode_9a6ad_11 : decode cJ1_canEncode_9a6ad 11 = .ok (.iconst 1, 1) := by decide +kernel
theorem dJ1_canEncode_9a6ad_12 : decode cJ1_canEncode_9a6ad 12 = .ok (.goto 4, 3) := by decide +kernel
theorem dJ1_canEncode_9a6ad_15 : decode cJ1_canEncode_9a6ad 15 = .ok (.iconst 0, 1) := by decide +kernel
theorem dJ1_canEncode_9a6ad_16 : decode cJ1_canEncode_9a6ad 16 = .ok (.ireturn, 1) := by decide +kernel
theorem dJ1_indexOf_4cfef_0 : decode cJ1_indexOf_4cfef 0 = .ok (.iload_n 1, 1) := by decide +kernel
theorem dJ1_indexOf_4cfef_1 : decode cJ1_indexOf_4cfef 1 = .ok (.invokestatic 88, 3) := by decide +kernel
theorem dJ1_indexOf_4cfef_4 : decode cJ1_indexOf_4cfef 4 = .ok (.ifCond .ne 5, 3) := by decide +kernel
theorem dJ1_indexOf_4cfef_7 : decode cJ1_indexOf_4cfef 7 = .ok (.iconst (-1), 1) := by decide +kernel
theorem dJ1_indexOf_4cfef_8 : decode cJ1_indexOf_4cfef 8 = .ok (.ireturn, 1) := by decide +kernel
theorem dJ1_indexOf_4cfef_9 : decode cJ1_indexOf_4cfef 9 = .ok (.iload_n 2, 1) := by decide +kernel
theorem dJ1_indexOf_4cfef_10 : decode cJ1_indexOf_4cfef 10 = .ok (.iconst 0, 1) := by decide +kernel
theorem dJ1_indexOf_4cfef_11 : decode cJ1_indexOf_4cfef 11 = .ok (.invokestatic 92, 3) := by decide +kernel
theorem dJ1_indexOf_4cfef_14 : decode cJ1_indexOf_4cfef 14 = .ok (.istore_n 2, 1) := by decide +kernel
theorem dJ1_indexOf_4cfef_15 : decode cJ1_indexOf_4cfef 15 = .ok (.iload_n 3, 1) := by decide +kernel
theorem dJ1_indexOf_4cfef_16 : decode cJ1_indexOf_4cfef 16 = .ok (.aload_n 0, 1) := by decide +kernel
theorem dJ1_indexOf_4cfef_17 : decode cJ1_indexOf_4cfef 17 = .ok (.arraylength, 1) := by decide +kernel
theorem dJ1_indexOf_4cfef_18 : decode cJ1_indexOf_4cfef 18 = .ok (.invokestatic 38, 3) := by decide +kernel
theorem dJ1_indexOf_4cfef_21 : decode cJ1_indexOf_4cfef 21 = .ok (.istore_n 3, 1) := by decide +kernel
theorem dJ1_indexOf_4cfef_22 : decode cJ1_indexOf_4cfef 22 = .ok (.iload_n 2, 1) := by decide +kernel
theorem dJ1_indexOf_4cfef_23 : decode cJ1_indexOf_4cfef 23 = .ok (.iload_n 3, 1) := by decide +kernel
theorem dJ1_indexOf_4cfef_24 : decode cJ1_indexOf_4cfef 24 = .ok (.if_icmp .lt 5, 3) := by decide +kernel
theorem dJ1_indexOf_4cfef_27 : decode cJ1_indexOf_4cfef 27 = .ok (.iconst (-1), 1) := by decide +kernel
theorem dJ1_indexOf_4cfef_28 : decode cJ1_indexOf_4cfef 28 = .ok (.ireturn, 1) := by decide +kernel
theorem dJ1_indexOf_4cfef_29 : decode cJ1_indexOf_4cfef 29 = .ok (.aload_n 0, 1) := by decide +kernel
theorem dJ1_indexOf_4cfef_30 : decode cJ1_indexOf_4cfef 30 = .ok (.iload_n 1, 1) := by decide +kernel
theorem dJ1_indexOf_4cfef_31 : decode cJ1_indexOf_4cfef 31 = .ok (.iload_n 2, 1) := by decide +kernel
theorem dJ1_indexOf_4cfef_32 : decode cJ1_indexOf_4cfef 32 = .ok (.iload_n 3, 1) := by decide +kernel
theorem dJ1_indexOf_4cfef_33 : decode cJ1_indexOf_4cfef 33 = .ok (.invokestatic 95, 3) := by decide +kernel
theorem dJ1_indexOf_4cfef_36 : decode cJ1_indexOf_4cfef 36 = .ok (.ireturn, 1) := by decide +kernel
theorem dJ1_indexOfChar_4cfef_0 : decode cJ1_indexOfChar_4cfef 0 = .ok (.iload_n 1, 1) := by decide +kernel
theorem dJ1_indexOfChar_4cfef_1 : decode cJ1_indexOfChar_4cfef 1 = .ok (.i2b, 1) := by decide +kernel
theorem dJ1_indexOfChar_4cfef_2 : decode cJ1_indexOfChar_4cfef 2 = .ok (.istore 4, 2) := by decide +kernel
theorem dJ1_indexOfChar_4cfef_4 : decode cJ1_indexOfChar_4cfef 4 = .ok (.iload_n 2, 1) := by decide +kernel
theorem dJ1_indexOfChar_4cfef_5 : decode cJ1_indexOfChar_4cfef 5 = .ok (.istore 5, 2) := by decide +kernel
theorem dJ1_indexOfChar_4cfef_7 : decode cJ1_indexOfChar_4cfef 7 = .ok (.iload 5, 2) := by decide +kernel
theorem dJ1_indexOfChar_4cfef_9 : decode cJ1_indexOfChar_4cfef 9 = .ok (.iload_n 3, 1) := by decide +kernel
theorem dJ1_indexOfChar_4cfef_10 : decode cJ1_indexOfChar_4cfef 10 = .ok (.if_icmp .ge 21, 3) := by decide +kernel
theorem dJ1_indexOfChar_4cfef_13 : decode cJ1_indexOfChar_4cfef 13 = .ok (.aload_n 0, 1) := by decide +kernel
theorem dJ1_indexOfChar_4cfef_14 : decode cJ1_indexOfChar_4cfef 14 = .ok (.iload 5, 2) := by decide +kernel
theorem dJ1_indexOfChar_4cfef_16 : decode cJ1_indexOfChar_4cfef 16 = .ok (.baload, 1) := by decide +kernel
theorem dJ1_indexOfChar_4cfef_17 : decode cJ1_indexOfChar_4cfef 17 = .ok (.iload 4, 2) := by decide +kernel
theorem dJ1_indexOfChar_4cfef_19 : decode cJ1_indexOfChar_4cfef 19 = .ok (.if_icmp .ne 6, 3) := by decide +kernel
theorem dJ1_indexOfChar_4cfef_22 : decode cJ1_indexOfChar_4cfef 22 = .ok (.iload 5, 2) := by decide +kernel
theorem dJ1_indexOfChar_4cfef_24 : decode cJ1_indexOfChar_4cfef 24 = .ok (.ireturn, 1) := by decide +kernel
theorem dJ1_indexOfChar_4cfef_25 : decode cJ1_indexOfChar_4cfef 25 = .ok (.iinc 5 1, 3) := by decide +kernel
theorem dJ1_indexOfChar_4cfef_28 : decode cJ1_indexOfChar_4cfef 28 = .ok (.goto (-21), 3) := by decide +kernel
theorem dJ1_indexOfChar_4cfef_31 : decode cJ1_indexOfChar_4cfef 31 = .ok (.iconst (-1), 1) := by decide +kernel
theorem dJ1_indexOfChar_4cfef_32 : decode cJ1_indexOfChar_4cfef 32 = .ok (.ireturn, 1) := by decide +kernel
theorem dJ2_getChar_3b067_0 : decode cJ2_getChar_3b067 0 = .ok (.getstatic 44, 3) := by decide +kernel
theorem dJ2_getChar_3b067_3 : decode cJ2_getChar_3b067 3 = .ok (.ifCond .ne 25, 3) := by decide +kernel
theorem dJ2_getChar_3b067_6 : decode cJ2_getChar_3b067 6 = .ok (.iload_n 1, 1) := by decide +kernel
theorem dJ2_getChar_3b067_7 : decode cJ2_getChar_3b067 7 = .ok (.ifCond .lt 11, 3) := by decide +kernel
theorem dJ2_getChar_3b067_10 : decode cJ2_getChar_3b067 10 = .ok (.iload_n 1, 1) := by decide +kernel
theorem dJ2_getChar_3b067_11 : decode cJ2_getChar_3b067 11 = .ok (.aload_n 0, 1) := by decide +kernel
theorem dJ2_getChar_3b067_12 : decode cJ2_getChar_3b067 12 = .ok (.invokestatic 48, 3) := by decide +kernel
theorem dJ2_getChar_3b067_15 : decode cJ2_getChar_3b067 15 = .ok (.if_icmp .lt 13, 3) := by decide +kernel
theorem dJ2_getChar_3b067_18 : decode cJ2_getChar_3b067 18 = .ok (.new 52, 3) := by decide +kernel
theorem dJ2_getChar_3b067_21 : decode cJ2_getChar_3b067 21 = .ok (.dup, 1) := by decide +kernel
theorem dJ2_getChar_3b067_22 : decode cJ2_getChar_3b067 22 = .ok (.ldc 54, 2) := by decide +kernel
theorem dJ2_getChar_3b067_24 : decode cJ2_getChar_3b067 24 = .ok (.invokespecial 56, 3) := by decide +kernel
theorem dJ2_getChar_3b067_27 : decode cJ2_getChar_3b067 27 = .ok (.athrow, 1) := by decide +kernel
theorem dJ2_getChar_3b067_28 : decode cJ2_getChar_3b067 28 = .ok (.iload_n 1, 1) := by decide +kernel
theorem dJ2_getChar_3b067_29 : decode cJ2_getChar_3b067 29 = .ok (.iconst 1, 1) := by decide +kernel
theorem dJ2_getChar_3b067_30 : decode cJ2_getChar_3b067 30 = .ok (.ishl, 1) := by decide +kernel
theorem dJ2_getChar_3b067_31 : decode cJ2_getChar_3b067 31 = .ok (.istore_n 1, 1) := by decide +kernel
theorem dJ2_getChar_3b067_32 : decode cJ2_getChar_3b067 32 = .ok (.aload_n 0, 1) := by decide +kernel
theorem dJ2_getChar_3b067_33 : decode cJ2_getChar_3b067 33 = .ok (.iload_n 1, 1) := by decide +kernel
theorem dJ2_getChar_3b067_34 : decode cJ2_getChar_3b067 34 = .ok (.iinc 1 1, 3) := by decide +kernel
theorem dJ2_getChar_3b067_37 : decode cJ2_getChar_3b067 37 = .ok (.baload, 1) := by decide +kernel
theorem dJ2_getChar_3b067_38 : decode cJ2_getChar_3b067 38 = .ok (.sipush 255, 3) := by decide +kernel
theorem dJ2_getChar_3b067_41 : decode cJ2_getChar_3b067 41 = .ok (.iand, 1) := by decide +kernel
theorem dJ2_getChar_3b067_42 : decode cJ2_getChar_3b067 42 = .ok (.getstatic 59, 3) := by decide +kernel
theorem dJ2_getChar_3b067_45 : decode cJ2_getChar_3b067 45 = .ok (.ishl, 1) := by decide +kernel
theorem dJ2_getChar_3b067_46 : decode cJ2_getChar_3b067 46 = .ok (.aload_n 0, 1) := by decide +kernel
theorem dJ2_getChar_3b067_47 : decode cJ2_getChar_3b067 47 = .ok (.iload_n 1, 1) := by decide +kernel
theorem dJ2_getChar_3b067_48 : decode cJ2_getChar_3b067 48 = .ok (.baload, 1) := by decide +kernel
theorem dJ2_getChar_3b067_49 : decode cJ2_getChar_3b067 49 = .ok (.sipush 255, 3) := by decide +kernel
theorem dJ2_getChar_3b067_52 : decode cJ2_getChar_3b067 52 = .ok (.iand, 1) := by decide +kernel
theorem dJ2_getChar_3b067_53 : decode cJ2_getChar_3b067 53 = .ok (.getstatic 63, 3) := by decide +kernel
theorem dJ2_getChar_3b067_56 : decode cJ2_getChar_3b067 56 = .ok (.ishl, 1) := by decide +kernel
theorem dJ2_getChar_3b067_57 : decode cJ2_getChar_3b067 57 = .ok (.ior, 1) := by decide +kernel
theorem dJ2_getChar_3b067_58 : decode cJ2_getChar_3b067 58 = .ok (.i2c, 1) := by decide +kernel
theorem dJ2_getChar_3b067_59 : decode cJ2_getChar_3b067 59 = .ok (.ireturn, 1) := by decide +kernel
theorem dJ2_length_9d52b_0 : decode cJ2_length_9d52b 0 = .ok (.aload_n 0, 1) := by decide +kernel
theorem dJ2_length_9d52b_1 : decode cJ2_length_9d52b 1 = .ok (.arraylength, 1) := by decide +kernel
theorem dJ2_length_9d52b_2 : decode cJ2_length_9d52b 2 = .ok (.iconst 1, 1) := by decide +kernel
theorem dJ2_length_9d52b_3 : decode cJ2_length_9d52b 3 = .ok (.ishr, 1) := by decide +kernel
theorem dJ2_length_9d52b_4 : decode cJ2_length_9d52b 4 = .ok (.ireturn, 1) := by decide +kernel
theorem dJ2_indexOf_4cfef_0 : decode cJ2_indexOf_4cfef 0 = .ok (.iload_n 2, 1) := by decide +kernel
theorem dJ2_indexOf_4cfef_1 : decode cJ2_indexOf_4cfef 1 = .ok (.iconst 0, 1) := by decide +kernel
theorem dJ2_indexOf_4cfef_2 : decode cJ2_indexOf_4cfef 2 = .ok (.invokestatic 224, 3) := by decide +kernel
theorem dJ2_indexOf_4cfef_5 : decode cJ2_indexOf_4cfef 5 = .ok (.istore_n 2, 1) := by decide +kernel
theorem dJ2_indexOf_4cfef_6 : decode cJ2_indexOf_4cfef 6 = .ok (.iload_n 3, 1) := by decide +kernel
theorem dJ2_indexOf_4cfef_7 : decode cJ2_indexOf_4cfef 7 = .ok (.aload_n 0, 1) := by decide +kernel
theorem dJ2_indexOf_4cfef_8 : decode cJ2_indexOf_4cfef 8 = .ok (.arraylength, 1) := by decide +kernel
theorem dJ2_indexOf_4cfef_9 : decode cJ2_indexOf_4cfef 9 = .ok (.iconst 1, 1) := by decide +kernel
theorem dJ2_indexOf_4cfef_10 : decode cJ2_indexOf_4cfef 10 = .ok (.ishr, 1) := by decide +kernel
theorem dJ2_indexOf_4cfef_11 : decode cJ2_indexOf_4cfef 11 = .ok (.invokestatic 183, 3) := by decide +kernel
theorem dJ2_indexOf_4cfef_14 : decode cJ2_indexOf_4cfef 14 = .ok (.istore_n 3, 1) := by decide +kernel
theorem dJ2_indexOf_4cfef_15 : decode cJ2_indexOf_4cfef 15 = .ok (.iload_n 2, 1) := by decide +kernel
theorem dJ2_indexOf_4cfef_16 : decode cJ2_indexOf_4cfef 16 = .ok (.iload_n 3, 1) := by decide +kernel
theorem dJ2_indexOf_4cfef_17 : decode cJ2_indexOf_4cfef 17 = .ok (.if_icmp .lt 5, 3) := by decide +kernel
theorem dJ2_indexOf_4cfef_20 : decode cJ2_indexOf_4cfef 20 = .ok (.iconst (-1), 1) := by decide +kernel
theorem dJ2_indexOf_4cfef_21 : decode cJ2_indexOf_4cfef 21 = .ok (.ireturn, 1) := by decide +kernel
theorem dJ2_indexOf_4cfef_22 : decode cJ2_indexOf_4cfef 22 = .ok (.iload_n 1, 1) := by decide +kernel
theorem dJ2_indexOf_4cfef_23 : decode cJ2_indexOf_4cfef 23 = .ok (.ldc 227, 2) := by decide +kernel
theorem dJ2_indexOf_4cfef_25 : decode cJ2_indexOf_4cfef 25 = .ok (.if_icmp .ge 11, 3) := by decide +kernel
theorem dJ2_indexOf_4cfef_28 : decode cJ2_indexOf_4cfef 28 = .ok (.aload_n 0, 1) := by decide +kernel
theorem dJ2_indexOf_4cfef_29 : decode cJ2_indexOf_4cfef 29 = .ok (.iload_n 1, 1) := by decide +kernel
theorem dJ2_indexOf_4cfef_30 : decode cJ2_indexOf_4cfef 30 = .ok (.iload_n 2, 1) := by decide +kernel
theorem dJ2_indexOf_4cfef_31 : decode cJ2_indexOf_4cfef 31 = .ok (.iload_n 3, 1) := by decide +kernel
theorem dJ2_indexOf_4cfef_32 : decode cJ2_indexOf_4cfef 32 = .ok (.invokestatic 228, 3) := by decide +kernel
theorem dJ2_indexOf_4cfef_35 : decode cJ2_indexOf_4cfef 35 = .ok (.ireturn, 1) := by decide +kernel
theorem dJ2_indexOf_4cfef_36 : decode cJ2_indexOf_4cfef 36 = .ok (.aload_n 0, 1) := by decide +kernel
theorem dJ2_indexOf_4cfef_37 : decode cJ2_indexOf_4cfef 37 = .ok (.iload_n 1, 1) := by decide +kernel
theorem dJ2_indexOf_4cfef_38 : decode cJ2_indexOf_4cfef 38 = .ok (.iload_n 2, 1) := by decide +kernel
theorem dJ2_indexOf_4cfef_39 : decode cJ2_indexOf_4cfef 39 = .ok (.iload_n 3, 1) := by decide +kernel
theorem dJ2_indexOf_4cfef_40 : decode cJ2_indexOf_4cfef 40 = .ok (.invokestatic 232, 3) := by decide +kernel
theorem dJ2_indexOf_4cfef_43 : decode cJ2_indexOf_4cfef 43 = .ok (.ireturn, 1) := by decide +kernel
theorem dJ2_indexOfChar_4cfef_0 : decode cJ2_indexOfChar_4cfef 0 = .ok (.iload_n 2, 1) := by decide +kernel
theorem dJ2_indexOfChar_4cfef_1 : decode cJ2_indexOfChar_4cfef 1 = .ok (.iload_n 3, 1) := by decide +kernel
theorem dJ2_indexOfChar_4cfef_2 : decode cJ2_indexOfChar_4cfef 2 = .ok (.aload_n 0, 1) := by decide +kernel
theorem dJ2_indexOfChar_4cfef_3 : decode cJ2_indexOfChar_4cfef 3 = .ok (.invokestatic 96, 3) := by decide +kernel
theorem dJ2_indexOfChar_4cfef_6 : decode cJ2_indexOfChar_4cfef 6 = .ok (.aload_n 0, 1) := by decide +kernel
theorem dJ2_indexOfChar_4cfef_7 : decode cJ2_indexOfChar_4cfef 7 = .ok (.iload_n 1, 1) := by decide +kernel
theorem dJ2_indexOfChar_4cfef_8 : decode cJ2_indexOfChar_4cfef 8 = .ok (.iload_n 2, 1) := by decide +kernel
theorem dJ2_indexOfChar_4cfef_9 : decode cJ2_indexOfChar_4cfef 9 = .ok (.iload_n 3, 1) := by decide +kernel
theorem dJ2_indexOfChar_4cfef_10 : decode cJ2_indexOfChar_4cfef 10 = .ok (.invokestatic 244, 3) := by decide +kernel
theorem dJ2_indexOfChar_4cfef_13 : decode cJ2_indexOfChar_4cfef 13 = .ok (.ireturn, 1) := by decide +kernel
theorem dJ2_indexOfCharUnsafe_4cfef_0 : decode cJ2_indexOfCharUnsafe_4cfef 0 = .ok (.iload_n 2, 1) := by decide +kernel
theorem dJ2_indexOfCharUnsafe_4cfef_1 : decode cJ2_indexOfCharUnsafe_4cfef 1 = .ok (.istore 4, 2) := by decide +kernel
theorem dJ2_indexOfCharUnsafe_4cfef_3 : decode cJ2_indexOfCharUnsafe_4cfef 3 = .ok (.iload 4, 2) := by decide +kernel
theorem dJ2_indexOfCharUnsafe_4cfef_5 : decode cJ2_indexOfCharUnsafe_4cfef 5 = .ok (.iload_n 3, 1) := by decide +kernel
theorem dJ2_indexOfCharUnsafe_4cfef_6 : decode cJ2_indexOfCharUnsafe_4cfef 6 = .ok (.if_icmp .ge 22, 3) := by decide +kernel
theorem dJ2_indexOfCharUnsafe_4cfef_9 : decode cJ2_indexOfCharUnsafe_4cfef 9 = .ok (.aload_n 0, 1) := by decide +kernel
theorem dJ2_indexOfCharUnsafe_4cfef_10 : decode cJ2_indexOfCharUnsafe_4cfef 10 = .ok (.iload 4, 2) := by decide +kernel
theorem dJ2_indexOfCharUnsafe_4cfef_12 : decode cJ2_indexOfCharUnsafe_4cfef 12 = .ok (.invokestatic 71, 3) := by decide +kernel
theorem dJ2_indexOfCharUnsafe_4cfef_15 : decode cJ2_indexOfCharUnsafe_4cfef 15 = .ok (.iload_n 1, 1) := by decide +kernel
theorem dJ2_indexOfCharUnsafe_4cfef_16 : decode cJ2_indexOfCharUnsafe_4cfef 16 = .ok (.if_icmp .ne 6, 3) := by decide +kernel
theorem dJ2_indexOfCharUnsafe_4cfef_19 : decode cJ2_indexOfCharUnsafe_4cfef 19 = .ok (.iload 4, 2) := by decide +kernel
theorem dJ2_indexOfCharUnsafe_4cfef_21 : decode cJ2_indexOfCharUnsafe_4cfef 21 = .ok (.ireturn, 1) := by decide +kernel
theorem dJ2_indexOfCharUnsafe_4cfef_22 : decode cJ2_indexOfCharUnsafe_4cfef 22 = .ok (.iinc 4 1, 3) := by decide +kernel
theorem dJ2_indexOfCharUnsafe_4cfef_25 : decode cJ2_indexOfCharUnsafe_4cfef 25 = .ok (.goto (-22), 3) := by decide +kernel
theorem dJ2_indexOfCharUnsafe_4cfef_28 : decode cJ2_indexOfCharUnsafe_4cfef 28 = .ok (.iconst (-1), 1) := by decide +kernel
theorem dJ2_indexOfCharUnsafe_4cfef_29 : decode cJ2_indexOfCharUnsafe_4cfef 29 = .ok (.ireturn, 1) := by decide +kernel
theorem dJ2_indexOfSupplementary_4cfef_0 : decode cJ2_indexOfSupplementary_4cfef 0 = .ok (.iload_n 1, 1) := by decide +kernel
theorem dJ2_indexOfSupplementary_4cfef_1 : decode cJ2_indexOfSupplementary_4cfef 1 = .ok (.invokestatic 164, 3) := by decide +kernel
theorem dJ2_indexOfSupplementary_4cfef_4 : decode cJ2_indexOfSupplementary_4cfef 4 = .ok (.ifCond .eq 65, 3) := by decide +kernel
theorem dJ2_indexOfSupplementary_4cfef_7 : decode cJ2_indexOfSupplementary_4cfef 7 = .ok (.iload_n 1, 1) := by decide +kernel
theorem dJ2_indexOfSupplementary_4cfef_8 : decode cJ2_indexOfSupplementary_4cfef 8 = .ok (.invokestatic 157, 3) := by decide +kernel
theorem dJ2_indexOfSupplementary_4cfef_11 : decode cJ2_indexOfSupplementary_4cfef 11 = .ok (.istore 4, 2) := by decide +kernel
theorem dJ2_indexOfSupplementary_4cfef_13 : decode cJ2_indexOfSupplementary_4cfef 13 = .ok (.iload_n 1, 1) := by decide +kernel
theorem dJ2_indexOfSupplementary_4cfef_14 : decode cJ2_indexOfSupplementary_4cfef 14 = .ok (.invokestatic 161, 3) := by decide +kernel
theorem dJ2_indexOfSupplementary_4cfef_17 : decode cJ2_indexOfSupplementary_4cfef 17 = .ok (.istore 5, 2) := by decide +kernel
theorem dJ2_indexOfSupplementary_4cfef_19 : decode cJ2_indexOfSupplementary_4cfef 19 = .ok (.iload_n 2, 1) := by decide +kernel
theorem dJ2_indexOfSupplementary_4cfef_20 : decode cJ2_indexOfSupplementary_4cfef 20 = .ok (.iload_n 3, 1) := by decide +kernel
theorem dJ2_indexOfSupplementary_4cfef_21 : decode cJ2_indexOfSupplementary_4cfef 21 = .ok (.aload_n 0, 1) := by decide +kernel
theorem dJ2_indexOfSupplementary_4cfef_22 : decode cJ2_indexOfSupplementary_4cfef 22 = .ok (.invokestatic 96, 3) := by decide +kernel
theorem dJ2_indexOfSupplementary_4cfef_25 : decode cJ2_indexOfSupplementary_4cfef 25 = .ok (.iload_n 2, 1) := by decide +kernel
theorem dJ2_indexOfSupplementary_4cfef_26 : decode cJ2_indexOfSupplementary_4cfef 26 = .ok (.istore 6, 2) := by decide +kernel
theorem dJ2_indexOfSupplementary_4cfef_28 : decode cJ2_indexOfSupplementary_4cfef 28 = .ok (.iload 6, 2) := by decide +kernel
theorem dJ2_indexOfSupplementary_4cfef_30 : decode cJ2_indexOfSupplementary_4cfef 30 = .ok (.iload_n 3, 1) := by decide +kernel
theorem dJ2_indexOfSupplementary_4cfef_31 : decode cJ2_indexOfSupplementary_4cfef 31 = .ok (.iconst 1, 1) := by decide +kernel
theorem dJ2_indexOfSupplementary_4cfef_32 : decode cJ2_indexOfSupplementary_4cfef 32 = .ok (.isub, 1) := by decide +kernel
theorem dJ2_indexOfSupplementary_4cfef_33 : decode cJ2_indexOfSupplementary_4cfef 33 = .ok (.if_icmp .ge 36, 3) := by decide +kernel
theorem dJ2_indexOfSupplementary_4cfef_36 : decode cJ2_indexOfSupplementary_4cfef 36 = .ok (.aload_n 0, 1) := by decide +kernel
theorem dJ2_indexOfSupplementary_4cfef_37 : decode cJ2_indexOfSupplementary_4cfef 37 = .ok (.iload 6, 2) := by decide +kernel
theorem dJ2_indexOfSupplementary_4cfef_39 : decode cJ2_indexOfSupplementary_4cfef 39 = .ok (.invokestatic 71, 3) := by decide +kernel
theorem dJ2_indexOfSupplementary_4cfef_42 : decode cJ2_indexOfSupplementary_4cfef 42 = .ok (.iload 4, 2) := by decide +kernel
theorem dJ2_indexOfSupplementary_4cfef_44 : decode cJ2_indexOfSupplementary_4cfef 44 = .ok (.if_icmp .ne 19, 3) := by decide +kernel
theorem dJ2_indexOfSupplementary_4cfef_47 : decode cJ2_indexOfSupplementary_4cfef 47 = .ok (.aload_n 0, 1) := by decide +kernel
theorem dJ2_indexOfSupplementary_4cfef_48 : decode cJ2_indexOfSupplementary_4cfef 48 = .ok (.iload 6, 2) := by decide +kernel
theorem dJ2_indexOfSupplementary_4cfef_50 : decode cJ2_indexOfSupplementary_4cfef 50 = .ok (.iconst 1, 1) := by decide +kernel
theorem dJ2_indexOfSupplementary_4cfef_51 : decode cJ2_indexOfSupplementary_4cfef 51 = .ok (.iadd, 1) := by decide +kernel
theorem dJ2_indexOfSupplementary_4cfef_52 : decode cJ2_indexOfSupplementary_4cfef 52 = .ok (.invokestatic 71, 3) := by decide +kernel
theorem dJ2_indexOfSupplementary_4cfef_55 : decode cJ2_indexOfSupplementary_4cfef 55 = .ok (.iload 5, 2) := by decide +kernel
theorem dJ2_indexOfSupplementary_4cfef_57 : decode cJ2_indexOfSupplementary_4cfef 57 = .ok (.if_icmp .ne 6, 3) := by decide +kernel
theorem dJ2_indexOfSupplementary_4cfef_60 : decode cJ2_indexOfSupplementary_4cfef 60 = .ok (.iload 6, 2) := by decide +kernel
theorem dJ2_indexOfSupplementary_4cfef_62 : decode cJ2_indexOfSupplementary_4cfef 62 = .ok (.ireturn, 1) := by decide +kernel
theorem dJ2_indexOfSupplementary_4cfef_63 : decode cJ2_indexOfSupplementary_4cfef 63 = .ok (.iinc 6 1, 3) := by decide +kernel
theorem dJ2_indexOfSupplementary_4cfef_66 : decode cJ2_indexOfSupplementary_4cfef 66 = .ok (.goto (-38), 3) := by decide +kernel
theorem dJ2_indexOfSupplementary_4cfef_69 : decode cJ2_indexOfSupplementary_4cfef 69 = .ok (.iconst (-1), 1) := by decide +kernel
theorem dJ2_indexOfSupplementary_4cfef_70 : decode cJ2_indexOfSupplementary_4cfef 70 = .ok (.ireturn, 1) := by decide +kernel
theorem dJ2_charAt_3b067_0 : decode cJ2_charAt_3b067 0 = .ok (.iload_n 1, 1) := by decide +kernel
theorem dJ2_charAt_3b067_1 : decode cJ2_charAt_3b067 1 = .ok (.aload_n 0, 1) := by decide +kernel
theorem dJ2_charAt_3b067_2 : decode cJ2_charAt_3b067 2 = .ok (.invokestatic 67, 3) := by decide +kernel
theorem dJ2_charAt_3b067_5 : decode cJ2_charAt_3b067 5 = .ok (.aload_n 0, 1) := by decide +kernel
theorem dJ2_charAt_3b067_6 : decode cJ2_charAt_3b067 6 = .ok (.iload_n 1, 1) := by decide +kernel
theorem dJ2_charAt_3b067_7 : decode cJ2_charAt_3b067 7 = .ok (.invokestatic 71, 3) := by decide +kernel
theorem dJ2_charAt_3b067_10 : decode cJ2_charAt_3b067 10 = .ok (.ireturn, 1) := by decide +kernel
theorem dJ2_checkIndex_2214a_0 : decode cJ2_checkIndex_2214a 0 = .ok (.iload_n 0, 1) := by decide +kernel
theorem dJ2_checkIndex_2214a_1 : decode cJ2_checkIndex_2214a 1 = .ok (.aload_n 1, 1) := by decide +kernel
theorem dJ2_checkIndex_2214a_2 : decode cJ2_checkIndex_2214a 2 = .ok (.invokestatic 48, 3) := by decide +kernel
theorem dJ2_checkIndex_2214a_5 : decode cJ2_checkIndex_2214a 5 = .ok (.invokestatic 414, 3) := by decide +kernel
theorem dJ2_checkIndex_2214a_8 : decode cJ2_checkIndex_2214a 8 = .ok (.return_, 1) := by decide +kernel
theorem dJ2_checkBoundsBeginEnd_d044e_0 : decode cJ2_checkBoundsBeginEnd_d044e 0 = .ok (.iload_n 0, 1) := by decide +kernel
theorem dJ2_checkBoundsBeginEnd_d044e_1 : decode cJ2_checkBoundsBeginEnd_d044e 1 = .ok (.iload_n 1, 1) := by decide +kernel
theorem dJ2_checkBoundsBeginEnd_d044e_2 : decode cJ2_checkBoundsBeginEnd_d044e 2 = .ok (.aload_n 2, 1) := by decide +kernel
theorem dJ2_checkBoundsBeginEnd_d044e_3 : decode cJ2_checkBoundsBeginEnd_d044e 3 = .ok (.invokestatic 48, 3) := by decide +kernel
theorem dJ2_checkBoundsBeginEnd_d044e_6 : decode cJ2_checkBoundsBeginEnd_d044e 6 = .ok (.invokestatic 241, 3) := by decide +kernel
theorem dJ2_checkBoundsBeginEnd_d044e_9 : decode cJ2_checkBoundsBeginEnd_d044e 9 = .ok (.return_, 1) := by decide +kernel
theorem dJ3_checkIndex_8e157_0 : decode cJ3_checkIndex_8e157 0 = .ok (.iload_n 0, 1) := by decide +kernel
theorem dJ3_checkIndex_8e157_1 : decode cJ3_checkIndex_8e157 1 = .ok (.ifCond .lt 8, 3) := by decide +kernel
theorem dJ3_checkIndex_8e157_4 : decode cJ3_checkIndex_8e157 4 = .ok (.iload_n 0, 1) := by decide +kernel
theorem dJ3_checkIndex_8e157_5 : decode cJ3_checkIndex_8e157 5 = .ok (.iload_n 1, 1) := by decide +kernel
theorem dJ3_checkIndex_8e157_6 : decode cJ3_checkIndex_8e157 6 = .ok (.if_icmp .lt 10, 3) := by decide +kernel
theorem dJ3_checkIndex_8e157_9 : decode cJ3_checkIndex_8e157 9 = .ok (.aload_n 2, 1) := by decide +kernel
theorem dJ3_checkIndex_8e157_10 : decode cJ3_checkIndex_8e157 10 = .ok (.iload_n 0, 1) := by decide +kernel
theorem dJ3_checkIndex_8e157_11 : decode cJ3_checkIndex_8e157 11 = .ok (.iload_n 1, 1) := by decide +kernel
theorem dJ3_checkIndex_8e157_12 : decode cJ3_checkIndex_8e157 12 = .ok (.invokestatic 95, 3) := by decide +kernel
theorem dJ3_checkIndex_8e157_15 : decode cJ3_checkIndex_8e157 15 = .ok (.athrow, 1) := by decide +kernel
theorem dJ3_checkIndex_8e157_16 : decode cJ3_checkIndex_8e157 16 = .ok (.iload_n 0, 1) := by decide +kernel
theorem dJ3_checkIndex_8e157_17 : decode cJ3_checkIndex_8e157 17 = .ok (.ireturn, 1) := by decide +kernel
theorem dJ3_checkFromToIndex_8c36e_0 : decode cJ3_checkFromToIndex_8c36e 0 = .ok (.iload_n 0, 1) := by decide +kernel
theorem dJ3_checkFromToIndex_8c36e_1 : decode cJ3_checkFromToIndex_8c36e 1 = .ok (.ifCond .lt 13, 3) := by decide +kernel
theorem dJ3_checkFromToIndex_8c36e_4 : decode cJ3_checkFromToIndex_8c36e 4 = .ok (.iload_n 0, 1) := by decide +kernel
theorem dJ3_checkFromToIndex_8c36e_5 : decode cJ3_checkFromToIndex_8c36e 5 = .ok (.iload_n 1, 1) := by decide +kernel
theorem dJ3_checkFromToIndex_8c36e_6 : decode cJ3_checkFromToIndex_8c36e 6 = .ok (.if_icmp .gt 8, 3) := by decide +kernel
theorem dJ3_checkFromToIndex_8c36e_9 : decode cJ3_checkFromToIndex_8c36e 9 = .ok (.iload_n 1, 1) := by decide +kernel
theorem dJ3_checkFromToIndex_8c36e_10 : decode cJ3_checkFromToIndex_8c36e 10 = .ok (.iload_n 2, 1) := by decide +kernel
theorem dJ3_checkFromToIndex_8c36e_11 : decode cJ3_checkFromToIndex_8c36e 11 = .ok (.if_icmp .le 11, 3) := by decide +kernel
theorem dJ3_checkFromToIndex_8c36e_14 : decode cJ3_checkFromToIndex_8c36e 14 = .ok (.aload_n 3, 1) := by decide +kernel
theorem dJ3_checkFromToIndex_8c36e_15 : decode cJ3_checkFromToIndex_8c36e 15 = .ok (.iload_n 0, 1) := by decide +kernel
theorem dJ3_checkFromToIndex_8c36e_16 : decode cJ3_checkFromToIndex_8c36e 16 = .ok (.iload_n 1, 1) := by decide +kernel
theorem dJ3_checkFromToIndex_8c36e_17 : decode cJ3_checkFromToIndex_8c36e 17 = .ok (.iload_n 2, 1) := by decide +kernel
theorem dJ3_checkFromToIndex_8c36e_18 : decode cJ3_checkFromToIndex_8c36e 18 = .ok (.invokestatic 99, 3) := by decide +kernel
theorem dJ3_checkFromToIndex_8c36e_21 : decode cJ3_checkFromToIndex_8c36e 21 = .ok (.athrow, 1) := by decide +kernel
theorem dJ3_checkFromToIndex_8c36e_22 : decode cJ3_checkFromToIndex_8c36e 22 = .ok (.iload_n 0, 1) := by decide +kernel
theorem dJ3_checkFromToIndex_8c36e_23 : decode cJ3_checkFromToIndex_8c36e 23 = .ok (.ireturn, 1) := by decide +kernel
theorem dL_law_0 : decode cL_law 0 = .ok (.new 7, 3) := by decide +kernel
theorem dL_law_3 : decode cL_law 3 = .ok (.dup, 1) := by decide +kernel
theorem dL_law_4 : decode cL_law 4 = .ok (.invokespecial 9, 3) := by decide +kernel
theorem dL_law_7 : decode cL_law 7 = .ok (.astore_n 1, 1) := by decide +kernel
theorem dL_law_8 : decode cL_law 8 = .ok (.new 10, 3) := by decide +kernel
theorem dL_law_11 : decode cL_law 11 = .ok (.dup, 1) := by decide +kernel
theorem dL_law_12 : decode cL_law 12 = .ok (.invokespecial 12, 3) := by decide +kernel
theorem dL_law_15 : decode cL_law 15 = .ok (.astore_n 2, 1) := by decide +kernel
theorem dL_law_16 : decode cL_law 16 = .ok (.iconst 0, 1) := by decide +kernel
theorem dL_law_17 : decode cL_law 17 = .ok (.istore_n 3, 1) := by decide +kernel
theorem dL_law_18 : decode cL_law 18 = .ok (.iload_n 3, 1) := by decide +kernel
theorem dL_law_19 : decode cL_law 19 = .ok (.aload_n 0, 1) := by decide +kernel
theorem dL_law_20 : decode cL_law 20 = .ok (.arraylength, 1) := by decide +kernel
theorem dL_law_21 : decode cL_law 21 = .ok (.iconst 4, 1) := by decide +kernel
theorem dL_law_22 : decode cL_law 22 = .ok (.isub, 1) := by decide +kernel
theorem dL_law_23 : decode cL_law 23 = .ok (.if_icmp .gt 914, 3) := by decide +kernel
theorem dL_law_26 : decode cL_law 26 = .ok (.aload_n 0, 1) := by decide +kernel
theorem dL_law_27 : decode cL_law 27 = .ok (.iload_n 3, 1) := by decide +kernel
theorem dL_law_28 : decode cL_law 28 = .ok (.iaload, 1) := by decide +kernel
theorem dL_law_29 : decode cL_law 29 = .ok (.bipush 31, 2) := by decide +kernel
theorem dL_law_31 : decode cL_law 31 = .ok (.iand, 1) := by decide +kernel
theorem dL_law_32 : decode cL_law 32 = .ok (.tableswitch 899 0 28 #[132, 195, 208, 231, 274, 307, 330, 363, 396, 429, 462, 485, 518, 541, 564, 587, 600, 613, 636, 649, 672, 695, 738, 751, 794, 817, 850, 863, 876], 132) := by decide +kernel
theorem dL_law_164 : decode cL_law 164 = .ok (.aload_n 1, 1) := by decide +kernel
theorem dL_law_165 : decode cL_law 165 = .ok (.aload_n 0, 1) := by decide +kernel
theorem dL_law_166 : decode cL_law 166 = .ok (.iload_n 3, 1) := by decide +kernel
theorem dL_law_167 : decode cL_law 167 = .ok (.iconst 1, 1) := by decide +kernel
theorem dL_law_168 : decode cL_law 168 = .ok (.iadd, 1) := by decide +kernel
theorem dL_law_169 : decode cL_law 169 = .ok (.iaload, 1) := by decide +kernel
theorem dL_law_170 : decode cL_law 170 = .ok (.i2l, 1) := by decide +kernel
theorem dL_law_171 : decode cL_law 171 = .ok (.bipush 32, 2) := by decide +kernel
theorem dL_law_173 : decode cL_law 173 = .ok (.lshl, 1) := by decide +kernel
theorem dL_law_174 : decode cL_law 174 = .ok (.aload_n 0, 1) := by decide +kernel
theorem dL_law_175 : decode cL_law 175 = .ok (.iload_n 3, 1) := by decide +kernel
theorem dL_law_176 : decode cL_law 176 = .ok (.iconst 2, 1) := by decide +kernel
theorem dL_law_177 : decode cL_law 177 = .ok (.iadd, 1) := by decide +kernel
theorem dL_law_178 : decode cL_law 178 = .ok (.iaload, 1) := by decide +kernel
theorem dL_law_179 : decode cL_law 179 = .ok (.i2l, 1) := by decide +kernel
theorem dL_law_180 : decode cL_law 180 = .ok (.ldc2_w 13, 3) := by decide +kernel
theorem dL_law_183 : decode cL_law 183 = .ok (.land, 1) := by decide +kernel
theorem dL_law_184 : decode cL_law 184 = .ok (.lor, 1) := by decide +kernel
theorem dL_law_185 : decode cL_law 185 = .ok (.aload_n 0, 1) := by decide +kernel
theorem dL_law_186 : decode cL_law 186 = .ok (.iload_n 3, 1) := by decide +kernel
theorem dL_law_187 : decode cL_law 187 = .ok (.iconst 3, 1) := by decide +kernel
theorem dL_law_188 : decode cL_law 188 = .ok (.iadd, 1) := by decide +kernel
theorem dL_law_189 : decode cL_law 189 = .ok (.iaload, 1) := by decide +kernel
theorem dL_law_190 : decode cL_law 190 = .ok (.invokevirtual 15, 3) := by decide +kernel
theorem dL_law_193 : decode cL_law 193 = .ok (.aload_n 2, 1) := by decide +kernel
theorem dL_law_194 : decode cL_law 194 = .ok (.aload_n 0, 1) := by decide +kernel
theorem dL_law_195 : decode cL_law 195 = .ok (.iload_n 3, 1) := by decide +kernel
theorem dL_law_196 : decode cL_law 196 = .ok (.iconst 1, 1) := by decide +kernel
theorem dL_law_197 : decode cL_law 197 = .ok (.iadd, 1) := by decide +kernel
theorem dL_law_198 : decode cL_law 198 = .ok (.iaload, 1) := by decide +kernel
theorem dL_law_199 : decode cL_law 199 = .ok (.i2l, 1) := by decide +kernel
theorem dL_law_200 : decode cL_law 200 = .ok (.bipush 32, 2) := by decide +kernel
theorem dL_law_202 : decode cL_law 202 = .ok (.lshl, 1) := by decide +kernel
theorem dL_law_203 : decode cL_law 203 = .ok (.aload_n 0, 1) := by decide +kernel
theorem dL_law_204 : decode cL_law 204 = .ok (.iload_n 3, 1) := by decide +kernel
theorem dL_law_205 : decode cL_law 205 = .ok (.iconst 2, 1) := by decide +kernel
theorem dL_law_206 : decode cL_law 206 = .ok (.iadd, 1) := by decide +kernel
theorem dL_law_207 : decode cL_law 207 = .ok (.iaload, 1) := by decide +kernel
theorem dL_law_208 : decode cL_law 208 = .ok (.i2l, 1) := by decide +kernel
theorem dL_law_209 : decode cL_law 209 = .ok (.ldc2_w 13, 3) := by decide +kernel
theorem dL_law_212 : decode cL_law 212 = .ok (.land, 1) := by decide +kernel
theorem dL_law_213 : decode cL_law 213 = .ok (.lor, 1) := by decide +kernel
theorem dL_law_214 : decode cL_law 214 = .ok (.aload_n 0, 1) := by decide +kernel
theorem dL_law_215 : decode cL_law 215 = .ok (.iload_n 3, 1) := by decide +kernel
theorem dL_law_216 : decode cL_law 216 = .ok (.iconst 3, 1) := by decide +kernel
theorem dL_law_217 : decode cL_law 217 = .ok (.iadd, 1) := by decide +kernel
theorem dL_law_218 : decode cL_law 218 = .ok (.iaload, 1) := by decide +kernel
theorem dL_law_219 : decode cL_law 219 = .ok (.invokevirtual 19, 3) := by decide +kernel
theorem dL_law_222 : decode cL_law 222 = .ok (.if_icmp .eq 709, 3) := by decide +kernel
theorem dL_law_225 : decode cL_law 225 = .ok (.iconst 0, 1) := by decide +kernel
theorem dL_law_226 : decode cL_law 226 = .ok (.ireturn, 1) := by decide +kernel
theorem dL_law_227 : decode cL_law 227 = .ok (.aload_n 1, 1) := by decide +kernel
theorem dL_law_228 : decode cL_law 228 = .ok (.invokevirtual 20, 3) := by decide +kernel
theorem dL_law_231 : decode cL_law 231 = .ok (.aload_n 2, 1) := by decide +kernel
theorem dL_law_232 : decode cL_law 232 = .ok (.invokevirtual 24, 3) := by decide +kernel
theorem dL_law_235 : decode cL_law 235 = .ok (.if_icmp .eq 696, 3) := by decide +kernel
theorem dL_law_238 : decode cL_law 238 = .ok (.iconst 0, 1) := by decide +kernel
theorem dL_law_239 : decode cL_law 239 = .ok (.ireturn, 1) := by decide +kernel
theorem dL_law_240 : decode cL_law 240 = .ok (.aload_n 1, 1) := by decide +kernel
theorem dL_law_241 : decode cL_law 241 = .ok (.aload_n 0, 1) := by decide +kernel
theorem dL_law_242 : decode cL_law 242 = .ok (.iload_n 3, 1) := by decide +kernel
theorem dL_law_243 : decode cL_law 243 = .ok (.iconst 1, 1) := by decide +kernel
theorem dL_law_244 : decode cL_law 244 = .ok (.iadd, 1) := by decide +kernel
theorem dL_law_245 : decode cL_law 245 = .ok (.iaload, 1) := by decide +kernel
theorem dL_law_246 : decode cL_law 246 = .ok (.invokevirtual 25, 3) := by decide +kernel
theorem dL_law_249 : decode cL_law 249 = .ok (.aload_n 2, 1) := by decide +kernel
theorem dL_law_250 : decode cL_law 250 = .ok (.aload_n 0, 1) := by decide +kernel
theorem dL_law_251 : decode cL_law 251 = .ok (.iload_n 3, 1) := by decide +kernel
theorem dL_law_252 : decode cL_law 252 = .ok (.iconst 1, 1) := by decide +kernel
theorem dL_law_253 : decode cL_law 253 = .ok (.iadd, 1) := by decide +kernel
theorem dL_law_254 : decode cL_law 254 = .ok (.iaload, 1) := by decide +kernel
theorem dL_law_255 : decode cL_law 255 = .ok (.invokevirtual 29, 3) := by decide +kernel
theorem dL_law_258 : decode cL_law 258 = .ok (.if_icmp .eq 673, 3) := by decide +kernel
theorem dL_law_261 : decode cL_law 261 = .ok (.iconst 0, 1) := by decide +kernel
theorem dL_law_262 : decode cL_law 262 = .ok (.ireturn, 1) := by decide +kernel
theorem dL_law_263 : decode cL_law 263 = .ok (.aload_n 1, 1) := by decide +kernel
theorem dL_law_264 : decode cL_law 264 = .ok (.aload_n 0, 1) := by decide +kernel
theorem dL_law_265 : decode cL_law 265 = .ok (.iload_n 3, 1) := by decide +kernel
theorem dL_law_266 : decode cL_law 266 = .ok (.iconst 1, 1) := by decide +kernel
theorem dL_law_267 : decode cL_law 267 = .ok (.iadd, 1) := by decide +kernel
theorem dL_law_268 : decode cL_law 268 = .ok (.iaload, 1) := by decide +kernel
theorem dL_law_269 : decode cL_law 269 = .ok (.aload_n 0, 1) := by decide +kernel
theorem dL_law_270 : decode cL_law 270 = .ok (.iload_n 3, 1) := by decide +kernel
theorem dL_law_271 : decode cL_law 271 = .ok (.iconst 2, 1) := by decide +kernel
theorem dL_law_272 : decode cL_law 272 = .ok (.iadd, 1) := by decide +kernel
theorem dL_law_273 : decode cL_law 273 = .ok (.iaload, 1) := by decide +kernel
theorem dL_law_274 : decode cL_law 274 = .ok (.aload_n 0, 1) := by decide +kernel
theorem dL_law_275 : decode cL_law 275 = .ok (.iload_n 3, 1) := by decide +kernel
theorem dL_law_276 : decode cL_law 276 = .ok (.iconst 3, 1) := by decide +kernel
theorem dL_law_277 : decode cL_law 277 = .ok (.iadd, 1) := by decide +kernel
theorem dL_law_278 : decode cL_law 278 = .ok (.iaload, 1) := by decide +kernel
theorem dL_law_279 : decode cL_law 279 = .ok (.invokevirtual 30, 3) := by decide +kernel
theorem dL_law_282 : decode cL_law 282 = .ok (.aload_n 2, 1) := by decide +kernel
theorem dL_law_283 : decode cL_law 283 = .ok (.aload_n 0, 1) := by decide +kernel
theorem dL_law_284 : decode cL_law 284 = .ok (.iload_n 3, 1) := by decide +kernel
theorem dL_law_285 : decode cL_law 285 = .ok (.iconst 1, 1) := by decide +kernel
theorem dL_law_286 : decode cL_law 286 = .ok (.iadd, 1) := by decide +kernel
theorem dL_law_287 : decode cL_law 287 = .ok (.iaload, 1) := by decide +kernel
theorem dL_law_288 : decode cL_law 288 = .ok (.aload_n 0, 1) := by decide +kernel
theorem dL_law_289 : decode cL_law 289 = .ok (.iload_n 3, 1) := by decide +kernel
theorem dL_law_290 : decode cL_law 290 = .ok (.iconst 2, 1) := by decide +kernel
theorem dL_law_291 : decode cL_law 291 = .ok (.iadd, 1) := by decide +kernel
theorem dL_law_292 : decode cL_law 292 = .ok (.iaload, 1) := by decide +kernel
theorem dL_law_293 : decode cL_law 293 = .ok (.aload_n 0, 1) := by decide +kernel
theorem dL_law_294 : decode cL_law 294 = .ok (.iload_n 3, 1) := by decide +kernel
theorem dL_law_295 : decode cL_law 295 = .ok (.iconst 3, 1) := by decide +kernel
theorem dL_law_296 : decode cL_law 296 = .ok (.iadd, 1) := by decide +kernel
theorem dL_law_297 : decode cL_law 297 = .ok (.iaload, 1) := by decide +kernel
theorem dL_law_298 : decode cL_law 298 = .ok (.invokevirtual 34, 3) := by decide +kernel
theorem dL_law_301 : decode cL_law 301 = .ok (.if_icmp .eq 630, 3) := by decide +kernel
theorem dL_law_304 : decode cL_law 304 = .ok (.iconst 0, 1) := by decide +kernel
theorem dL_law_305 : decode cL_law 305 = .ok (.ireturn, 1) := by decide +kernel
theorem dL_law_306 : decode cL_law 306 = .ok (.aload_n 1, 1) := by decide +kernel
theorem dL_law_307 : decode cL_law 307 = .ok (.aload_n 0, 1) := by decide +kernel
theorem dL_law_308 : decode cL_law 308 = .ok (.iload_n 3, 1) := by decide +kernel
theorem dL_law_309 : decode cL_law 309 = .ok (.iconst 1, 1) := by decide +kernel
theorem dL_law_310 : decode cL_law 310 = .ok (.iadd, 1) := by decide +kernel
theorem dL_law_311 : decode cL_law 311 = .ok (.iaload, 1) := by decide +kernel
theorem dL_law_312 : decode cL_law 312 = .ok (.aload_n 0, 1) := by decide +kernel
theorem dL_law_313 : decode cL_law 313 = .ok (.iload_n 3, 1) := by decide +kernel
theorem dL_law_314 : decode cL_law 314 = .ok (.iconst 2, 1) := by decide +kernel
theorem dL_law_315 : decode cL_law 315 = .ok (.iadd, 1) := by decide +kernel
theorem dL_law_316 : decode cL_law 316 = .ok (.iaload, 1) := by decide +kernel
theorem dL_law_317 : decode cL_law 317 = .ok (.invokevirtual 35, 3) := by decide +kernel
theorem dL_law_320 : decode cL_law 320 = .ok (.aload_n 2, 1) := by decide +kernel
theorem dL_law_321 : decode cL_law 321 = .ok (.aload_n 0, 1) := by decide +kernel
theorem dL_law_322 : decode cL_law 322 = .ok (.iload_n 3, 1) := by decide +kernel
theorem dL_law_323 : decode cL_law 323 = .ok (.iconst 1, 1) := by decide +kernel
theorem dL_law_324 : decode cL_law 324 = .ok (.iadd, 1) := by decide +kernel
theorem dL_law_325 : decode cL_law 325 = .ok (.iaload, 1) := by decide +kernel
theorem dL_law_326 : decode cL_law 326 = .ok (.aload_n 0, 1) := by decide +kernel
theorem dL_law_327 : decode cL_law 327 = .ok (.iload_n 3, 1) := by decide +kernel
theorem dL_law_328 : decode cL_law 328 = .ok (.iconst 2, 1) := by decide +kernel
theorem dL_law_329 : decode cL_law 329 = .ok (.iadd, 1) := by decide +kernel
theorem dL_law_330 : decode cL_law 330 = .ok (.iaload, 1) := by decide +kernel
theorem dL_law_331 : decode cL_law 331 = .ok (.invokevirtual 39, 3) := by decide +kernel
theorem dL_law_334 : decode cL_law 334 = .ok (.if_icmp .eq 597, 3) := by decide +kernel
theorem dL_law_337 : decode cL_law 337 = .ok (.iconst 0, 1) := by decide +kernel
theorem dL_law_338 : decode cL_law 338 = .ok (.ireturn, 1) := by decide +kernel
theorem dL_law_339 : decode cL_law 339 = .ok (.aload_n 1, 1) := by decide +kernel
theorem dL_law_340 : decode cL_law 340 = .ok (.aload_n 0, 1) := by decide +kernel
theorem dL_law_341 : decode cL_law 341 = .ok (.iload_n 3, 1) := by decide +kernel
theorem dL_law_342 : decode cL_law 342 = .ok (.iconst 1, 1) := by decide +kernel
theorem dL_law_343 : decode cL_law 343 = .ok (.iadd, 1) := by decide +kernel
theorem dL_law_344 : decode cL_law 344 = .ok (.iaload, 1) := by decide +kernel
theorem dL_law_345 : decode cL_law 345 = .ok (.invokevirtual 40, 3) := by decide +kernel
theorem dL_law_348 : decode cL_law 348 = .ok (.aload_n 2, 1) := by decide +kernel
theorem dL_law_349 : decode cL_law 349 = .ok (.aload_n 0, 1) := by decide +kernel
theorem dL_law_350 : decode cL_law 350 = .ok (.iload_n 3, 1) := by decide +kernel
theorem dL_law_351 : decode cL_law 351 = .ok (.iconst 1, 1) := by decide +kernel
theorem dL_law_352 : decode cL_law 352 = .ok (.iadd, 1) := by decide +kernel
theorem dL_law_353 : decode cL_law 353 = .ok (.iaload, 1) := by decide +kernel
theorem dL_law_354 : decode cL_law 354 = .ok (.invokevirtual 43, 3) := by decide +kernel
theorem dL_law_357 : decode cL_law 357 = .ok (.if_icmp .eq 574, 3) := by decide +kernel
theorem dL_law_360 : decode cL_law 360 = .ok (.iconst 0, 1) := by decide +kernel
theorem dL_law_361 : decode cL_law 361 = .ok (.ireturn, 1) := by decide +kernel
theorem dL_law_362 : decode cL_law 362 = .ok (.aload_n 1, 1) := by decide +kernel
theorem dL_law_363 : decode cL_law 363 = .ok (.aload_n 0, 1) := by decide +kernel
theorem dL_law_364 : decode cL_law 364 = .ok (.iload_n 3, 1) := by decide +kernel
theorem dL_law_365 : decode cL_law 365 = .ok (.iconst 1, 1) := by decide +kernel
theorem dL_law_366 : decode cL_law 366 = .ok (.iadd, 1) := by decide +kernel
theorem dL_law_367 : decode cL_law 367 = .ok (.iaload, 1) := by decide +kernel
theorem dL_law_368 : decode cL_law 368 = .ok (.aload_n 0, 1) := by decide +kernel
theorem dL_law_369 : decode cL_law 369 = .ok (.iload_n 3, 1) := by decide +kernel
theorem dL_law_370 : decode cL_law 370 = .ok (.iconst 2, 1) := by decide +kernel
theorem dL_law_371 : decode cL_law 371 = .ok (.iadd, 1) := by decide +kernel
theorem dL_law_372 : decode cL_law 372 = .ok (.iaload, 1) := by decide +kernel
theorem dL_law_373 : decode cL_law 373 = .ok (.invokevirtual 44, 3) := by decide +kernel
theorem dL_law_376 : decode cL_law 376 = .ok (.aload_n 2, 1) := by decide +kernel
theorem dL_law_377 : decode cL_law 377 = .ok (.aload_n 0, 1) := by decide +kernel
theorem dL_law_378 : decode cL_law 378 = .ok (.iload_n 3, 1) := by decide +kernel
theorem dL_law_379 : decode cL_law 379 = .ok (.iconst 1, 1) := by decide +kernel
theorem dL_law_380 : decode cL_law 380 = .ok (.iadd, 1) := by decide +kernel
theorem dL_law_381 : decode cL_law 381 = .ok (.iaload, 1) := by decide +kernel
theorem dL_law_382 : decode cL_law 382 = .ok (.aload_n 0, 1) := by decide +kernel
theorem dL_law_383 : decode cL_law 383 = .ok (.iload_n 3, 1) := by decide +kernel
theorem dL_law_384 : decode cL_law 384 = .ok (.iconst 2, 1) := by decide +kernel
theorem dL_law_385 : decode cL_law 385 = .ok (.iadd, 1) := by decide +kernel
theorem dL_law_386 : decode cL_law 386 = .ok (.iaload, 1) := by decide +kernel
theorem dL_law_387 : decode cL_law 387 = .ok (.invokevirtual 47, 3) := by decide +kernel
theorem dL_law_390 : decode cL_law 390 = .ok (.if_icmp .eq 541, 3) := by decide +kernel
theorem dL_law_393 : decode cL_law 393 = .ok (.iconst 0, 1) := by decide +kernel
theorem dL_law_394 : decode cL_law 394 = .ok (.ireturn, 1) := by decide +kernel
theorem dL_law_395 : decode cL_law 395 = .ok (.aload_n 1, 1) := by decide +kernel
theorem dL_law_396 : decode cL_law 396 = .ok (.aload_n 0, 1) := by decide +kernel
theorem dL_law_397 : decode cL_law 397 = .ok (.iload_n 3, 1) := by decide +kernel
theorem dL_law_398 : decode cL_law 398 = .ok (.iconst 1, 1) := by decide +kernel
theorem dL_law_399 : decode cL_law 399 = .ok (.iadd, 1) := by decide +kernel
theorem dL_law_400 : decode cL_law 400 = .ok (.iaload, 1) := by decide +kernel
theorem dL_law_401 : decode cL_law 401 = .ok (.aload_n 0, 1) := by decide +kernel
theorem dL_law_402 : decode cL_law 402 = .ok (.iload_n 3, 1) := by decide +kernel
theorem dL_law_403 : decode cL_law 403 = .ok (.iconst 2, 1) := by decide +kernel
theorem dL_law_404 : decode cL_law 404 = .ok (.iadd, 1) := by decide +kernel
theorem dL_law_405 : decode cL_law 405 = .ok (.iaload, 1) := by decide +kernel
theorem dL_law_406 : decode cL_law 406 = .ok (.invokevirtual 48, 3) := by decide +kernel
theorem dL_law_409 : decode cL_law 409 = .ok (.aload_n 2, 1) := by decide +kernel
theorem dL_law_410 : decode cL_law 410 = .ok (.aload_n 0, 1) := by decide +kernel
theorem dL_law_411 : decode cL_law 411 = .ok (.iload_n 3, 1) := by decide +kernel
theorem dL_law_412 : decode cL_law 412 = .ok (.iconst 1, 1) := by decide +kernel
theorem dL_law_413 : decode cL_law 413 = .ok (.iadd, 1) := by decide +kernel
theorem dL_law_414 : decode cL_law 414 = .ok (.iaload, 1) := by decide +kernel
theorem dL_law_415 : decode cL_law 415 = .ok (.aload_n 0, 1) := by decide +kernel
theorem dL_law_416 : decode cL_law 416 = .ok (.iload_n 3, 1) := by decide +kernel
theorem dL_law_417 : decode cL_law 417 = .ok (.iconst 2, 1) := by decide +kernel
theorem dL_law_418 : decode cL_law 418 = .ok (.iadd, 1) := by decide +kernel
theorem dL_law_419 : decode cL_law 419 = .ok (.iaload, 1) := by decide +kernel
theorem dL_law_420 : decode cL_law 420 = .ok (.invokevirtual 51, 3) := by decide +kernel
theorem dL_law_423 : decode cL_law 423 = .ok (.if_icmp .eq 508, 3) := by decide +kernel
theorem dL_law_426 : decode cL_law 426 = .ok (.iconst 0, 1) := by decide +kernel
theorem dL_law_427 : decode cL_law 427 = .ok (.ireturn, 1) := by decide +kernel
theorem dL_law_428 : decode cL_law 428 = .ok (.aload_n 1, 1) := by decide +kernel
theorem dL_law_429 : decode cL_law 429 = .ok (.aload_n 0, 1) := by decide +kernel
theorem dL_law_430 : decode cL_law 430 = .ok (.iload_n 3, 1) := by decide +kernel
theorem dL_law_431 : decode cL_law 431 = .ok (.iconst 1, 1) := by decide +kernel
theorem dL_law_432 : decode cL_law 432 = .ok (.iadd, 1) := by decide +kernel
theorem dL_law_433 : decode cL_law 433 = .ok (.iaload, 1) := by decide +kernel
theorem dL_law_434 : decode cL_law 434 = .ok (.aload_n 0, 1) := by decide +kernel
theorem dL_law_435 : decode cL_law 435 = .ok (.iload_n 3, 1) := by decide +kernel
theorem dL_law_436 : decode cL_law 436 = .ok (.iconst 2, 1) := by decide +kernel
theorem dL_law_437 : decode cL_law 437 = .ok (.iadd, 1) := by decide +kernel
theorem dL_law_438 : decode cL_law 438 = .ok (.iaload, 1) := by decide +kernel
theorem dL_law_439 : decode cL_law 439 = .ok (.invokevirtual 52, 3) := by decide +kernel
theorem dL_law_442 : decode cL_law 442 = .ok (.aload_n 2, 1) := by decide +kernel
theorem dL_law_443 : decode cL_law 443 = .ok (.aload_n 0, 1) := by decide +kernel
theorem dL_law_444 : decode cL_law 444 = .ok (.iload_n 3, 1) := by decide +kernel
theorem dL_law_445 : decode cL_law 445 = .ok (.iconst 1, 1) := by decide +kernel
theorem dL_law_446 : decode cL_law 446 = .ok (.iadd, 1) := by decide +kernel
theorem dL_law_447 : decode cL_law 447 = .ok (.iaload, 1) := by decide +kernel
theorem dL_law_448 : decode cL_law 448 = .ok (.aload_n 0, 1) := by decide +kernel
theorem dL_law_449 : decode cL_law 449 = .ok (.iload_n 3, 1) := by decide +kernel
theorem dL_law_450 : decode cL_law 450 = .ok (.iconst 2, 1) := by decide +kernel
theorem dL_law_451 : decode cL_law 451 = .ok (.iadd, 1) := by decide +kernel
theorem dL_law_452 : decode cL_law 452 = .ok (.iaload, 1) := by decide +kernel
theorem dL_law_453 : decode cL_law 453 = .ok (.invokevirtual 55, 3) := by decide +kernel
theorem dL_law_456 : decode cL_law 456 = .ok (.if_icmp .eq 475, 3) := by decide +kernel
theorem dL_law_459 : decode cL_law 459 = .ok (.iconst 0, 1) := by decide +kernel
theorem dL_law_460 : decode cL_law 460 = .ok (.ireturn, 1) := by decide +kernel
theorem dL_law_461 : decode cL_law 461 = .ok (.aload_n 1, 1) := by decide +kernel
theorem dL_law_462 : decode cL_law 462 = .ok (.aload_n 0, 1) := by decide +kernel
theorem dL_law_463 : decode cL_law 463 = .ok (.iload_n 3, 1) := by decide +kernel
theorem dL_law_464 : decode cL_law 464 = .ok (.iconst 1, 1) := by decide +kernel
theorem dL_law_465 : decode cL_law 465 = .ok (.iadd, 1) := by decide +kernel
theorem dL_law_466 : decode cL_law 466 = .ok (.iaload, 1) := by decide +kernel
theorem dL_law_467 : decode cL_law 467 = .ok (.aload_n 0, 1) := by decide +kernel
theorem dL_law_468 : decode cL_law 468 = .ok (.iload_n 3, 1) := by decide +kernel
theorem dL_law_469 : decode cL_law 469 = .ok (.iconst 2, 1) := by decide +kernel
theorem dL_law_470 : decode cL_law 470 = .ok (.iadd, 1) := by decide +kernel
theorem dL_law_471 : decode cL_law 471 = .ok (.iaload, 1) := by decide +kernel
theorem dL_law_472 : decode cL_law 472 = .ok (.invokevirtual 56, 3) := by decide +kernel
theorem dL_law_475 : decode cL_law 475 = .ok (.aload_n 2, 1) := by decide +kernel
theorem dL_law_476 : decode cL_law 476 = .ok (.aload_n 0, 1) := by decide +kernel
theorem dL_law_477 : decode cL_law 477 = .ok (.iload_n 3, 1) := by decide +kernel
theorem dL_law_478 : decode cL_law 478 = .ok (.iconst 1, 1) := by decide +kernel
theorem dL_law_479 : decode cL_law 479 = .ok (.iadd, 1) := by decide +kernel
theorem dL_law_480 : decode cL_law 480 = .ok (.iaload, 1) := by decide +kernel
theorem dL_law_481 : decode cL_law 481 = .ok (.aload_n 0, 1) := by decide +kernel
theorem dL_law_482 : decode cL_law 482 = .ok (.iload_n 3, 1) := by decide +kernel
theorem dL_law_483 : decode cL_law 483 = .ok (.iconst 2, 1) := by decide +kernel
theorem dL_law_484 : decode cL_law 484 = .ok (.iadd, 1) := by decide +kernel
theorem dL_law_485 : decode cL_law 485 = .ok (.iaload, 1) := by decide +kernel
theorem dL_law_486 : decode cL_law 486 = .ok (.invokevirtual 59, 3) := by decide +kernel
theorem dL_law_489 : decode cL_law 489 = .ok (.if_icmp .eq 442, 3) := by decide +kernel
theorem dL_law_492 : decode cL_law 492 = .ok (.iconst 0, 1) := by decide +kernel
theorem dL_law_493 : decode cL_law 493 = .ok (.ireturn, 1) := by decide +kernel
theorem dL_law_494 : decode cL_law 494 = .ok (.aload_n 1, 1) := by decide +kernel
theorem dL_law_495 : decode cL_law 495 = .ok (.aload_n 0, 1) := by decide +kernel
theorem dL_law_496 : decode cL_law 496 = .ok (.iload_n 3, 1) := by decide +kernel
theorem dL_law_497 : decode cL_law 497 = .ok (.iconst 1, 1) := by decide +kernel
theorem dL_law_498 : decode cL_law 498 = .ok (.iadd, 1) := by decide +kernel
theorem dL_law_499 : decode cL_law 499 = .ok (.iaload, 1) := by decide +kernel
theorem dL_law_500 : decode cL_law 500 = .ok (.invokevirtual 60, 3) := by decide +kernel
theorem dL_law_503 : decode cL_law 503 = .ok (.aload_n 2, 1) := by decide +kernel
theorem dL_law_504 : decode cL_law 504 = .ok (.aload_n 0, 1) := by decide +kernel
theorem dL_law_505 : decode cL_law 505 = .ok (.iload_n 3, 1) := by decide +kernel
theorem dL_law_506 : decode cL_law 506 = .ok (.iconst 1, 1) := by decide +kernel
theorem dL_law_507 : decode cL_law 507 = .ok (.iadd, 1) := by decide +kernel
theorem dL_law_508 : decode cL_law 508 = .ok (.iaload, 1) := by decide +kernel
theorem dL_law_509 : decode cL_law 509 = .ok (.invokevirtual 63, 3) := by decide +kernel
theorem dL_law_512 : decode cL_law 512 = .ok (.if_icmp .eq 419, 3) := by decide +kernel
theorem dL_law_515 : decode cL_law 515 = .ok (.iconst 0, 1) := by decide +kernel
theorem dL_law_516 : decode cL_law 516 = .ok (.ireturn, 1) := by decide +kernel
theorem dL_law_517 : decode cL_law 517 = .ok (.aload_n 1, 1) := by decide +kernel
theorem dL_law_518 : decode cL_law 518 = .ok (.aload_n 0, 1) := by decide +kernel
theorem dL_law_519 : decode cL_law 519 = .ok (.iload_n 3, 1) := by decide +kernel
theorem dL_law_520 : decode cL_law 520 = .ok (.iconst 1, 1) := by decide +kernel
theorem dL_law_521 : decode cL_law 521 = .ok (.iadd, 1) := by decide +kernel
theorem dL_law_522 : decode cL_law 522 = .ok (.iaload, 1) := by decide +kernel
theorem dL_law_523 : decode cL_law 523 = .ok (.aload_n 0, 1) := by decide +kernel
theorem dL_law_524 : decode cL_law 524 = .ok (.iload_n 3, 1) := by decide +kernel
theorem dL_law_525 : decode cL_law 525 = .ok (.iconst 2, 1) := by decide +kernel
theorem dL_law_526 : decode cL_law 526 = .ok (.iadd, 1) := by decide +kernel
theorem dL_law_527 : decode cL_law 527 = .ok (.iaload, 1) := by decide +kernel
theorem dL_law_528 : decode cL_law 528 = .ok (.invokevirtual 64, 3) := by decide +kernel
theorem dL_law_531 : decode cL_law 531 = .ok (.aload_n 2, 1) := by decide +kernel
theorem dL_law_532 : decode cL_law 532 = .ok (.aload_n 0, 1) := by decide +kernel
theorem dL_law_533 : decode cL_law 533 = .ok (.iload_n 3, 1) := by decide +kernel
theorem dL_law_534 : decode cL_law 534 = .ok (.iconst 1, 1) := by decide +kernel
theorem dL_law_535 : decode cL_law 535 = .ok (.iadd, 1) := by decide +kernel
theorem dL_law_536 : decode cL_law 536 = .ok (.iaload, 1) := by decide +kernel
theorem dL_law_537 : decode cL_law 537 = .ok (.aload_n 0, 1) := by decide +kernel
theorem dL_law_538 : decode cL_law 538 = .ok (.iload_n 3, 1) := by decide +kernel
theorem dL_law_539 : decode cL_law 539 = .ok (.iconst 2, 1) := by decide +kernel
theorem dL_law_540 : decode cL_law 540 = .ok (.iadd, 1) := by decide +kernel
theorem dL_law_541 : decode cL_law 541 = .ok (.iaload, 1) := by decide +kernel
theorem dL_law_542 : decode cL_law 542 = .ok (.invokevirtual 67, 3) := by decide +kernel
theorem dL_law_545 : decode cL_law 545 = .ok (.if_icmp .eq 386, 3) := by decide +kernel
theorem dL_law_548 : decode cL_law 548 = .ok (.iconst 0, 1) := by decide +kernel
theorem dL_law_549 : decode cL_law 549 = .ok (.ireturn, 1) := by decide +kernel
theorem dL_law_550 : decode cL_law 550 = .ok (.aload_n 1, 1) := by decide +kernel
theorem dL_law_551 : decode cL_law 551 = .ok (.aload_n 0, 1) := by decide +kernel
theorem dL_law_552 : decode cL_law 552 = .ok (.iload_n 3, 1) := by decide +kernel
theorem dL_law_553 : decode cL_law 553 = .ok (.iconst 1, 1) := by decide +kernel
theorem dL_law_554 : decode cL_law 554 = .ok (.iadd, 1) := by decide +kernel
theorem dL_law_555 : decode cL_law 555 = .ok (.iaload, 1) := by decide +kernel
theorem dL_law_556 : decode cL_law 556 = .ok (.invokevirtual 68, 3) := by decide +kernel
theorem dL_law_559 : decode cL_law 559 = .ok (.aload_n 2, 1) := by decide +kernel
theorem dL_law_560 : decode cL_law 560 = .ok (.aload_n 0, 1) := by decide +kernel
theorem dL_law_561 : decode cL_law 561 = .ok (.iload_n 3, 1) := by decide +kernel
theorem dL_law_562 : decode cL_law 562 = .ok (.iconst 1, 1) := by decide +kernel
theorem dL_law_563 : decode cL_law 563 = .ok (.iadd, 1) := by decide +kernel
theorem dL_law_564 : decode cL_law 564 = .ok (.iaload, 1) := by decide +kernel
theorem dL_law_565 : decode cL_law 565 = .ok (.invokevirtual 71, 3) := by decide +kernel
theorem dL_law_568 : decode cL_law 568 = .ok (.if_icmp .eq 363, 3) := by decide +kernel
theorem dL_law_571 : decode cL_law 571 = .ok (.iconst 0, 1) := by decide +kernel
theorem dL_law_572 : decode cL_law 572 = .ok (.ireturn, 1) := by decide +kernel
theorem dL_law_573 : decode cL_law 573 = .ok (.aload_n 1, 1) := by decide +kernel
theorem dL_law_574 : decode cL_law 574 = .ok (.aload_n 0, 1) := by decide +kernel
theorem dL_law_575 : decode cL_law 575 = .ok (.iload_n 3, 1) := by decide +kernel
theorem dL_law_576 : decode cL_law 576 = .ok (.iconst 1, 1) := by decide +kernel
theorem dL_law_577 : decode cL_law 577 = .ok (.iadd, 1) := by decide +kernel
theorem dL_law_578 : decode cL_law 578 = .ok (.iaload, 1) := by decide +kernel
theorem dL_law_579 : decode cL_law 579 = .ok (.invokevirtual 72, 3) := by decide +kernel
theorem dL_law_582 : decode cL_law 582 = .ok (.aload_n 2, 1) := by decide +kernel
theorem dL_law_583 : decode cL_law 583 = .ok (.aload_n 0, 1) := by decide +kernel
theorem dL_law_584 : decode cL_law 584 = .ok (.iload_n 3, 1) := by decide +kernel
theorem dL_law_585 : decode cL_law 585 = .ok (.iconst 1, 1) := by decide +kernel
theorem dL_law_586 : decode cL_law 586 = .ok (.iadd, 1) := by decide +kernel
theorem dL_law_587 : decode cL_law 587 = .ok (.iaload, 1) := by decide +kernel
theorem dL_law_588 : decode cL_law 588 = .ok (.invokevirtual 75, 3) := by decide +kernel
theorem dL_law_591 : decode cL_law 591 = .ok (.if_icmp .eq 340, 3) := by decide +kernel
theorem dL_law_594 : decode cL_law 594 = .ok (.iconst 0, 1) := by decide +kernel
theorem dL_law_595 : decode cL_law 595 = .ok (.ireturn, 1) := by decide +kernel
theorem dL_law_596 : decode cL_law 596 = .ok (.aload_n 1, 1) := by decide +kernel
theorem dL_law_597 : decode cL_law 597 = .ok (.aload_n 0, 1) := by decide +kernel
theorem dL_law_598 : decode cL_law 598 = .ok (.iload_n 3, 1) := by decide +kernel
theorem dL_law_599 : decode cL_law 599 = .ok (.iconst 1, 1) := by decide +kernel
theorem dL_law_600 : decode cL_law 600 = .ok (.iadd, 1) := by decide +kernel
theorem dL_law_601 : decode cL_law 601 = .ok (.iaload, 1) := by decide +kernel
theorem dL_law_602 : decode cL_law 602 = .ok (.invokevirtual 76, 3) := by decide +kernel
theorem dL_law_605 : decode cL_law 605 = .ok (.aload_n 2, 1) := by decide +kernel
theorem dL_law_606 : decode cL_law 606 = .ok (.aload_n 0, 1) := by decide +kernel
theorem dL_law_607 : decode cL_law 607 = .ok (.iload_n 3, 1) := by decide +kernel
theorem dL_law_608 : decode cL_law 608 = .ok (.iconst 1, 1) := by decide +kernel
theorem dL_law_609 : decode cL_law 609 = .ok (.iadd, 1) := by decide +kernel
theorem dL_law_610 : decode cL_law 610 = .ok (.iaload, 1) := by decide +kernel
theorem dL_law_611 : decode cL_law 611 = .ok (.invokevirtual 79, 3) := by decide +kernel
theorem dL_law_614 : decode cL_law 614 = .ok (.if_icmp .eq 317, 3) := by decide +kernel
theorem dL_law_617 : decode cL_law 617 = .ok (.iconst 0, 1) := by decide +kernel
theorem dL_law_618 : decode cL_law 618 = .ok (.ireturn, 1) := by decide +kernel
theorem dL_law_619 : decode cL_law 619 = .ok (.aload_n 1, 1) := by decide +kernel
theorem dL_law_620 : decode cL_law 620 = .ok (.invokevirtual 80, 3) := by decide +kernel
theorem dL_law_623 : decode cL_law 623 = .ok (.aload_n 2, 1) := by decide +kernel
theorem dL_law_624 : decode cL_law 624 = .ok (.invokevirtual 83, 3) := by decide +kernel
theorem dL_law_627 : decode cL_law 627 = .ok (.if_icmp .eq 304, 3) := by decide +kernel
theorem dL_law_630 : decode cL_law 630 = .ok (.iconst 0, 1) := by decide +kernel
theorem dL_law_631 : decode cL_law 631 = .ok (.ireturn, 1) := by decide +kernel
theorem dL_law_632 : decode cL_law 632 = .ok (.aload_n 1, 1) := by decide +kernel
theorem dL_law_633 : decode cL_law 633 = .ok (.invokevirtual 84, 3) := by decide +kernel
theorem dL_law_636 : decode cL_law 636 = .ok (.aload_n 2, 1) := by decide +kernel
theorem dL_law_637 : decode cL_law 637 = .ok (.invokevirtual 87, 3) := by decide +kernel
theorem dL_law_640 : decode cL_law 640 = .ok (.if_icmp .eq 291, 3) := by decide +kernel
theorem dL_law_643 : decode cL_law 643 = .ok (.iconst 0, 1) := by decide +kernel
theorem dL_law_644 : decode cL_law 644 = .ok (.ireturn, 1) := by decide +kernel
theorem dL_law_645 : decode cL_law 645 = .ok (.aload_n 1, 1) := by decide +kernel
theorem dL_law_646 : decode cL_law 646 = .ok (.aload_n 0, 1) := by decide +kernel
theorem dL_law_647 : decode cL_law 647 = .ok (.iload_n 3, 1) := by decide +kernel
theorem dL_law_648 : decode cL_law 648 = .ok (.iconst 1, 1) := by decide +kernel
theorem dL_law_649 : decode cL_law 649 = .ok (.iadd, 1) := by decide +kernel
theorem dL_law_650 : decode cL_law 650 = .ok (.iaload, 1) := by decide +kernel
theorem dL_law_651 : decode cL_law 651 = .ok (.invokevirtual 88, 3) := by decide +kernel
theorem dL_law_654 : decode cL_law 654 = .ok (.aload_n 2, 1) := by decide +kernel
theorem dL_law_655 : decode cL_law 655 = .ok (.aload_n 0, 1) := by decide +kernel
theorem dL_law_656 : decode cL_law 656 = .ok (.iload_n 3, 1) := by decide +kernel
theorem dL_law_657 : decode cL_law 657 = .ok (.iconst 1, 1) := by decide +kernel
theorem dL_law_658 : decode cL_law 658 = .ok (.iadd, 1) := by decide +kernel
theorem dL_law_659 : decode cL_law 659 = .ok (.iaload, 1) := by decide +kernel
theorem dL_law_660 : decode cL_law 660 = .ok (.invokevirtual 91, 3) := by decide +kernel
theorem dL_law_663 : decode cL_law 663 = .ok (.if_icmp .eq 268, 3) := by decide +kernel
theorem dL_law_666 : decode cL_law 666 = .ok (.iconst 0, 1) := by decide +kernel
theorem dL_law_667 : decode cL_law 667 = .ok (.ireturn, 1) := by decide +kernel
theorem dL_law_668 : decode cL_law 668 = .ok (.aload_n 1, 1) := by decide +kernel
theorem dL_law_669 : decode cL_law 669 = .ok (.invokevirtual 92, 3) := by decide +kernel
theorem dL_law_672 : decode cL_law 672 = .ok (.aload_n 2, 1) := by decide +kernel
theorem dL_law_673 : decode cL_law 673 = .ok (.invokevirtual 95, 3) := by decide +kernel
theorem dL_law_676 : decode cL_law 676 = .ok (.if_icmp .eq 255, 3) := by decide +kernel
theorem dL_law_679 : decode cL_law 679 = .ok (.iconst 0, 1) := by decide +kernel
theorem dL_law_680 : decode cL_law 680 = .ok (.ireturn, 1) := by decide +kernel
theorem dL_law_681 : decode cL_law 681 = .ok (.aload_n 1, 1) := by decide +kernel
theorem dL_law_682 : decode cL_law 682 = .ok (.aload_n 0, 1) := by decide +kernel
theorem dL_law_683 : decode cL_law 683 = .ok (.iload_n 3, 1) := by decide +kernel
theorem dL_law_684 : decode cL_law 684 = .ok (.iconst 1, 1) := by decide +kernel
theorem dL_law_685 : decode cL_law 685 = .ok (.iadd, 1) := by decide +kernel
theorem dL_law_686 : decode cL_law 686 = .ok (.iaload, 1) := by decide +kernel
theorem dL_law_687 : decode cL_law 687 = .ok (.invokevirtual 96, 3) := by decide +kernel
theorem dL_law_690 : decode cL_law 690 = .ok (.aload_n 2, 1) := by decide +kernel
theorem dL_law_691 : decode cL_law 691 = .ok (.aload_n 0, 1) := by decide +kernel
theorem dL_law_692 : decode cL_law 692 = .ok (.iload_n 3, 1) := by decide +kernel
theorem dL_law_693 : decode cL_law 693 = .ok (.iconst 1, 1) := by decide +kernel
theorem dL_law_694 : decode cL_law 694 = .ok (.iadd, 1) := by decide +kernel
theorem dL_law_695 : decode cL_law 695 = .ok (.iaload, 1) := by decide +kernel
theorem dL_law_696 : decode cL_law 696 = .ok (.invokevirtual 99, 3) := by decide +kernel
theorem dL_law_699 : decode cL_law 699 = .ok (.if_icmp .eq 232, 3) := by decide +kernel
theorem dL_law_702 : decode cL_law 702 = .ok (.iconst 0, 1) := by decide +kernel
theorem dL_law_703 : decode cL_law 703 = .ok (.ireturn, 1) := by decide +kernel
theorem dL_law_704 : decode cL_law 704 = .ok (.aload_n 1, 1) := by decide +kernel
theorem dL_law_705 : decode cL_law 705 = .ok (.aload_n 0, 1) := by decide +kernel
theorem dL_law_706 : decode cL_law 706 = .ok (.iload_n 3, 1) := by decide +kernel
theorem dL_law_707 : decode cL_law 707 = .ok (.iconst 1, 1) := by decide +kernel
theorem dL_law_708 : decode cL_law 708 = .ok (.iadd, 1) := by decide +kernel
theorem dL_law_709 : decode cL_law 709 = .ok (.iaload, 1) := by decide +kernel
theorem dL_law_710 : decode cL_law 710 = .ok (.invokevirtual 100, 3) := by decide +kernel
theorem dL_law_713 : decode cL_law 713 = .ok (.aload_n 2, 1) := by decide +kernel
theorem dL_law_714 : decode cL_law 714 = .ok (.aload_n 0, 1) := by decide +kernel
theorem dL_law_715 : decode cL_law 715 = .ok (.iload_n 3, 1) := by decide +kernel
theorem dL_law_716 : decode cL_law 716 = .ok (.iconst 1, 1) := by decide +kernel
theorem dL_law_717 : decode cL_law 717 = .ok (.iadd, 1) := by decide +kernel
theorem dL_law_718 : decode cL_law 718 = .ok (.iaload, 1) := by decide +kernel
theorem dL_law_719 : decode cL_law 719 = .ok (.invokevirtual 103, 3) := by decide +kernel
theorem dL_law_722 : decode cL_law 722 = .ok (.if_icmp .eq 209, 3) := by decide +kernel
theorem dL_law_725 : decode cL_law 725 = .ok (.iconst 0, 1) := by decide +kernel
theorem dL_law_726 : decode cL_law 726 = .ok (.ireturn, 1) := by decide +kernel
theorem dL_law_727 : decode cL_law 727 = .ok (.aload_n 1, 1) := by decide +kernel
theorem dL_law_728 : decode cL_law 728 = .ok (.aload_n 0, 1) := by decide +kernel
theorem dL_law_729 : decode cL_law 729 = .ok (.iload_n 3, 1) := by decide +kernel
theorem dL_law_730 : decode cL_law 730 = .ok (.iconst 1, 1) := by decide +kernel
theorem dL_law_731 : decode cL_law 731 = .ok (.iadd, 1) := by decide +kernel
theorem dL_law_732 : decode cL_law 732 = .ok (.iaload, 1) := by decide +kernel
theorem dL_law_733 : decode cL_law 733 = .ok (.aload_n 0, 1) := by decide +kernel
theorem dL_law_734 : decode cL_law 734 = .ok (.iload_n 3, 1) := by decide +kernel
theorem dL_law_735 : decode cL_law 735 = .ok (.iconst 2, 1) := by decide +kernel
theorem dL_law_736 : decode cL_law 736 = .ok (.iadd, 1) := by decide +kernel
theorem dL_law_737 : decode cL_law 737 = .ok (.iaload, 1) := by decide +kernel
theorem dL_law_738 : decode cL_law 738 = .ok (.aload_n 0, 1) := by decide +kernel
theorem dL_law_739 : decode cL_law 739 = .ok (.iload_n 3, 1) := by decide +kernel
theorem dL_law_740 : decode cL_law 740 = .ok (.iconst 3, 1) := by decide +kernel
theorem dL_law_741 : decode cL_law 741 = .ok (.iadd, 1) := by decide +kernel
theorem dL_law_742 : decode cL_law 742 = .ok (.iaload, 1) := by decide +kernel
theorem dL_law_743 : decode cL_law 743 = .ok (.invokevirtual 104, 3) := by decide +kernel
theorem dL_law_746 : decode cL_law 746 = .ok (.aload_n 2, 1) := by decide +kernel
theorem dL_law_747 : decode cL_law 747 = .ok (.aload_n 0, 1) := by decide +kernel
theorem dL_law_748 : decode cL_law 748 = .ok (.iload_n 3, 1) := by decide +kernel
theorem dL_law_749 : decode cL_law 749 = .ok (.iconst 1, 1) := by decide +kernel
theorem dL_law_750 : decode cL_law 750 = .ok (.iadd, 1) := by decide +kernel
theorem dL_law_751 : decode cL_law 751 = .ok (.iaload, 1) := by decide +kernel
theorem dL_law_752 : decode cL_law 752 = .ok (.aload_n 0, 1) := by decide +kernel
theorem dL_law_753 : decode cL_law 753 = .ok (.iload_n 3, 1) := by decide +kernel
theorem dL_law_754 : decode cL_law 754 = .ok (.iconst 2, 1) := by decide +kernel
theorem dL_law_755 : decode cL_law 755 = .ok (.iadd, 1) := by decide +kernel
theorem dL_law_756 : decode cL_law 756 = .ok (.iaload, 1) := by decide +kernel
theorem dL_law_757 : decode cL_law 757 = .ok (.aload_n 0, 1) := by decide +kernel
theorem dL_law_758 : decode cL_law 758 = .ok (.iload_n 3, 1) := by decide +kernel
theorem dL_law_759 : decode cL_law 759 = .ok (.iconst 3, 1) := by decide +kernel
theorem dL_law_760 : decode cL_law 760 = .ok (.iadd, 1) := by decide +kernel
theorem dL_law_761 : decode cL_law 761 = .ok (.iaload, 1) := by decide +kernel
theorem dL_law_762 : decode cL_law 762 = .ok (.invokevirtual 107, 3) := by decide +kernel
theorem dL_law_765 : decode cL_law 765 = .ok (.if_icmp .eq 166, 3) := by decide +kernel
theorem dL_law_768 : decode cL_law 768 = .ok (.iconst 0, 1) := by decide +kernel
theorem dL_law_769 : decode cL_law 769 = .ok (.ireturn, 1) := by decide +kernel
theorem dL_law_770 : decode cL_law 770 = .ok (.aload_n 1, 1) := by decide +kernel
theorem dL_law_771 : decode cL_law 771 = .ok (.invokevirtual 108, 3) := by decide +kernel
theorem dL_law_774 : decode cL_law 774 = .ok (.aload_n 2, 1) := by decide +kernel
theorem dL_law_775 : decode cL_law 775 = .ok (.invokevirtual 111, 3) := by decide +kernel
theorem dL_law_778 : decode cL_law 778 = .ok (.if_icmp .eq 153, 3) := by decide +kernel
theorem dL_law_781 : decode cL_law 781 = .ok (.iconst 0, 1) := by decide +kernel
theorem dL_law_782 : decode cL_law 782 = .ok (.ireturn, 1) := by decide +kernel
theorem dL_law_783 : decode cL_law 783 = .ok (.aload_n 1, 1) := by decide +kernel
theorem dL_law_784 : decode cL_law 784 = .ok (.aload_n 0, 1) := by decide +kernel
theorem dL_law_785 : decode cL_law 785 = .ok (.iload_n 3, 1) := by decide +kernel
theorem dL_law_786 : decode cL_law 786 = .ok (.iconst 1, 1) := by decide +kernel
theorem dL_law_787 : decode cL_law 787 = .ok (.iadd, 1) := by decide +kernel
theorem dL_law_788 : decode cL_law 788 = .ok (.iaload, 1) := by decide +kernel
theorem dL_law_789 : decode cL_law 789 = .ok (.aload_n 0, 1) := by decide +kernel
theorem dL_law_790 : decode cL_law 790 = .ok (.iload_n 3, 1) := by decide +kernel
theorem dL_law_791 : decode cL_law 791 = .ok (.iconst 2, 1) := by decide +kernel
theorem dL_law_792 : decode cL_law 792 = .ok (.iadd, 1) := by decide +kernel
theorem dL_law_793 : decode cL_law 793 = .ok (.iaload, 1) := by decide +kernel
theorem dL_law_794 : decode cL_law 794 = .ok (.aload_n 0, 1) := by decide +kernel
theorem dL_law_795 : decode cL_law 795 = .ok (.iload_n 3, 1) := by decide +kernel
theorem dL_law_796 : decode cL_law 796 = .ok (.iconst 3, 1) := by decide +kernel
theorem dL_law_797 : decode cL_law 797 = .ok (.iadd, 1) := by decide +kernel
theorem dL_law_798 : decode cL_law 798 = .ok (.iaload, 1) := by decide +kernel
theorem dL_law_799 : decode cL_law 799 = .ok (.invokevirtual 112, 3) := by decide +kernel
theorem dL_law_802 : decode cL_law 802 = .ok (.aload_n 2, 1) := by decide +kernel
theorem dL_law_803 : decode cL_law 803 = .ok (.aload_n 0, 1) := by decide +kernel
theorem dL_law_804 : decode cL_law 804 = .ok (.iload_n 3, 1) := by decide +kernel
theorem dL_law_805 : decode cL_law 805 = .ok (.iconst 1, 1) := by decide +kernel
theorem dL_law_806 : decode cL_law 806 = .ok (.iadd, 1) := by decide +kernel
theorem dL_law_807 : decode cL_law 807 = .ok (.iaload, 1) := by decide +kernel
theorem dL_law_808 : decode cL_law 808 = .ok (.aload_n 0, 1) := by decide +kernel
theorem dL_law_809 : decode cL_law 809 = .ok (.iload_n 3, 1) := by decide +kernel
theorem dL_law_810 : decode cL_law 810 = .ok (.iconst 2, 1) := by decide +kernel
theorem dL_law_811 : decode cL_law 811 = .ok (.iadd, 1) := by decide +kernel
theorem dL_law_812 : decode cL_law 812 = .ok (.iaload, 1) := by decide +kernel
theorem dL_law_813 : decode cL_law 813 = .ok (.aload_n 0, 1) := by decide +kernel
theorem dL_law_814 : decode cL_law 814 = .ok (.iload_n 3, 1) := by decide +kernel
theorem dL_law_815 : decode cL_law 815 = .ok (.iconst 3, 1) := by decide +kernel
theorem dL_law_816 : decode cL_law 816 = .ok (.iadd, 1) := by decide +kernel
theorem dL_law_817 : decode cL_law 817 = .ok (.iaload, 1) := by decide +kernel
theorem dL_law_818 : decode cL_law 818 = .ok (.invokevirtual 115, 3) := by decide +kernel
theorem dL_law_821 : decode cL_law 821 = .ok (.if_icmp .eq 110, 3) := by decide +kernel
theorem dL_law_824 : decode cL_law 824 = .ok (.iconst 0, 1) := by decide +kernel
theorem dL_law_825 : decode cL_law 825 = .ok (.ireturn, 1) := by decide +kernel
theorem dL_law_826 : decode cL_law 826 = .ok (.aload_n 1, 1) := by decide +kernel
theorem dL_law_827 : decode cL_law 827 = .ok (.aload_n 0, 1) := by decide +kernel
theorem dL_law_828 : decode cL_law 828 = .ok (.iload_n 3, 1) := by decide +kernel
theorem dL_law_829 : decode cL_law 829 = .ok (.iconst 1, 1) := by decide +kernel
theorem dL_law_830 : decode cL_law 830 = .ok (.iadd, 1) := by decide +kernel
theorem dL_law_831 : decode cL_law 831 = .ok (.iaload, 1) := by decide +kernel
theorem dL_law_832 : decode cL_law 832 = .ok (.invokevirtual 116, 3) := by decide +kernel
theorem dL_law_835 : decode cL_law 835 = .ok (.aload_n 2, 1) := by decide +kernel
theorem dL_law_836 : decode cL_law 836 = .ok (.aload_n 0, 1) := by decide +kernel
theorem dL_law_837 : decode cL_law 837 = .ok (.iload_n 3, 1) := by decide +kernel
theorem dL_law_838 : decode cL_law 838 = .ok (.iconst 1, 1) := by decide +kernel
theorem dL_law_839 : decode cL_law 839 = .ok (.iadd, 1) := by decide +kernel
theorem dL_law_840 : decode cL_law 840 = .ok (.iaload, 1) := by decide +kernel
theorem dL_law_841 : decode cL_law 841 = .ok (.invokevirtual 119, 3) := by decide +kernel
theorem dL_law_844 : decode cL_law 844 = .ok (.if_icmp .eq 87, 3) := by decide +kernel
theorem dL_law_847 : decode cL_law 847 = .ok (.iconst 0, 1) := by decide +kernel
theorem dL_law_848 : decode cL_law 848 = .ok (.ireturn, 1) := by decide +kernel
theorem dL_law_849 : decode cL_law 849 = .ok (.aload_n 1, 1) := by decide +kernel
theorem dL_law_850 : decode cL_law 850 = .ok (.aload_n 0, 1) := by decide +kernel
theorem dL_law_851 : decode cL_law 851 = .ok (.iload_n 3, 1) := by decide +kernel
theorem dL_law_852 : decode cL_law 852 = .ok (.iconst 1, 1) := by decide +kernel
theorem dL_law_853 : decode cL_law 853 = .ok (.iadd, 1) := by decide +kernel
theorem dL_law_854 : decode cL_law 854 = .ok (.iaload, 1) := by decide +kernel
theorem dL_law_855 : decode cL_law 855 = .ok (.aload_n 0, 1) := by decide +kernel
theorem dL_law_856 : decode cL_law 856 = .ok (.iload_n 3, 1) := by decide +kernel
theorem dL_law_857 : decode cL_law 857 = .ok (.iconst 2, 1) := by decide +kernel
theorem dL_law_858 : decode cL_law 858 = .ok (.iadd, 1) := by decide +kernel
theorem dL_law_859 : decode cL_law 859 = .ok (.iaload, 1) := by decide +kernel
theorem dL_law_860 : decode cL_law 860 = .ok (.invokevirtual 120, 3) := by decide +kernel
theorem dL_law_863 : decode cL_law 863 = .ok (.aload_n 2, 1) := by decide +kernel
theorem dL_law_864 : decode cL_law 864 = .ok (.aload_n 0, 1) := by decide +kernel
theorem dL_law_865 : decode cL_law 865 = .ok (.iload_n 3, 1) := by decide +kernel
theorem dL_law_866 : decode cL_law 866 = .ok (.iconst 1, 1) := by decide +kernel
theorem dL_law_867 : decode cL_law 867 = .ok (.iadd, 1) := by decide +kernel
theorem dL_law_868 : decode cL_law 868 = .ok (.iaload, 1) := by decide +kernel
theorem dL_law_869 : decode cL_law 869 = .ok (.aload_n 0, 1) := by decide +kernel
theorem dL_law_870 : decode cL_law 870 = .ok (.iload_n 3, 1) := by decide +kernel
theorem dL_law_871 : decode cL_law 871 = .ok (.iconst 2, 1) := by decide +kernel
theorem dL_law_872 : decode cL_law 872 = .ok (.iadd, 1) := by decide +kernel
theorem dL_law_873 : decode cL_law 873 = .ok (.iaload, 1) := by decide +kernel
theorem dL_law_874 : decode cL_law 874 = .ok (.invokevirtual 123, 3) := by decide +kernel
theorem dL_law_877 : decode cL_law 877 = .ok (.if_icmp .eq 54, 3) := by decide +kernel
theorem dL_law_880 : decode cL_law 880 = .ok (.iconst 0, 1) := by decide +kernel
theorem dL_law_881 : decode cL_law 881 = .ok (.ireturn, 1) := by decide +kernel
theorem dL_law_882 : decode cL_law 882 = .ok (.aload_n 1, 1) := by decide +kernel
theorem dL_law_883 : decode cL_law 883 = .ok (.invokevirtual 124, 3) := by decide +kernel
theorem dL_law_886 : decode cL_law 886 = .ok (.aload_n 2, 1) := by decide +kernel
theorem dL_law_887 : decode cL_law 887 = .ok (.invokevirtual 127, 3) := by decide +kernel
theorem dL_law_890 : decode cL_law 890 = .ok (.if_icmp .eq 41, 3) := by decide +kernel
theorem dL_law_893 : decode cL_law 893 = .ok (.iconst 0, 1) := by decide +kernel
theorem dL_law_894 : decode cL_law 894 = .ok (.ireturn, 1) := by decide +kernel
theorem dL_law_895 : decode cL_law 895 = .ok (.aload_n 1, 1) := by decide +kernel
theorem dL_law_896 : decode cL_law 896 = .ok (.invokevirtual 128, 3) := by decide +kernel
theorem dL_law_899 : decode cL_law 899 = .ok (.aload_n 2, 1) := by decide +kernel
theorem dL_law_900 : decode cL_law 900 = .ok (.invokevirtual 131, 3) := by decide +kernel
theorem dL_law_903 : decode cL_law 903 = .ok (.if_icmp .eq 28, 3) := by decide +kernel
theorem dL_law_906 : decode cL_law 906 = .ok (.iconst 0, 1) := by decide +kernel
theorem dL_law_907 : decode cL_law 907 = .ok (.ireturn, 1) := by decide +kernel
theorem dL_law_908 : decode cL_law 908 = .ok (.aload_n 1, 1) := by decide +kernel
theorem dL_law_909 : decode cL_law 909 = .ok (.aload_n 0, 1) := by decide +kernel
theorem dL_law_910 : decode cL_law 910 = .ok (.iload_n 3, 1) := by decide +kernel
theorem dL_law_911 : decode cL_law 911 = .ok (.iconst 1, 1) := by decide +kernel
theorem dL_law_912 : decode cL_law 912 = .ok (.iadd, 1) := by decide +kernel
theorem dL_law_913 : decode cL_law 913 = .ok (.iaload, 1) := by decide +kernel
theorem dL_law_914 : decode cL_law 914 = .ok (.invokevirtual 132, 3) := by decide +kernel
theorem dL_law_917 : decode cL_law 917 = .ok (.aload_n 2, 1) := by decide +kernel
theorem dL_law_918 : decode cL_law 918 = .ok (.aload_n 0, 1) := by decide +kernel
theorem dL_law_919 : decode cL_law 919 = .ok (.iload_n 3, 1) := by decide +kernel
theorem dL_law_920 : decode cL_law 920 = .ok (.iconst 1, 1) := by decide +kernel
theorem dL_law_921 : decode cL_law 921 = .ok (.iadd, 1) := by decide +kernel
theorem dL_law_922 : decode cL_law 922 = .ok (.iaload, 1) := by decide +kernel
theorem dL_law_923 : decode cL_law 923 = .ok (.invokevirtual 135, 3) := by decide +kernel
theorem dL_law_926 : decode cL_law 926 = .ok (.if_icmp .eq 5, 3) := by decide +kernel
theorem dL_law_929 : decode cL_law 929 = .ok (.iconst 0, 1) := by decide +kernel
theorem dL_law_930 : decode cL_law 930 = .ok (.ireturn, 1) := by decide +kernel
theorem dL_law_931 : decode cL_law 931 = .ok (.iinc 3 4, 3) := by decide +kernel
theorem dL_law_934 : decode cL_law 934 = .ok (.goto (-916), 3) := by decide +kernel
theorem dL_law_937 : decode cL_law 937 = .ok (.iconst 1, 1) := by decide +kernel
theorem dL_law_938 : decode cL_law 938 = .ok (.ireturn, 1) := by decide +kernel
end
section
/-! THE FRAME. Pure memory M : handle → place → Int32; an environment E: addresses of handles, class ids, slots, array classes, the formatter; a group G: how many handles, and what cell each is. fx_V: a method's walk, said over pure memory alone; fx_T: its contract. -/
abbrev fxMem : Type := Nat → Nat → Int32
abbrev fxE : Type := (Nat → Nat) × (Nat → ClassId) × (Nat → Nat → Nat) × (Nat → ClassId) × Option Nat
abbrev fxG : Type := Nat × ((Nat → Nat) → (Nat → ClassId) → Nat → (Nat → Int32) → va_E)
abbrev fxM : Type := MethodName × ByteArray × Nat × Option FieldType × Nat × Nat
def fx_tr (E : fxE) (v : Value) : Value := match v with
  | .ref k => .ref (E.1 k)
  | .float _ => va_rf E.2.2.2.2
  | v => v
theorem fx_cat (E : fxE) (v : Value) : (fx_tr E v).category = v.category := by
  cases v with
  | float x =>
    show (va_rf E.2.2.2.2).category = _
    cases E.2.2.2.2 <;> rfl
  | _ => rfl
def fx_tl (E : fxE) (lv : List (Nat × Value)) : List (Nat × Value) := lv.map (fun q => (q.1, fx_tr E q.2))
def fx_w (G : fxG) (E : fxE) (M : fxMem) : va_W := (List.range G.1).map (fun k => (E.1 k, G.2 E.1 E.2.2.2.1 k (M k)))
def fx_up (M : fxMem) (k : Nat) (f : Nat → Int32) : fxMem := fun j => if j = k then f else M j
def fx_st (M : fxMem) (k j : Nat) (x : Int32) : fxMem := fx_up M k (upd (M k) j x)
def fx_A (G : fxG) (E : fxE) (sz : Nat) : Nat → Prop := fun q => (∃ k, k < G.1 ∧ q = E.1 k) ∨ sz ≤ q
def fx_tys (E : fxE) : List (ClassId × FieldType) := [(E.2.2.2.1 0, .int), (E.2.2.2.1 1, .byte), (E.2.2.2.1 2, .boolean), (E.2.2.2.1 3, .object RX3)]
theorem fx_w_at {G : fxG} {E : fxE} {M : fxMem} {k : Nat} (hk : k < G.1) : (fx_w G E M)[k]? = some (E.1 k, G.2 E.1 E.2.2.2.1 k (M k)) := by
  simp [fx_w, hk]
theorem fx_w_set {G : fxG} {E : fxE} {M : fxMem} {k : Nat} (hk : k < G.1) (f : Nat → Int32) : (fx_w G E M).set k (E.1 k, G.2 E.1 E.2.2.2.1 k f) = fx_w G E (fx_up M k f) := by
  apply List.ext_getElem?
  intro i
  rw [List.getElem?_set]
  by_cases hi : k = i
  · subst hi
    rw [if_pos rfl, if_pos (by simp [fx_w, hk]), fx_w_at hk]
    simp [fx_up]
  · rw [if_neg hi]
    by_cases hl : i < G.1
    · rw [fx_w_at hl, fx_w_at hl]
      simp [fx_up, Ne.symm hi]
    · simp [fx_w, hl]
theorem fx_D {G : fxG} {E : fxE} (h : ∀ i j, i < G.1 → j < G.1 → E.1 i = E.1 j → i = j) (M : fxMem) (sz : Nat) : va_D (fx_A G E sz) (fx_w G E M) := by
  have key : ∀ (i : Nat) (q : Nat × va_E), (fx_w G E M)[i]? = some q → i < G.1 ∧ q.1 = E.1 i := by
    intro i q hq
    by_cases hl : i < G.1
    · rw [fx_w_at hl] at hq
      cases hq
      exact ⟨hl, rfl⟩
    · simp [fx_w, hl] at hq
  refine ⟨fun i j a b ha hb e => ?_, fun k q hq => ?_⟩
  · obtain ⟨h1, h2⟩ := key i a ha
    obtain ⟨h3, h4⟩ := key j b hb
    exact h i j h1 h3 (by rw [← h2, ← h4]; exact e)
  · obtain ⟨h1, h2⟩ := key k q hq
    exact Or.inl ⟨k, h1, h2⟩
/-! what stands outside and never changes: String constants, static arrays, nest words -/
def kxS : List (String × Nat × String × List Int32) := [
  ("FieldBand$Sound", 31, "prckv", [112, 114, 99, 107, 118]),
  ("FieldBand$Reader", 82, "loud", [108, 111, 117, 100]),
  ("FieldBand$Reader", 84, "late", [108, 97, 116, 101]),
  ("FieldBand$Reader", 86, "speed", [115, 112, 101, 101, 100]),
  ("FieldBand$Reader", 88, "beat", [98, 101, 97, 116]),
  ("FieldBand$Reader", 90, "step", [115, 116, 101, 112]),
  ("FieldBand$Reader", 47, " ", [32]),
  ("FieldBand$Reader", 134, "0123456789", [48, 49, 50, 51, 52, 53, 54, 55, 56, 57]),
  ("FieldBand$Reader", 114, "!", [33]),
  ("FieldBand$Reader", 116, "(", [40]),
  ("FieldBand$Reader", 118, ")", [41]),
  ("FieldBand$Reader", 123, "prckv", [112, 114, 99, 107, 118]),
  ("FieldBand$Reader", 128, "<=>", [60, 61, 62]),
  ("FieldBand$Reader", 112, "&", [38]),
  ("FieldBand$Reader", 103, "|", [124]),
  ("FieldBand$Reader", 37, ";", [59]),
  ("FieldBandModel", 109, "oud ", [111, 117, 100, 32]),
  ("FieldBandModel", 91, "prckv", [112, 114, 99, 107, 118]),
  ("FieldBandModel", 97, "<=>", [60, 61, 62]),
  ("FieldBandModel", 115, "ate ", [97, 116, 101, 32]),
  ("FieldBandModel", 117, "peed ", [112, 101, 101, 100, 32]),
  ("FieldBandModel", 122, "tep ", [116, 101, 112, 32]),
  ("FieldBandModel", 124, "beat ", [98, 101, 97, 116, 32])]
def kx_at (i : Nat) : String × Nat × String × List Int32 := kxS.getD i ("", 0, "", [])
def kx_b (i : Nat) : List Int32 := (kx_at i).2.2.2
def kxA : List (String × String × List Int32) := [("FieldBand", "ABOVE", [-1, 0, 0, 0, 1, 2, 3]), ("FieldBand$Deed", "GOES_BODIES", [1, 11, -1, -1, -1, 51, -1]), ("FieldBand$Deed", "PLAYS_BODIES", [2, -1, 21, -1, -1, -1, 61]), ("FieldBand$Deed", "FITS_BODIES", [3, -1, -1, 31, 41, -1, -1])]
def kx_a (j : Nat) : String × String × List Int32 := kxA.getD j ("", "", [])
def kxN : List (String × Nat × MethodName × String) := [("FieldBand", 11, yX1_init, "FieldBand"), ("FieldBand", 40, yX0_init, "FieldBand"), ("FieldBand", 45, yX3_init, "FieldBand"), ("FieldBand$Sound", 86, yX6_rowOf, "FieldBand"), ("FieldBand$Sound", 89, yX6_columnOf, "FieldBand"), ("FieldBand$Sound", 104, yX6_isUnder, "FieldBand"), ("FieldBand$Sound", 114, yX6_far, "FieldBand"), ("FieldBand$Sound", 117, yX6_placeOfSeat, "FieldBand"), ("FieldBand$Ways", 57, yX6_far, "FieldBand"), ("FieldBand$Field", 56, yX6_rowOf, "FieldBand"), ("FieldBand$Field", 60, yX6_columnOf, "FieldBand")]
def fx_str (E : fxE) (A : Nat → Prop) (U : State) (H : Heap) (i : Nat) : Prop := va_O "java/lang/String" (E.1 (1000 + i)) A U H ∧ va_OF "java/lang/String" "coder" "B" (.int 0) (E.1 (1000 + i)) A U H ∧ va_OF "java/lang/String" "value" "[B" (.ref (E.1 (2000 + i))) (E.1 (1000 + i)) A U H ∧ va_T .byte (E.1 (2000 + i)) (kx_b i).length (fun j => .int ((kx_b i).getD j 0)) A U H
def fx_K (E : fxE) (A : Nat → Prop) (U : State) (H : Heap) : Prop :=
  (∀ i, i < 23 → fx_str E A U H i ∧ vk_R (kx_at i).1 (kx_at i).2.1 (kx_at i).2.2.1 (E.1 (1000 + i)) U) ∧ va_Z "java/lang/String" "COMPACT_STRINGS" "Z" (.int 1) A U H ∧ va_Z "jdk/internal/util/Preconditions" "SIOOBE_FORMATTER" "Ljava/util/function/BiFunction;" (va_rf E.2.2.2.2) A U H ∧ (∀ j, j < 4 → va_Z (kx_a j).1 (kx_a j).2.1 "[I" (.ref (E.1 (3000 + j))) A U H ∧ va_T .int (E.1 (3000 + j)) 7 (fun i => .int ((kx_a j).2.2.getD i 0)) A U H) ∧ (∀ q ∈ kxN, va_Nw (.methodLinkNest q.1 q.2.1 q.2.2.1 q.2.2.2) U) ∧ va_Nw (.fieldLinkNest "FieldBand$Deed" 32 "FieldBand" "ABOVE" "[I" "FieldBand") U
theorem fx_K.go {E : fxE} {A B : Nat → Prop} {s U : State} (h : fx_K E A s s.heap) (hal : s.vm.Alike U.vm) (hR : ∀ (own tx : String) (k a : Nat), vk_R own k tx a s → vk_R own k tx a U) (hM : ∀ (a : String) (i : Nat) (x : MethodName) (b : String), va_Nw (.methodLinkNest a i x b) s → va_Nw (.methodLinkNest a i x b) U) (hF : ∀ (a : String) (i : Nat) (b n d h : String), va_Nw (.fieldLinkNest a i b n d h) s → va_Nw (.fieldLinkNest a i b n d h) U) (hq : ∀ a : Nat, a < s.heap.size → ¬ A a → U.heap[a]? = s.heap[a]?) (hAB : ∀ q, B q → A q) : fx_K E B U U.heap := by
  obtain ⟨h1, h2, h3, h4, h5, h6⟩ := h
  refine ⟨fun i hi => ?_, ((va_Z.moved hal h2).kept hq).narrow hAB, ((va_Z.moved hal h3).kept hq).narrow hAB, fun j hj => ?_, fun q hq => hM _ _ _ _ (h5 q hq), hF _ _ _ _ _ _ h6⟩
  · obtain ⟨⟨a1, a2, a3, a4⟩, a5⟩ := h1 i hi
    exact ⟨⟨((va_O.moved hal a1).kept hq).narrow hAB, ((va_OF.moved hal a2).kept hq).narrow hAB, ((va_OF.moved hal a3).kept hq).narrow hAB, ((va_T.moved hal a4).kept hq).narrow hAB⟩, hR _ _ _ _ a5⟩
  · obtain ⟨a1, a2⟩ := h4 j hj
    exact ⟨((va_Z.moved hal a1).kept hq).narrow hAB, ((va_T.moved hal a2).kept hq).narrow hAB⟩
def fx_C (G : fxG) (E : fxE) (A : Nat → Prop) (U : State) (H : Heap) : Prop := va_K (E.2.1, E.2.2.1) vwCl (fx_tys E) U ∧ (∀ i j, i < G.1 → j < G.1 → E.1 i = E.1 j → i = j) ∧ fx_K E A U H
theorem fx_C.call {G : fxG} {E : fxE} {s U : State} {H : Heap} {locs : List Loc} (h : fx_C G E (fx_A G E s.heap.size) s s.heap) (hS : va_S (fx_A G E s.heap.size) s.heap H locs) (hU : U.heap = H) (hW : s.WarmedH U.vm) : fx_C G E (fx_A G E U.heap.size) U U.heap := by
  obtain ⟨h1, h2, h3⟩ := h
  refine ⟨va_K.moved hW.alike h1, h2, h3.go hW.alike (fun _ _ _ _ z => z.warm hW) (fun _ _ _ _ z => va_Nw.warmM hW z) (fun _ _ _ _ _ _ z => va_Nw.warmF hW z) (fun a ha hn => by rw [hU]; exact hS.2.1 a ha hn) (fun q hq => ?_)⟩
  rcases hq with z | z
  · exact Or.inl z
  · exact Or.inr (Nat.le_trans (by rw [hU]; exact hS.1) z)
theorem fx_C.same {G : fxG} {E : fxE} {A : Nat → Prop} {u U : State} (hv : U.vm = u.vm) (hh : U.heap = u.heap) (h : fx_C G E A u u.heap) : fx_C G E A U U.heap := by
  obtain ⟨h1, h2, h3⟩ := h
  have hal : u.vm.Alike U.vm := by rw [hv]; exact Vm.Alike.refl u.vm
  exact ⟨va_K.moved hal h1, h2, h3.go hal (fun _ _ _ _ z => vk_R.same hv z) (fun _ _ _ _ z => va_Nw.same rfl hv.symm z) (fun _ _ _ _ _ _ z => va_Nw.same rfl hv.symm z) (fun a _ _ => by rw [hh]) (fun _ z => z)⟩
/-! contracts -/
def fx_P (G : fxG) (E : fxE) (as : List Value) (M : fxMem) (sz : Nat) : Array Value → State → Prop := fun a U => a = (as.map (fx_tr E)).toArray ∧ U.heap.size = sz ∧ va_P (E.2.1, E.2.2.1) vwCl (fx_w G E M) U.heap ∧ fx_C G E (fx_A G E sz) U U.heap
def fx_Q (G : fxG) (E : fxE) (Q : Option Value → fxMem → Prop) : Array Value → State → Outcome → State → Prop := fun _ st oc t => (∃ (v : Option Value) (M : fxMem), oc = .returned (v.map (fx_tr E)) ∧ Q v M ∧ va_P (E.2.1, E.2.2.1) vwCl (fx_w G E M) t.heap) ∧ va_F (fx_A G E st.heap.size) st t
def fx_ws (mt : fxM) : List Cond := Cond.code mt.1 mt.2.1 mt.2.2.1 mt.2.2.2.1 :: wsL_law
def fx_rm (mt : fxM) : Room := { frames := mt.2.2.2.2.1, cells := 0, slots := 0, locals := mt.2.2.2.2.2 }
def fx_T (G : fxG) (mt : fxM) (as : List Value) (M : fxMem) (Q : Option Value → fxMem → Prop) : Prop := ∀ (l : Launch) (E : fxE) (sz : Nat), Met l mt.1 (fx_ws mt) (fx_rm mt) (fx_P G E as M sz) (fx_Q G E Q) 0 0 (fx_A G E sz)
/-! the judgement -/
def fx_X (G : fxG) (mt : fxM) (p : Program) (s : State) (m : MethodId) (args : Array Value) (meth : Method) (c : Code) (E : fxE) : Prop := p.tables.exec = Jvm.exec ∧ c.code = mt.2.1 ∧ meth.sig.returnType = mt.2.2.2.1 ∧ c.maxLocals = mt.2.2.1 ∧ s.vm.findClass mt.1.cls = some m.cls ∧ (∀ w ∈ wsL_law, w.before args s = true) ∧ meth.locks = false ∧ fx_C G E (fx_A G E s.heap.size) s s.heap
def fx_V (G : fxG) (mt : fxM) (Q : Option Value → fxMem → Prop) (pc : Nat) (lv : List (Nat × Value)) (st : List Value) (M : fxMem) : Prop :=
  ∀ (p : Program) (l : Launch) (e : Env) (s : State) (m : MethodId) (args : Array Value) (below : List Frame) (meth : Method) (c : Code) (E : fxE), fx_X G mt p s m args meth c E → ∀ (H : Heap) (locs : List Loc) (ls : Array Slot), va_P (E.2.1, E.2.2.1) vwCl (fx_w G E M) H → va_S (fx_A G E s.heap.size) s.heap H locs → lv_has ls mt.2.2.1 (fx_tl E lv) →
    W p l e (fx_rm mt) s m args below meth c H locs 0 0 (MQ below (fx_Q G E Q) args s 0 0 (fx_A G E s.heap.size)) (F0 m pc ls (st.map (fx_tr E)))
theorem fx_enter {G : fxG} {mt : fxM} {as : List Value} {M : fxMem} {Q : Option Value → fxMem → Prop} (lv : List (Nat × Value)) (hy : plainName mt.1.cls = true) (hlv : ∀ E : fxE, lv_args 0 (as.map (fx_tr E)) = fx_tl E lv) (hlen : ∀ E : fxE, (lg_sl (as.map (fx_tr E))).length ≤ mt.2.2.1) (h : fx_V G mt Q 0 lv [] M) : fx_T G mt as M Q := by
  intro l E sz
  refine Met.ofW (cc := mt.2.1) (maxL := mt.2.2.1) (ret := mt.2.2.2.1) hy rfl ?_
  intro p e s m args below meth c s₁ B hml hv
  obtain ⟨rfl, rfl, hP, hC⟩ := hv
  have hts := atoms_spec (ws := fx_ws mt) B.pre
  have hown : s.vm.findClass mt.1.cls = some m.cls := findClass_of_methodNamed B.named
  have hl := lv_entry (as.map (fx_tr E)) (hlen E)
  rw [lg_entry_eq]
  generalize (lg_sl (as.map (fx_tr E)) ++ List.replicate (mt.2.2.1 - (lg_sl (as.map (fx_tr E))).length) Slot.unset).toArray = ls at hl ⊢
  rw [hlv] at hl
  exact h p l e s m _ below meth c E ⟨B.exec, B.bytes, B.returns, hml, hown, fun w hw => hts w (List.mem_cons_of_mem _ hw), B.notSynchronized, hC⟩ s.heap [] ls hP va_S.rf hl
end
section
/-! ROWS over fx_V: an instruction each -/
theorem fx_tl_at {E : fxE} {lv : List (Nat × Value)} {j i : Nat} {v : Value} (h : lv[j]? = some (i, v)) : (fx_tl E lv)[j]? = some (i, fx_tr E v) := by
  simp [fx_tl, h]
theorem fx_tl_f (E : fxE) (lv : List (Nat × Value)) (i : Nat) : (fx_tl E lv).filter (fun q => !(q.1 == i) && !(q.1 + 1 == i && q.2.category == 2)) = fx_tl E (lv.filter (fun q => !(q.1 == i) && !(q.1 + 1 == i && q.2.category == 2))) := by
  simp only [fx_tl, List.filter_map]
  congr 1
  apply List.filter_congr
  intro q _
  simp [Function.comp, fx_cat]
theorem fx_tl_st {E : fxE} {lv lv' : List (Nat × Value)} {i : Nat} {v : Value} (h : (i, v) :: lv.filter (fun q => !(q.1 == i) && !(q.1 + 1 == i && q.2.category == 2)) = lv') : (i, fx_tr E v) :: (fx_tl E lv).filter (fun q => !(q.1 == i) && !(q.1 + 1 == i && q.2.category == 2)) = fx_tl E lv' := by
  rw [fx_tl_f, ← h]
  rfl
theorem fx_sum (E : fxE) (st : List Value) : ((st.map (fx_tr E)).map fun v => v.category).sum = (st.map fun v => v.category).sum := by
  rw [List.map_map]
  congr 1
  apply List.map_congr_left
  intro v _
  exact fx_cat E v
def fx_in (i : Int32) (n : Nat) : Bool := decide (0 ≤ i) && decide (i.toNatClampNeg < n)
theorem fx_in_ok {i : Int32} {n : Nat} (h : fx_in i n = true) : vp_in i n := by
  simp only [fx_in, Bool.and_eq_true, decide_eq_true_eq] at h
  intro q
  rcases q with q | q
  · exact (Int32.not_lt.mpr h.1) q
  · omega
section FXR
variable {G : fxG} {mt : fxM} {Q : Option Value → fxMem → Prop} {lv lv' : List (Nat × Value)} {st : List Value} {M : fxMem}
theorem fx_sub (ks : List Nat) {pc : Nat} (h : lv_pick lv ks = lv') (k : fx_V G mt Q pc lv' st M) : fx_V G mt Q pc lv st M := by
  intro p l e s m args below meth c E X H locs ls hP hS hl
  refine k p l e s m args below meth c E X H locs ls hP hS (lv_sub hl ks ?_)
  rw [← h]
  simp only [lv_pick, fx_tl, List.map_filterMap]
  congr 1
  funext j
  simp
theorem fx_iconst (pc : Nat) {n : Int} {x : Int32} (hd : decode mt.2.1 pc = .ok (.iconst n, 1)) (hv : Int32.ofInt n = x) (k : fx_V G mt Q (pc + 1) lv (.int x :: st) M) : fx_V G mt Q pc lv st M :=
  fun p l e s m args below meth c E X H locs ls hP hS hl => lv_iconst X.1 X.2.1 hd hv (k p l e s m args below meth c E X H locs ls hP hS hl)
theorem fx_bipush (pc : Nat) {n : Int} {x : Int32} (hd : decode mt.2.1 pc = .ok (.bipush n, 2)) (hv : (Int8.ofInt n).toInt32 = x) (k : fx_V G mt Q (pc + 2) lv (.int x :: st) M) : fx_V G mt Q pc lv st M :=
  fun p l e s m args below meth c E X H locs ls hP hS hl => lv_bipush X.1 X.2.1 hd hv (k p l e s m args below meth c E X H locs ls hP hS hl)
theorem fx_sipush (pc : Nat) {n : Int} {x : Int32} (hd : decode mt.2.1 pc = .ok (.sipush n, 3)) (hv : (Int16.ofInt n).toInt32 = x) (k : fx_V G mt Q (pc + 3) lv (.int x :: st) M) : fx_V G mt Q pc lv st M :=
  fun p l e s m args below meth c E X H locs ls hP hS hl => lv_sipush X.1 X.2.1 hd hv (k p l e s m args below meth c E X H locs ls hP hS hl)
theorem fx_ldc (pc : Nat) {idx : Nat} {x : Int32} (hd : decode mt.2.1 pc = .ok (.ldc idx, 2)) (hc : Cond.constant mt.1.cls idx x ∈ wsL_law) (k : fx_V G mt Q (pc + 2) lv (.int x :: st) M) : fx_V G mt Q pc lv st M :=
  fun p l e s m args below meth c E X H locs ls hP hS hl => lv_ldc X.1 X.2.1 X.2.2.2.2.1 (X.2.2.2.2.2.1 _ hc) hd (k p l e s m args below meth c E X H locs ls hP hS hl)
theorem fx_ldc2 (pc : Nat) {idx : Nat} {x : Int64} (hd : decode mt.2.1 pc = .ok (.ldc2_w idx, 3)) (hc : Cond.constantLong mt.1.cls idx x ∈ wsL_law) (k : fx_V G mt Q (pc + 3) lv (.long x :: st) M) : fx_V G mt Q pc lv st M :=
  fun p l e s m args below meth c E X H locs ls hP hS hl => lv_ldc2 X.1 X.2.1 X.2.2.2.2.1 (X.2.2.2.2.2.1 _ hc) hd (k p l e s m args below meth c E X H locs ls hP hS hl)
theorem fx_ldcS (pc : Nat) {idx : Nat} (i : Nat) (hi : i < 23) (hd : decode mt.2.1 pc = .ok (.ldc idx, 2)) (hc : (kx_at i).1 = mt.1.cls ∧ (kx_at i).2.1 = idx) (k : fx_V G mt Q (pc + 2) lv (.ref (1000 + i) :: st) M) : fx_V G mt Q pc lv st M := by
  intro p l e s m args below meth c E X H locs ls hP hS hl
  have h := (X.2.2.2.2.2.2.2.2.2.1 i hi).2
  rw [hc.1, hc.2] at h
  exact va_ldcS X.1 X.2.1 X.2.2.2.2.1 h hd (k p l e s m args below meth c E X H locs ls hP hS hl)
theorem fx_iload_n (pc : Nat) {kf : Fin 4} {i : Nat} {x : Int32} (hd : decode mt.2.1 pc = .ok (.iload_n kf, 1)) (hi : (kf : Nat) = i) (j : Nat) (hj : lv[j]? = some (i, .int x)) (k : fx_V G mt Q (pc + 1) lv (.int x :: st) M) : fx_V G mt Q pc lv st M :=
  fun p l e s m args below meth c E X H locs ls hP hS hl => lv_iload_n X.1 X.2.1 hd hi (lv_at hl j (fx_tl_at hj)) (k p l e s m args below meth c E X H locs ls hP hS hl)
theorem fx_iload (pc : Nat) {i : Nat} {x : Int32} (hd : decode mt.2.1 pc = .ok (.iload i, 2)) (j : Nat) (hj : lv[j]? = some (i, .int x)) (k : fx_V G mt Q (pc + 2) lv (.int x :: st) M) : fx_V G mt Q pc lv st M :=
  fun p l e s m args below meth c E X H locs ls hP hS hl => lv_iload X.1 X.2.1 hd (lv_at hl j (fx_tl_at hj)) (k p l e s m args below meth c E X H locs ls hP hS hl)
theorem fx_lload_n (pc : Nat) {kf : Fin 4} {i : Nat} {x : Int64} (hd : decode mt.2.1 pc = .ok (.lload_n kf, 1)) (hi : (kf : Nat) = i) (j : Nat) (hj : lv[j]? = some (i, .long x)) (k : fx_V G mt Q (pc + 1) lv (.long x :: st) M) : fx_V G mt Q pc lv st M :=
  fun p l e s m args below meth c E X H locs ls hP hS hl => lv_lload_n X.1 X.2.1 hd hi (lv_at hl j (fx_tl_at hj)) (k p l e s m args below meth c E X H locs ls hP hS hl)
theorem fx_aload_n (pc : Nat) {kf : Fin 4} {i x : Nat} (hd : decode mt.2.1 pc = .ok (.aload_n kf, 1)) (hi : (kf : Nat) = i) (j : Nat) (hj : lv[j]? = some (i, .ref x)) (k : fx_V G mt Q (pc + 1) lv (.ref x :: st) M) : fx_V G mt Q pc lv st M :=
  fun p l e s m args below meth c E X H locs ls hP hS hl => lv_aload_n X.1 X.2.1 hd hi (lv_at hl j (fx_tl_at hj)) (k p l e s m args below meth c E X H locs ls hP hS hl)
theorem fx_istore_n (pc : Nat) {kf : Fin 4} {i : Nat} {x : Int32} (hd : decode mt.2.1 pc = .ok (.istore_n kf, 1)) (hi : (kf : Nat) = i) (hn : i < mt.2.2.1) (hlv : (i, Value.int x) :: lv.filter (fun q => !(q.1 == i) && !(q.1 + 1 == i && q.2.category == 2)) = lv') (k : fx_V G mt Q (pc + 1) lv' st M) : fx_V G mt Q pc lv (.int x :: st) M :=
  fun p l e s m args below meth c E X H locs ls hP hS hl => lv_istore_n X.1 X.2.1 hd hi hl hn (fx_tl_st hlv) (fun ls' hl' => k p l e s m args below meth c E X H locs ls' hP hS hl')
theorem fx_istore (pc : Nat) {i : Nat} {x : Int32} (hd : decode mt.2.1 pc = .ok (.istore i, 2)) (hn : i < mt.2.2.1) (hlv : (i, Value.int x) :: lv.filter (fun q => !(q.1 == i) && !(q.1 + 1 == i && q.2.category == 2)) = lv') (k : fx_V G mt Q (pc + 2) lv' st M) : fx_V G mt Q pc lv (.int x :: st) M :=
  fun p l e s m args below meth c E X H locs ls hP hS hl => lv_istore X.1 X.2.1 hd hl hn (fx_tl_st hlv) (fun ls' hl' => k p l e s m args below meth c E X H locs ls' hP hS hl')
theorem fx_astore_n (pc : Nat) {kf : Fin 4} {i x : Nat} (hd : decode mt.2.1 pc = .ok (.astore_n kf, 1)) (hi : (kf : Nat) = i) (hn : i < mt.2.2.1) (hlv : (i, Value.ref x) :: lv.filter (fun q => !(q.1 == i) && !(q.1 + 1 == i && q.2.category == 2)) = lv') (k : fx_V G mt Q (pc + 1) lv' st M) : fx_V G mt Q pc lv (.ref x :: st) M :=
  fun p l e s m args below meth c E X H locs ls hP hS hl => lv_astore_n X.1 X.2.1 hd hi hl hn (fx_tl_st (v := .ref x) hlv) (fun ls' hl' => k p l e s m args below meth c E X H locs ls' hP hS hl')
theorem fx_iinc (pc : Nat) {i : Nat} {n : Int} {x y : Int32} (hd : decode mt.2.1 pc = .ok (.iinc i n, 3)) (j : Nat) (hj : lv[j]? = some (i, .int x)) (hv : x + Int32.ofInt n = y) (hn : i < mt.2.2.1) (hlv : (i, Value.int y) :: lv.filter (fun q => !(q.1 == i) && !(q.1 + 1 == i && q.2.category == 2)) = lv') (k : fx_V G mt Q (pc + 3) lv' st M) : fx_V G mt Q pc lv st M :=
  fun p l e s m args below meth c E X H locs ls hP hS hl => lv_iinc (k := j) X.1 X.2.1 hd hl (fx_tl_at hj) hv hn (fx_tl_st hlv) (fun ls' hl' => k p l e s m args below meth c E X H locs ls' hP hS hl')
theorem fx_iadd (pc : Nat) {x y : Int32} (hd : decode mt.2.1 pc = .ok (.iadd, 1)) (k : fx_V G mt Q (pc + 1) lv (.int (x + y) :: st) M) : fx_V G mt Q pc lv (.int y :: .int x :: st) M :=
  fun p l e s m args below meth c E X H locs ls hP hS hl => lv_iadd X.1 X.2.1 hd (k p l e s m args below meth c E X H locs ls hP hS hl)
theorem fx_isub (pc : Nat) {x y : Int32} (hd : decode mt.2.1 pc = .ok (.isub, 1)) (k : fx_V G mt Q (pc + 1) lv (.int (x - y) :: st) M) : fx_V G mt Q pc lv (.int y :: .int x :: st) M :=
  fun p l e s m args below meth c E X H locs ls hP hS hl => lv_isub X.1 X.2.1 hd (k p l e s m args below meth c E X H locs ls hP hS hl)
theorem fx_imul (pc : Nat) {x y : Int32} (hd : decode mt.2.1 pc = .ok (.imul, 1)) (k : fx_V G mt Q (pc + 1) lv (.int (x * y) :: st) M) : fx_V G mt Q pc lv (.int y :: .int x :: st) M :=
  fun p l e s m args below meth c E X H locs ls hP hS hl => lv_imul X.1 X.2.1 hd (k p l e s m args below meth c E X H locs ls hP hS hl)
theorem fx_iand (pc : Nat) {x y : Int32} (hd : decode mt.2.1 pc = .ok (.iand, 1)) (k : fx_V G mt Q (pc + 1) lv (.int (x &&& y) :: st) M) : fx_V G mt Q pc lv (.int y :: .int x :: st) M :=
  fun p l e s m args below meth c E X H locs ls hP hS hl => lv_iand X.1 X.2.1 hd (k p l e s m args below meth c E X H locs ls hP hS hl)
theorem fx_ior (pc : Nat) {x y : Int32} (hd : decode mt.2.1 pc = .ok (.ior, 1)) (k : fx_V G mt Q (pc + 1) lv (.int (x ||| y) :: st) M) : fx_V G mt Q pc lv (.int y :: .int x :: st) M :=
  fun p l e s m args below meth c E X H locs ls hP hS hl => lv_ior X.1 X.2.1 hd (k p l e s m args below meth c E X H locs ls hP hS hl)
theorem fx_ixor (pc : Nat) {x y : Int32} (hd : decode mt.2.1 pc = .ok (.ixor, 1)) (k : fx_V G mt Q (pc + 1) lv (.int (x ^^^ y) :: st) M) : fx_V G mt Q pc lv (.int y :: .int x :: st) M :=
  fun p l e s m args below meth c E X H locs ls hP hS hl => lv_ixor X.1 X.2.1 hd (k p l e s m args below meth c E X H locs ls hP hS hl)
theorem fx_ishl (pc : Nat) {x y : Int32} (hd : decode mt.2.1 pc = .ok (.ishl, 1)) (k : fx_V G mt Q (pc + 1) lv (.int (x <<< (y &&& 31)) :: st) M) : fx_V G mt Q pc lv (.int y :: .int x :: st) M :=
  fun p l e s m args below meth c E X H locs ls hP hS hl => lv_ishl X.1 X.2.1 hd (k p l e s m args below meth c E X H locs ls hP hS hl)
theorem fx_ishr (pc : Nat) {x y : Int32} (hd : decode mt.2.1 pc = .ok (.ishr, 1)) (k : fx_V G mt Q (pc + 1) lv (.int (x >>> (y &&& 31)) :: st) M) : fx_V G mt Q pc lv (.int y :: .int x :: st) M :=
  fun p l e s m args below meth c E X H locs ls hP hS hl => lv_ishr X.1 X.2.1 hd (k p l e s m args below meth c E X H locs ls hP hS hl)
theorem fx_iushr (pc : Nat) {x y : Int32} (hd : decode mt.2.1 pc = .ok (.iushr, 1)) (k : fx_V G mt Q (pc + 1) lv (.int (x.toUInt32 >>> (y.toUInt32 &&& Int32.toUInt32 31)).toInt32 :: st) M) : fx_V G mt Q pc lv (.int y :: .int x :: st) M :=
  fun p l e s m args below meth c E X H locs ls hP hS hl => lv_iushr X.1 X.2.1 hd rfl (k p l e s m args below meth c E X H locs ls hP hS hl)
theorem fx_ineg (pc : Nat) {x : Int32} (hd : decode mt.2.1 pc = .ok (.ineg, 1)) (k : fx_V G mt Q (pc + 1) lv (.int (-x) :: st) M) : fx_V G mt Q pc lv (.int x :: st) M :=
  fun p l e s m args below meth c E X H locs ls hP hS hl => lv_ineg X.1 X.2.1 hd (k p l e s m args below meth c E X H locs ls hP hS hl)
theorem fx_idiv (pc : Nat) {x y : Int32} (hd : decode mt.2.1 pc = .ok (.idiv, 1)) (hne : ¬ y = 0) (k : fx_V G mt Q (pc + 1) lv (.int (x / y) :: st) M) : fx_V G mt Q pc lv (.int y :: .int x :: st) M :=
  fun p l e s m args below meth c E X H locs ls hP hS hl => lv_idiv X.1 X.2.1 hd hne (k p l e s m args below meth c E X H locs ls hP hS hl)
theorem fx_irem (pc : Nat) {x y : Int32} (hd : decode mt.2.1 pc = .ok (.irem, 1)) (hne : ¬ y = 0) (k : fx_V G mt Q (pc + 1) lv (.int (x - x / y * y) :: st) M) : fx_V G mt Q pc lv (.int y :: .int x :: st) M :=
  fun p l e s m args below meth c E X H locs ls hP hS hl => lv_irem X.1 X.2.1 hd hne (k p l e s m args below meth c E X H locs ls hP hS hl)
theorem fx_land (pc : Nat) {x y : Int64} (hd : decode mt.2.1 pc = .ok (.land, 1)) (k : fx_V G mt Q (pc + 1) lv (.long (x &&& y) :: st) M) : fx_V G mt Q pc lv (.long y :: .long x :: st) M :=
  fun p l e s m args below meth c E X H locs ls hP hS hl => lv_land X.1 X.2.1 hd (k p l e s m args below meth c E X H locs ls hP hS hl)
theorem fx_lushr (pc : Nat) {x : Int64} {y : Int32} (hd : decode mt.2.1 pc = .ok (.lushr, 1)) (k : fx_V G mt Q (pc + 1) lv (.long (x.toUInt64 >>> (y.toInt64.toUInt64 &&& Int64.toUInt64 63)).toInt64 :: st) M) : fx_V G mt Q pc lv (.int y :: .long x :: st) M :=
  fun p l e s m args below meth c E X H locs ls hP hS hl => lv_lushr X.1 X.2.1 hd rfl (k p l e s m args below meth c E X H locs ls hP hS hl)
theorem fx_lshr (pc : Nat) {x : Int64} {y : Int32} (hd : decode mt.2.1 pc = .ok (.lshr, 1)) (k : fx_V G mt Q (pc + 1) lv (.long (x >>> (y.toInt64 &&& 63)) :: st) M) : fx_V G mt Q pc lv (.int y :: .long x :: st) M :=
  fun p l e s m args below meth c E X H locs ls hP hS hl => lv_lshr X.1 X.2.1 hd rfl (k p l e s m args below meth c E X H locs ls hP hS hl)
theorem fx_l2i (pc : Nat) {x : Int64} (hd : decode mt.2.1 pc = .ok (.l2i, 1)) (k : fx_V G mt Q (pc + 1) lv (.int x.toInt32 :: st) M) : fx_V G mt Q pc lv (.long x :: st) M :=
  fun p l e s m args below meth c E X H locs ls hP hS hl => lv_l2i X.1 X.2.1 hd rfl (k p l e s m args below meth c E X H locs ls hP hS hl)
theorem fx_i2b (pc : Nat) {x : Int32} (hd : decode mt.2.1 pc = .ok (.i2b, 1)) (k : fx_V G mt Q (pc + 1) lv (.int x.toInt8.toInt32 :: st) M) : fx_V G mt Q pc lv (.int x :: st) M :=
  fun p l e s m args below meth c E X H locs ls hP hS hl => lv_i2b X.1 X.2.1 hd rfl (k p l e s m args below meth c E X H locs ls hP hS hl)
theorem fx_i2c (pc : Nat) {x : Int32} (hd : decode mt.2.1 pc = .ok (.i2c, 1)) (k : fx_V G mt Q (pc + 1) lv (.int (x.toUInt32 % 65536).toInt32 :: st) M) : fx_V G mt Q pc lv (.int x :: st) M :=
  fun p l e s m args below meth c E X H locs ls hP hS hl => lv_i2c X.1 X.2.1 hd rfl (k p l e s m args below meth c E X H locs ls hP hS hl)
theorem fx_dup (pc : Nat) {v : Value} (hd : decode mt.2.1 pc = .ok (.dup, 1)) (hv : v.category = 1) (k : fx_V G mt Q (pc + 1) lv (v :: v :: st) M) : fx_V G mt Q pc lv (v :: st) M :=
  fun p l e s m args below meth c E X H locs ls hP hS hl => lv_dup X.1 X.2.1 hd ((fx_cat E v).trans hv) (k p l e s m args below meth c E X H locs ls hP hS hl)
theorem fx_dup2 (pc : Nat) {v w : Value} (hd : decode mt.2.1 pc = .ok (.dup2, 1)) (hv : v.category = 1) (hw : w.category = 1) (k : fx_V G mt Q (pc + 1) lv (v :: w :: v :: w :: st) M) : fx_V G mt Q pc lv (v :: w :: st) M :=
  fun p l e s m args below meth c E X H locs ls hP hS hl => lv_dup2_11 X.1 X.2.1 hd ((fx_cat E v).trans hv) ((fx_cat E w).trans hw) (k p l e s m args below meth c E X H locs ls hP hS hl)
theorem fx_pop (pc : Nat) {v : Value} (hd : decode mt.2.1 pc = .ok (.pop, 1)) (hv : v.category = 1) (k : fx_V G mt Q (pc + 1) lv st M) : fx_V G mt Q pc lv (v :: st) M :=
  fun p l e s m args below meth c E X H locs ls hP hS hl => lv_pop X.1 X.2.1 hd ((fx_cat E v).trans hv) (k p l e s m args below meth c E X H locs ls hP hS hl)
theorem fx_goto (pc tgt : Nat) {off : Int} (hd : decode mt.2.1 pc = .ok (.goto off, 3)) (ht : (pc : Int) + off = (tgt : Int)) (k : fx_V G mt Q tgt lv st M) : fx_V G mt Q pc lv st M :=
  fun p l e s m args below meth c E X H locs ls hP hS hl => lv_goto X.1 X.2.1 hd ht (k p l e s m args below meth c E X H locs ls hP hS hl)
theorem fx_if_eq (pc tgt : Nat) {off : Int} {x : Int32} (hd : decode mt.2.1 pc = .ok (.ifCond .eq off, 3)) (ht : (pc : Int) + off = (tgt : Int)) (kt : x = 0 → fx_V G mt Q tgt lv st M) (kf : ¬ x = 0 → fx_V G mt Q (pc + 3) lv st M) : fx_V G mt Q pc lv (.int x :: st) M :=
  fun p l e s m args below meth c E X H locs ls hP hS hl => lv_if_eq X.1 X.2.1 hd ht (fun z => kt z p l e s m args below meth c E X H locs ls hP hS hl) (fun z => kf z p l e s m args below meth c E X H locs ls hP hS hl)
theorem fx_if_ne (pc tgt : Nat) {off : Int} {x : Int32} (hd : decode mt.2.1 pc = .ok (.ifCond .ne off, 3)) (ht : (pc : Int) + off = (tgt : Int)) (kt : ¬ x = 0 → fx_V G mt Q tgt lv st M) (kf : x = 0 → fx_V G mt Q (pc + 3) lv st M) : fx_V G mt Q pc lv (.int x :: st) M :=
  fun p l e s m args below meth c E X H locs ls hP hS hl => lv_if_ne X.1 X.2.1 hd ht (fun z => kt z p l e s m args below meth c E X H locs ls hP hS hl) (fun z => kf z p l e s m args below meth c E X H locs ls hP hS hl)
theorem fx_if_lt (pc tgt : Nat) {off : Int} {x : Int32} (hd : decode mt.2.1 pc = .ok (.ifCond .lt off, 3)) (ht : (pc : Int) + off = (tgt : Int)) (kt : x < 0 → fx_V G mt Q tgt lv st M) (kf : ¬ x < 0 → fx_V G mt Q (pc + 3) lv st M) : fx_V G mt Q pc lv (.int x :: st) M :=
  fun p l e s m args below meth c E X H locs ls hP hS hl => lv_if_lt X.1 X.2.1 hd ht (fun z => kt z p l e s m args below meth c E X H locs ls hP hS hl) (fun z => kf z p l e s m args below meth c E X H locs ls hP hS hl)
theorem fx_if_ge (pc tgt : Nat) {off : Int} {x : Int32} (hd : decode mt.2.1 pc = .ok (.ifCond .ge off, 3)) (ht : (pc : Int) + off = (tgt : Int)) (kt : 0 ≤ x → fx_V G mt Q tgt lv st M) (kf : ¬ 0 ≤ x → fx_V G mt Q (pc + 3) lv st M) : fx_V G mt Q pc lv (.int x :: st) M :=
  fun p l e s m args below meth c E X H locs ls hP hS hl => lv_if_ge X.1 X.2.1 hd ht (fun z => kt z p l e s m args below meth c E X H locs ls hP hS hl) (fun z => kf z p l e s m args below meth c E X H locs ls hP hS hl)
theorem fx_if_gt (pc tgt : Nat) {off : Int} {x : Int32} (hd : decode mt.2.1 pc = .ok (.ifCond .gt off, 3)) (ht : (pc : Int) + off = (tgt : Int)) (kt : 0 < x → fx_V G mt Q tgt lv st M) (kf : ¬ 0 < x → fx_V G mt Q (pc + 3) lv st M) : fx_V G mt Q pc lv (.int x :: st) M :=
  fun p l e s m args below meth c E X H locs ls hP hS hl => lv_if_gt X.1 X.2.1 hd ht (fun z => kt z p l e s m args below meth c E X H locs ls hP hS hl) (fun z => kf z p l e s m args below meth c E X H locs ls hP hS hl)
theorem fx_if_le (pc tgt : Nat) {off : Int} {x : Int32} (hd : decode mt.2.1 pc = .ok (.ifCond .le off, 3)) (ht : (pc : Int) + off = (tgt : Int)) (kt : x ≤ 0 → fx_V G mt Q tgt lv st M) (kf : ¬ x ≤ 0 → fx_V G mt Q (pc + 3) lv st M) : fx_V G mt Q pc lv (.int x :: st) M :=
  fun p l e s m args below meth c E X H locs ls hP hS hl => lv_if_le X.1 X.2.1 hd ht (fun z => kt z p l e s m args below meth c E X H locs ls hP hS hl) (fun z => kf z p l e s m args below meth c E X H locs ls hP hS hl)
theorem fx_icmp_eq (pc tgt : Nat) {off : Int} {x y : Int32} (hd : decode mt.2.1 pc = .ok (.if_icmp .eq off, 3)) (ht : (pc : Int) + off = (tgt : Int)) (kt : x = y → fx_V G mt Q tgt lv st M) (kf : ¬ x = y → fx_V G mt Q (pc + 3) lv st M) : fx_V G mt Q pc lv (.int y :: .int x :: st) M :=
  fun p l e s m args below meth c E X H locs ls hP hS hl => lv_icmp_eq X.1 X.2.1 hd ht (fun z => kt z p l e s m args below meth c E X H locs ls hP hS hl) (fun z => kf z p l e s m args below meth c E X H locs ls hP hS hl)
theorem fx_icmp_ne (pc tgt : Nat) {off : Int} {x y : Int32} (hd : decode mt.2.1 pc = .ok (.if_icmp .ne off, 3)) (ht : (pc : Int) + off = (tgt : Int)) (kt : ¬ x = y → fx_V G mt Q tgt lv st M) (kf : x = y → fx_V G mt Q (pc + 3) lv st M) : fx_V G mt Q pc lv (.int y :: .int x :: st) M :=
  fun p l e s m args below meth c E X H locs ls hP hS hl => lv_icmp_ne X.1 X.2.1 hd ht (fun z => kt z p l e s m args below meth c E X H locs ls hP hS hl) (fun z => kf z p l e s m args below meth c E X H locs ls hP hS hl)
theorem fx_icmp_lt (pc tgt : Nat) {off : Int} {x y : Int32} (hd : decode mt.2.1 pc = .ok (.if_icmp .lt off, 3)) (ht : (pc : Int) + off = (tgt : Int)) (kt : x < y → fx_V G mt Q tgt lv st M) (kf : ¬ x < y → fx_V G mt Q (pc + 3) lv st M) : fx_V G mt Q pc lv (.int y :: .int x :: st) M :=
  fun p l e s m args below meth c E X H locs ls hP hS hl => lv_icmp_lt X.1 X.2.1 hd ht (fun z => kt z p l e s m args below meth c E X H locs ls hP hS hl) (fun z => kf z p l e s m args below meth c E X H locs ls hP hS hl)
theorem fx_icmp_ge (pc tgt : Nat) {off : Int} {x y : Int32} (hd : decode mt.2.1 pc = .ok (.if_icmp .ge off, 3)) (ht : (pc : Int) + off = (tgt : Int)) (kt : y ≤ x → fx_V G mt Q tgt lv st M) (kf : ¬ y ≤ x → fx_V G mt Q (pc + 3) lv st M) : fx_V G mt Q pc lv (.int y :: .int x :: st) M :=
  fun p l e s m args below meth c E X H locs ls hP hS hl => lv_icmp_ge X.1 X.2.1 hd ht (fun z => kt z p l e s m args below meth c E X H locs ls hP hS hl) (fun z => kf z p l e s m args below meth c E X H locs ls hP hS hl)
theorem fx_icmp_gt (pc tgt : Nat) {off : Int} {x y : Int32} (hd : decode mt.2.1 pc = .ok (.if_icmp .gt off, 3)) (ht : (pc : Int) + off = (tgt : Int)) (kt : y < x → fx_V G mt Q tgt lv st M) (kf : ¬ y < x → fx_V G mt Q (pc + 3) lv st M) : fx_V G mt Q pc lv (.int y :: .int x :: st) M :=
  fun p l e s m args below meth c E X H locs ls hP hS hl => lv_icmp_gt X.1 X.2.1 hd ht (fun z => kt z p l e s m args below meth c E X H locs ls hP hS hl) (fun z => kf z p l e s m args below meth c E X H locs ls hP hS hl)
theorem fx_icmp_le (pc tgt : Nat) {off : Int} {x y : Int32} (hd : decode mt.2.1 pc = .ok (.if_icmp .le off, 3)) (ht : (pc : Int) + off = (tgt : Int)) (kt : x ≤ y → fx_V G mt Q tgt lv st M) (kf : ¬ x ≤ y → fx_V G mt Q (pc + 3) lv st M) : fx_V G mt Q pc lv (.int y :: .int x :: st) M :=
  fun p l e s m args below meth c E X H locs ls hP hS hl => lv_icmp_le X.1 X.2.1 hd ht (fun z => kt z p l e s m args below meth c E X H locs ls hP hS hl) (fun z => kf z p l e s m args below meth c E X H locs ls hP hS hl)
/-! switches -/
theorem fx_tsI (pc tgt : Nat) {dflt lo hi : Int} {offs : Array Int} {len : Nat} {x : Int32} {off : Int} (hd : decode mt.2.1 pc = .ok (.tableswitch dflt lo hi offs, len)) (h1 : ¬ x.toInt < lo) (h2 : ¬ hi < x.toInt) (ho : offs[(x.toInt - lo).toNat]? = some off) (ht : (pc : Int) + off = (tgt : Int)) (k : fx_V G mt Q tgt lv st M) : fx_V G mt Q pc lv (.int x :: st) M :=
  fun p l e s m args below meth c E X H locs ls hP hS hl => lv_tableIn X.1 X.2.1 hd h1 h2 ho ht (k p l e s m args below meth c E X H locs ls hP hS hl)
theorem fx_tsD (pc tgt : Nat) (lst : List Int32) {dflt lo hi : Int} {offs : Array Int} {len : Nat} {x : Int32} (hd : decode mt.2.1 pc = .ok (.tableswitch dflt lo hi offs, len)) (hchk : ((List.range offs.size).all (fun j => offs[j]? == some dflt || lst.any (fun k => k.toInt == lo + (j : Int)))) = true) (hhi : hi = lo + (offs.size : Int) - 1) (hx : ∀ q ∈ lst, ¬ x = q) (ht : (pc : Int) + dflt = (tgt : Int)) (k : fx_V G mt Q tgt lv st M) : fx_V G mt Q pc lv (.int x :: st) M := by
  intro p l e s m args below meth c E X H locs ls hP hS hl
  have kk := k p l e s m args below meth c E X H locs ls hP hS hl
  by_cases h1 : x.toInt < lo
  · exact lv_tableOut X.1 X.2.1 hd (Or.inl h1) ht kk
  by_cases h2 : hi < x.toInt
  · exact lv_tableOut X.1 X.2.1 hd (Or.inr h2) ht kk
  have hj : (x.toInt - lo).toNat < offs.size := by omega
  have hc := List.all_eq_true.mp hchk (x.toInt - lo).toNat (List.mem_range.mpr hj)
  rw [Bool.or_eq_true] at hc
  rcases hc with hc | hc
  · exact lv_tableIn X.1 X.2.1 hd h1 h2 (by simpa using hc) ht kk
  · obtain ⟨q, hq, he⟩ := List.any_eq_true.mp hc
    have e1 : q.toInt = x.toInt := by
      have e2 : q.toInt = lo + ((x.toInt - lo).toNat : Int) := by simpa using he
      omega
    exact absurd (Int32.toInt_inj.mp e1).symm (hx q hq)
theorem fx_lsI (pc tgt : Nat) {dflt : Int} {ps : Array (Int × Int)} {len : Nat} {x : Int32} {off : Int} (hd : decode mt.2.1 pc = .ok (.lookupswitch dflt ps, len)) (hp : (ps.toList.zip (ps.toList.drop 1)).all (fun (a, next) => a.1 < next.1) = true) (ho : Op.lookupswitch.offset ps.toList dflt x.toInt = off) (ht : (pc : Int) + off = (tgt : Int)) (k : fx_V G mt Q tgt lv st M) : fx_V G mt Q pc lv (.int x :: st) M :=
  fun p l e s m args below meth c E X H locs ls hP hS hl => lv_lookup X.1 X.2.1 hd hp ho ht (k p l e s m args below meth c E X H locs ls hP hS hl)
theorem fx_lsO {d : Int} {x : Int32} (lst : List Int32) (hx : ∀ q ∈ lst, ¬ x = q) : ∀ r : List (Int × Int), r.all (fun q => lst.any (fun k => k.toInt == q.1)) = true → Op.lookupswitch.offset r d x.toInt = d := by
  intro r
  induction r with
  | nil => intro _; rfl
  | cons q r ih =>
    intro h
    rw [List.all_cons, Bool.and_eq_true] at h
    obtain ⟨k, hk, he⟩ := List.any_eq_true.mp h.1
    rw [lv_osw (hx k hk) (by simpa using he)]
    exact ih h.2
theorem fx_lsD (pc tgt : Nat) (lst : List Int32) {dflt : Int} {ps : Array (Int × Int)} {len : Nat} {x : Int32} (hd : decode mt.2.1 pc = .ok (.lookupswitch dflt ps, len)) (hp : (ps.toList.zip (ps.toList.drop 1)).all (fun (a, next) => a.1 < next.1) = true) (hc : ps.toList.all (fun q => lst.any (fun k => k.toInt == q.1)) = true) (hx : ∀ q ∈ lst, ¬ x = q) (ht : (pc : Int) + dflt = (tgt : Int)) (k : fx_V G mt Q tgt lv st M) : fx_V G mt Q pc lv (.int x :: st) M :=
  fun p l e s m args below meth c E X H locs ls hP hS hl => lv_lookup X.1 X.2.1 hd hp (fx_lsO lst hx _ hc) ht (k p l e s m args below meth c E X H locs ls hP hS hl)
/-! ends -/
theorem fx_iret (pc : Nat) {x : Int32} {ty : FieldType} (hd : decode mt.2.1 pc = .ok (.ireturn, 1)) (hr : mt.2.2.2.1 = some ty) (hn : narrow ty (.int x) = .int x) (hq : Q (some (.int x)) M) : fx_V G mt Q pc lv [.int x] M :=
  fun p l e s m args below meth c E X H locs ls hP hS hl => W.zret X.1 X.2.1 (X.2.2.1.trans hr) hn (fun t ht hW => ⟨⟨some (.int x), M, rfl, hq, by rw [ht]; exact hP⟩, hS.F ht⟩) hS.2.2 hd X.2.2.2.2.2.2.1
theorem fx_vret (pc : Nat) (hd : decode mt.2.1 pc = .ok (.return_, 1)) (hr : mt.2.2.2.1 = none) (hq : Q none M) : fx_V G mt Q pc lv [] M :=
  fun p l e s m args below meth c E X H locs ls hP hS hl => W.vret X.1 X.2.1 (X.2.2.1.trans hr) (fun t ht hW => ⟨⟨none, M, rfl, hq, by rw [ht]; exact hP⟩, hS.F ht⟩) hS.2.2 hd X.2.2.2.2.2.2.1
theorem fx_aret (pc : Nat) {k : Nat} {C : String} (hd : decode mt.2.1 pc = .ok (.areturn, 1)) (hr : mt.2.2.2.1 = some (.object C)) (hq : Q (some (.ref k)) M) : fx_V G mt Q pc lv [.ref k] M :=
  fun p l e s m args below meth c E X H locs ls hP hS hl => W.aret X.1 X.2.1 (X.2.2.1.trans hr) (Or.inl ⟨_, rfl⟩) (Or.inr ⟨_, rfl⟩) (fun t ht hW => ⟨⟨some (.ref k), M, rfl, hq, by rw [ht]; exact hP⟩, hS.F ht⟩) hS.2.2 hd X.2.2.2.2.2.2.1
/-! cells -/
def fx_cell (G : fxG) (k ci : Nat) (C : String) (T : u_T) (N : Nat) (fs : (Nat → Nat) → (Nat → Int32) → List Value) : Prop := k < G.1 ∧ (∀ ad aC row, G.2 ad aC k row = .inr (ci, fs ad row)) ∧ vwCl[ci]? = some (C, T, N) ∧ (∀ w ∈ u_ws C T N, w ∈ wsL_law) ∧ ∃ ty0 : Nat → FieldType, (∀ k, k < N → parseFieldDescriptor (T k).2.2.1 = some (ty0 k)) ∧ ∀ a, a < N → ∀ b, b < N → a ≠ b → (T a).2.1 ≠ (T b).2.1
def fx_arr (G : fxG) (k t n : Nat) : Prop := k < G.1 ∧ ∀ ad aC row, G.2 ad aC k row = .inl (aC t, n, .inl row)
theorem fx_get (pc : Nat) {k ci idx j N : Nat} {C : String} {T : u_T} {fs : (Nat → Nat) → (Nat → Int32) → List Value} {v : Value} (ok : fx_cell G k ci C T N fs) (hd : decode mt.2.1 pc = .ok (.getfield idx, 3)) (hlink : Cond.fieldLink mt.1.cls idx (T j).1 (T j).2.1 (T j).2.2.1 ∈ wsL_law) (hj : j < N) (hv : ∀ E : fxE, (fs E.1 (M k))[j]? = some (fx_tr E v)) (kk : fx_V G mt Q (pc + 3) lv (v :: st) M) : fx_V G mt Q pc lv (.ref k :: st) M := by
  intro p l e s m args below meth c E X H locs ls hP hS hl
  obtain ⟨hx, hb, hr, hml, hown, hts, hlk, hC⟩ := id X
  have he := fx_w_at (G := G) (E := E) (M := M) ok.1
  rw [ok.2.1] at he
  exact va_get hx hb hts ok.2.2.2.1 hown hC.1 hP k he ok.2.2.1 j hj (hts _ hlink) (fun _ h => h) (hv E) hd (kk p l e s m args below meth c E X H locs ls hP hS hl)
theorem fx_put (pc : Nat) {k ci idx j N : Nat} {C : String} {T : u_T} {fs : (Nat → Nat) → (Nat → Int32) → List Value} {v : Value} {x : Int32} {ty : FieldType} (ok : fx_cell G k ci C T N fs) (hd : decode mt.2.1 pc = .ok (.putfield idx, 3)) (hlink : Cond.fieldLink mt.1.cls idx (T j).1 (T j).2.1 (T j).2.2.1 ∈ wsL_law) (hj : j < N) (hfin : (T j).2.2.2 = false) (hty : parseFieldDescriptor (T j).2.2.1 = some ty) (hn : ∀ E : fxE, narrow ty (fx_tr E v) = fx_tr E v) (hf : ∀ E : fxE, fits ty (fx_tr E v) = true) (hl0 : ∀ ad row, j < (fs ad row).length) (hset : ∀ E : fxE, (fs E.1 (M k)).set j (fx_tr E v) = fs E.1 (upd (M k) j x)) (kk : fx_V G mt Q (pc + 3) lv st (fx_st M k j x)) : fx_V G mt Q pc lv (v :: .ref k :: st) M := by
  intro p l e s m args below meth c E X H locs ls hP hS hl
  obtain ⟨hx, hb, hr, hml, hown, hts, hlk, hC⟩ := id X
  obtain ⟨ok1, ok2, ok3, ok4, ty0, ok5, ok6⟩ := ok
  have he := fx_w_at (G := G) (E := E) (M := M) ok1
  rw [ok2] at he
  refine va_put hx hb hts ok4 ty0 ok5 ok6 hown hC.1 hP (fx_D hC.2.1 M s.heap.size) hS k he ok3 j hj (hts _ hlink) (fun _ h => h) hfin hty (hn E) (hf E) (hl0 _ _) hd (fun H1 locs1 hP1 _ hS1 => ?_)
  rw [hset, ← ok2 E.1 E.2.2.2.1, fx_w_set ok1] at hP1
  exact kk p l e s m args below meth c E X H1 locs1 ls hP1 hS1 hl
theorem fx_iald (pc : Nat) {k n : Nat} {i : Int32} (ok : fx_arr G k 0 n) (hd : decode mt.2.1 pc = .ok (.iaload, 1)) (hi : fx_in i n = true) (kk : fx_V G mt Q (pc + 1) lv (.int (M k i.toNatClampNeg) :: st) M) : fx_V G mt Q pc lv (.int i :: .ref k :: st) M := by
  intro p l e s m args below meth c E X H locs ls hP hS hl
  have he := fx_w_at (G := G) (E := E) (M := M) ok.1
  rw [ok.2] at he
  exact va_iald X.1 X.2.1 X.2.2.2.2.2.2.2.1 hP k 0 he rfl (fx_in_ok hi) hd (kk p l e s m args below meth c E X H locs ls hP hS hl)
theorem fx_bald (pc : Nat) {k n : Nat} {i : Int32} (ok : fx_arr G k 1 n) (hd : decode mt.2.1 pc = .ok (.baload, 1)) (hi : fx_in i n = true) (kk : fx_V G mt Q (pc + 1) lv (.int (M k i.toNatClampNeg) :: st) M) : fx_V G mt Q pc lv (.int i :: .ref k :: st) M := by
  intro p l e s m args below meth c E X H locs ls hP hS hl
  have he := fx_w_at (G := G) (E := E) (M := M) ok.1
  rw [ok.2] at he
  exact va_bald X.1 X.2.1 X.2.2.2.2.2.2.2.1 hP k 1 he rfl (fx_in_ok hi) hd (kk p l e s m args below meth c E X H locs ls hP hS hl)
theorem fx_zald (pc : Nat) {k n : Nat} {i : Int32} (ok : fx_arr G k 2 n) (hd : decode mt.2.1 pc = .ok (.baload, 1)) (hi : fx_in i n = true) (kk : fx_V G mt Q (pc + 1) lv (.int (M k i.toNatClampNeg) :: st) M) : fx_V G mt Q pc lv (.int i :: .ref k :: st) M := by
  intro p l e s m args below meth c E X H locs ls hP hS hl
  have he := fx_w_at (G := G) (E := E) (M := M) ok.1
  rw [ok.2] at he
  exact va_zald X.1 X.2.1 X.2.2.2.2.2.2.2.1 hP k 2 he rfl (fx_in_ok hi) hd (kk p l e s m args below meth c E X H locs ls hP hS hl)
theorem fx_iast (pc : Nat) {k n : Nat} {i x : Int32} (ok : fx_arr G k 0 n) (hd : decode mt.2.1 pc = .ok (.iastore, 1)) (hi : fx_in i n = true) (kk : fx_V G mt Q (pc + 1) lv st (fx_st M k i.toNatClampNeg x)) : fx_V G mt Q pc lv (.int x :: .int i :: .ref k :: st) M := by
  intro p l e s m args below meth c E X H locs ls hP hS hl
  obtain ⟨hx, hb, hr, hml, hown, hts, hlk, hC⟩ := id X
  have he := fx_w_at (G := G) (E := E) (M := M) ok.1
  rw [ok.2] at he
  refine va_iast hx hb hC.1 hP (fx_D hC.2.1 M s.heap.size) hS k 0 he rfl (fx_in_ok hi) hd (fun H1 locs1 hP1 _ hS1 => ?_)
  rw [← ok.2 E.1 E.2.2.2.1, fx_w_set ok.1] at hP1
  exact kk p l e s m args below meth c E X H1 locs1 ls hP1 hS1 hl
theorem fx_bast (pc : Nat) {k n : Nat} {i x : Int32} (ok : fx_arr G k 1 n) (hd : decode mt.2.1 pc = .ok (.bastore, 1)) (hi : fx_in i n = true) (kk : fx_V G mt Q (pc + 1) lv st (fx_st M k i.toNatClampNeg (vp_nar .byte x))) : fx_V G mt Q pc lv (.int x :: .int i :: .ref k :: st) M := by
  intro p l e s m args below meth c E X H locs ls hP hS hl
  obtain ⟨hx, hb, hr, hml, hown, hts, hlk, hC⟩ := id X
  have he := fx_w_at (G := G) (E := E) (M := M) ok.1
  rw [ok.2] at he
  refine va_bast hx hb hC.1 hP (fx_D hC.2.1 M s.heap.size) hS k 1 he rfl (fx_in_ok hi) hd (fun H1 locs1 hP1 _ hS1 => ?_)
  rw [← ok.2 E.1 E.2.2.2.1, fx_w_set ok.1] at hP1
  exact kk p l e s m args below meth c E X H1 locs1 ls hP1 hS1 hl
theorem fx_zast (pc : Nat) {k n : Nat} {i x : Int32} (ok : fx_arr G k 2 n) (hd : decode mt.2.1 pc = .ok (.bastore, 1)) (hi : fx_in i n = true) (kk : fx_V G mt Q (pc + 1) lv st (fx_st M k i.toNatClampNeg (vp_nar .boolean x))) : fx_V G mt Q pc lv (.int x :: .int i :: .ref k :: st) M := by
  intro p l e s m args below meth c E X H locs ls hP hS hl
  obtain ⟨hx, hb, hr, hml, hown, hts, hlk, hC⟩ := id X
  have he := fx_w_at (G := G) (E := E) (M := M) ok.1
  rw [ok.2] at he
  refine va_zast hx hb hC.1 hP (fx_D hC.2.1 M s.heap.size) hS k 2 he rfl (fx_in_ok hi) hd (fun H1 locs1 hP1 _ hS1 => ?_)
  rw [← ok.2 E.1 E.2.2.2.1, fx_w_set ok.1] at hP1
  exact kk p l e s m args below meth c E X H1 locs1 ls hP1 hS1 hl
theorem fx_alen (pc : Nat) {k n t : Nat} {x : Int32} (ok : fx_arr G k t n) (ht : t < 4) (hn : Int32.ofNat n = x) (hd : decode mt.2.1 pc = .ok (.arraylength, 1)) (kk : fx_V G mt Q (pc + 1) lv (.int x :: st) M) : fx_V G mt Q pc lv (.ref k :: st) M := by
  intro p l e s m args below meth c E X H locs ls hP hS hl
  have he := fx_w_at (G := G) (E := E) (M := M) ok.1
  rw [ok.2] at he
  have ht : ∃ ty, (fx_tys E)[t]? = some (E.2.2.2.1 t, ty) := by
    rcases (show t = 0 ∨ t = 1 ∨ t = 2 ∨ t = 3 by omega) with rfl | rfl | rfl | rfl
    · exact ⟨_, rfl⟩
    · exact ⟨_, rfl⟩
    · exact ⟨_, rfl⟩
    · exact ⟨_, rfl⟩
  obtain ⟨ty, ht⟩ := ht
  exact va_alen X.1 X.2.1 X.2.2.2.2.2.2.2.1 hP k t he ht hn hd (kk p l e s m args below meth c E X H locs ls hP hS hl)
/-! statics -/
theorem fx_gets (pc : Nat) {idx : Nat} (j : Nat) (hj : j < 4) (hd : decode mt.2.1 pc = .ok (.getstatic idx, 3)) (hlink : Cond.fieldLink mt.1.cls idx (kx_a j).1 (kx_a j).2.1 "[I" ∈ wsL_law) (kk : fx_V G mt Q (pc + 3) lv (.ref (3000 + j) :: st) M) : fx_V G mt Q pc lv st M :=
  fun p l e s m args below meth c E X H locs ls hP hS hl => va_gets X.1 X.2.1 (X.2.2.2.2.2.2.2.2.2.2.2.2.1 j hj).1 hS X.2.2.2.2.1 (X.2.2.2.2.2.1 _ hlink) (fun _ h => h) hd (kk p l e s m args below meth c E X H locs ls hP hS hl)
theorem fx_getsN (pc : Nat) (hown : mt.1.cls = "FieldBand$Deed") (hd : decode mt.2.1 pc = .ok (.getstatic 32, 3)) (kk : fx_V G mt Q (pc + 3) lv (.ref 3000 :: st) M) : fx_V G mt Q pc lv st M := by
  intro p l e s m args below meth c E X H locs ls hP hS hl
  obtain ⟨hx, hb, hr, hml, hw, hts, hlk, hC⟩ := id X
  rw [hown] at hw
  exact va_getsN hx hb (hC.2.2.2.2.2.1 0 (by decide)).1 hS hw (va_Nw.use rfl hC.2.2.2.2.2.2.2) (fun _ h => h) hd (kk p l e s m args below meth c E X H locs ls hP hS hl)
theorem fx_sald (pc : Nat) (j : Nat) {i : Int32} (hj : j < 4) (hd : decode mt.2.1 pc = .ok (.iaload, 1)) (hi : fx_in i 7 = true) (kk : fx_V G mt Q (pc + 1) lv (.int ((kx_a j).2.2.getD i.toNatClampNeg 0) :: st) M) : fx_V G mt Q pc lv (.int i :: .ref (3000 + j) :: st) M :=
  fun p l e s m args below meth c E X H locs ls hP hS hl => va_ti X.1 X.2.1 (X.2.2.2.2.2.2.2.2.2.2.2.2.1 j hj).2 hS (fx_in_ok hi) rfl hd (kk p l e s m args below meth c E X H locs ls hP hS hl)
end FXR
end
section
/-! WORDS: each word of wsL_law that a row needs, by its place (written by program) -/
theorem rin1 : ∀ w ∈ wsL_law_r1, w ∈ wsL_law := fun _ h => List.mem_append_left _ (List.mem_append_left _ (List.mem_append_left _ (List.mem_append_left _ (List.mem_append_left _ (List.mem_append_left _ (List.mem_append_left _ (List.mem_append_left _ (List.mem_append_left _ (List.mem_append_left _ h)))))))))
theorem rin2 : ∀ w ∈ wsL_law_r2, w ∈ wsL_law := fun _ h => List.mem_append_left _ (List.mem_append_left _ (List.mem_append_left _ (List.mem_append_left _ (List.mem_append_left _ (List.mem_append_left _ (List.mem_append_left _ (List.mem_append_left _ (List.mem_append_left _ (List.mem_append_right _ (List.mem_append_left _ h))))))))))
theorem rin3 : ∀ w ∈ wsL_law_r3, w ∈ wsL_law := fun _ h => List.mem_append_left _ (List.mem_append_left _ (List.mem_append_left _ (List.mem_append_left _ (List.mem_append_left _ (List.mem_append_left _ (List.mem_append_left _ (List.mem_append_left _ (List.mem_append_left _ (List.mem_append_right _ (List.mem_append_right _ (List.mem_append_left _ h)))))))))))
theorem rin4 : ∀ w ∈ wsL_law_r4, w ∈ wsL_law := fun _ h => List.mem_append_left _ (List.mem_append_left _ (List.mem_append_left _ (List.mem_append_left _ (List.mem_append_left _ (List.mem_append_left _ (List.mem_append_left _ (List.mem_append_left _ (List.mem_append_left _ (List.mem_append_right _ (List.mem_append_right _ (List.mem_append_right _ (List.mem_append_left _ h))))))))))))
theorem rin5 : ∀ w ∈ wsL_law_r5, w ∈ wsL_law := fun _ h => List.mem_append_left _ (List.mem_append_left _ (List.mem_append_left _ (List.mem_append_left _ (List.mem_append_left _ (List.mem_append_left _ (List.mem_append_left _ (List.mem_append_left _ (List.mem_append_left _ (List.mem_append_right _ (List.mem_append_right _ (List.mem_append_right _ (List.mem_append_right _ (List.mem_append_left _ h)))))))))))))
theorem rin6 : ∀ w ∈ wsL_law_r6, w ∈ wsL_law := fun _ h => List.mem_append_left _ (List.mem_append_left _ (List.mem_append_left _ (List.mem_append_left _ (List.mem_append_left _ (List.mem_append_left _ (List.mem_append_left _ (List.mem_append_left _ (List.mem_append_left _ (List.mem_append_right _ (List.mem_append_right _ (List.mem_append_right _ (List.mem_append_right _ (List.mem_append_right _ (List.mem_append_left _ h))))))))))))))
theorem rin7 : ∀ w ∈ wsL_law_r7, w ∈ wsL_law := fun _ h => List.mem_append_left _ (List.mem_append_left _ (List.mem_append_left _ (List.mem_append_left _ (List.mem_append_left _ (List.mem_append_left _ (List.mem_append_left _ (List.mem_append_left _ (List.mem_append_left _ (List.mem_append_right _ (List.mem_append_right _ (List.mem_append_right _ (List.mem_append_right _ (List.mem_append_right _ (List.mem_append_right _ (List.mem_append_left _ h)))))))))))))))
theorem rin8 : ∀ w ∈ wsL_law_r8, w ∈ wsL_law := fun _ h => List.mem_append_left _ (List.mem_append_left _ (List.mem_append_left _ (List.mem_append_left _ (List.mem_append_left _ (List.mem_append_left _ (List.mem_append_left _ (List.mem_append_left _ (List.mem_append_left _ (List.mem_append_right _ (List.mem_append_right _ (List.mem_append_right _ (List.mem_append_right _ (List.mem_append_right _ (List.mem_append_right _ (List.mem_append_right _ (List.mem_append_left _ h))))))))))))))))
theorem rin9 : ∀ w ∈ wsL_law_r9, w ∈ wsL_law := fun _ h => List.mem_append_left _ (List.mem_append_left _ (List.mem_append_left _ (List.mem_append_left _ (List.mem_append_left _ (List.mem_append_left _ (List.mem_append_left _ (List.mem_append_left _ (List.mem_append_left _ (List.mem_append_right _ (List.mem_append_right _ (List.mem_append_right _ (List.mem_append_right _ (List.mem_append_right _ (List.mem_append_right _ (List.mem_append_right _ (List.mem_append_right _ (List.mem_append_left _ h)))))))))))))))))
theorem rin10 : ∀ w ∈ wsL_law_r10, w ∈ wsL_law := fun _ h => List.mem_append_left _ (List.mem_append_left _ (List.mem_append_left _ (List.mem_append_left _ (List.mem_append_left _ (List.mem_append_left _ (List.mem_append_left _ (List.mem_append_left _ (List.mem_append_left _ (List.mem_append_right _ (List.mem_append_right _ (List.mem_append_right _ (List.mem_append_right _ (List.mem_append_right _ (List.mem_append_right _ (List.mem_append_right _ (List.mem_append_right _ (List.mem_append_right _ (List.mem_append_left _ h))))))))))))))))))
theorem rin11 : ∀ w ∈ wsL_law_r11, w ∈ wsL_law := fun _ h => List.mem_append_left _ (List.mem_append_left _ (List.mem_append_left _ (List.mem_append_left _ (List.mem_append_left _ (List.mem_append_left _ (List.mem_append_left _ (List.mem_append_left _ (List.mem_append_left _ (List.mem_append_right _ (List.mem_append_right _ (List.mem_append_right _ (List.mem_append_right _ (List.mem_append_right _ (List.mem_append_right _ (List.mem_append_right _ (List.mem_append_right _ (List.mem_append_right _ (List.mem_append_right _ (List.mem_append_left _ h)))))))))))))))))))
theorem rin12 : ∀ w ∈ wsL_law_r12, w ∈ wsL_law := fun _ h => List.mem_append_left _ (List.mem_append_left _ (List.mem_append_left _ (List.mem_append_left _ (List.mem_append_left _ (List.mem_append_left _ (List.mem_append_left _ (List.mem_append_left _ (List.mem_append_left _ (List.mem_append_right _ (List.mem_append_right _ (List.mem_append_right _ (List.mem_append_right _ (List.mem_append_right _ (List.mem_append_right _ (List.mem_append_right _ (List.mem_append_right _ (List.mem_append_right _ (List.mem_append_right _ (List.mem_append_right _ (List.mem_append_left _ h))))))))))))))))))))
theorem rin13 : ∀ w ∈ wsL_law_r13, w ∈ wsL_law := fun _ h => List.mem_append_left _ (List.mem_append_left _ (List.mem_append_left _ (List.mem_append_left _ (List.mem_append_left _ (List.mem_append_left _ (List.mem_append_left _ (List.mem_append_left _ (List.mem_append_left _ (List.mem_append_right _ (List.mem_append_right _ (List.mem_append_right _ (List.mem_append_right _ (List.mem_append_right _ (List.mem_append_right _ (List.mem_append_right _ (List.mem_append_right _ (List.mem_append_right _ (List.mem_append_right _ (List.mem_append_right _ (List.mem_append_right _ (List.mem_append_left _ h)))))))))))))))))))))
theorem rin14 : ∀ w ∈ wsL_law_r14, w ∈ wsL_law := fun _ h => List.mem_append_left _ (List.mem_append_left _ (List.mem_append_left _ (List.mem_append_left _ (List.mem_append_left _ (List.mem_append_left _ (List.mem_append_left _ (List.mem_append_left _ (List.mem_append_left _ (List.mem_append_right _ (List.mem_append_right _ (List.mem_append_right _ (List.mem_append_right _ (List.mem_append_right _ (List.mem_append_right _ (List.mem_append_right _ (List.mem_append_right _ (List.mem_append_right _ (List.mem_append_right _ (List.mem_append_right _ (List.mem_append_right _ (List.mem_append_right _ (List.mem_append_left _ h))))))))))))))))))))))
theorem rin15 : ∀ w ∈ wsL_law_r15, w ∈ wsL_law := fun _ h => List.mem_append_left _ (List.mem_append_left _ (List.mem_append_left _ (List.mem_append_left _ (List.mem_append_left _ (List.mem_append_left _ (List.mem_append_left _ (List.mem_append_left _ (List.mem_append_left _ (List.mem_append_right _ (List.mem_append_right _ (List.mem_append_right _ (List.mem_append_right _ (List.mem_append_right _ (List.mem_append_right _ (List.mem_append_right _ (List.mem_append_right _ (List.mem_append_right _ (List.mem_append_right _ (List.mem_append_right _ (List.mem_append_right _ (List.mem_append_right _ (List.mem_append_right _ (List.mem_append_left _ h)))))))))))))))))))))))
theorem rin16 : ∀ w ∈ wsL_law_r16, w ∈ wsL_law := fun _ h => List.mem_append_left _ (List.mem_append_left _ (List.mem_append_left _ (List.mem_append_left _ (List.mem_append_left _ (List.mem_append_left _ (List.mem_append_left _ (List.mem_append_left _ (List.mem_append_left _ (List.mem_append_right _ (List.mem_append_right _ (List.mem_append_right _ (List.mem_append_right _ (List.mem_append_right _ (List.mem_append_right _ (List.mem_append_right _ (List.mem_append_right _ (List.mem_append_right _ (List.mem_append_right _ (List.mem_append_right _ (List.mem_append_right _ (List.mem_append_right _ (List.mem_append_right _ (List.mem_append_right _ (List.mem_append_left _ h))))))))))))))))))))))))
theorem rin17 : ∀ w ∈ wsL_law_r17, w ∈ wsL_law := fun _ h => List.mem_append_left _ (List.mem_append_left _ (List.mem_append_left _ (List.mem_append_left _ (List.mem_append_left _ (List.mem_append_left _ (List.mem_append_left _ (List.mem_append_left _ (List.mem_append_left _ (List.mem_append_right _ (List.mem_append_right _ (List.mem_append_right _ (List.mem_append_right _ (List.mem_append_right _ (List.mem_append_right _ (List.mem_append_right _ (List.mem_append_right _ (List.mem_append_right _ (List.mem_append_right _ (List.mem_append_right _ (List.mem_append_right _ (List.mem_append_right _ (List.mem_append_right _ (List.mem_append_right _ (List.mem_append_right _ (List.mem_append_left _ h)))))))))))))))))))))))))
theorem rin18 : ∀ w ∈ wsL_law_r18, w ∈ wsL_law := fun _ h => List.mem_append_left _ (List.mem_append_left _ (List.mem_append_left _ (List.mem_append_left _ (List.mem_append_left _ (List.mem_append_left _ (List.mem_append_left _ (List.mem_append_left _ (List.mem_append_left _ (List.mem_append_right _ (List.mem_append_right _ (List.mem_append_right _ (List.mem_append_right _ (List.mem_append_right _ (List.mem_append_right _ (List.mem_append_right _ (List.mem_append_right _ (List.mem_append_right _ (List.mem_append_right _ (List.mem_append_right _ (List.mem_append_right _ (List.mem_append_right _ (List.mem_append_right _ (List.mem_append_right _ (List.mem_append_right _ (List.mem_append_right _ (List.mem_append_left _ h))))))))))))))))))))))))))
theorem rin19 : ∀ w ∈ wsL_law_r19, w ∈ wsL_law := fun _ h => List.mem_append_left _ (List.mem_append_left _ (List.mem_append_left _ (List.mem_append_left _ (List.mem_append_left _ (List.mem_append_left _ (List.mem_append_left _ (List.mem_append_left _ (List.mem_append_left _ (List.mem_append_right _ (List.mem_append_right _ (List.mem_append_right _ (List.mem_append_right _ (List.mem_append_right _ (List.mem_append_right _ (List.mem_append_right _ (List.mem_append_right _ (List.mem_append_right _ (List.mem_append_right _ (List.mem_append_right _ (List.mem_append_right _ (List.mem_append_right _ (List.mem_append_right _ (List.mem_append_right _ (List.mem_append_right _ (List.mem_append_right _ (List.mem_append_right _ (List.mem_append_left _ h)))))))))))))))))))))))))))
theorem rin20 : ∀ w ∈ wsL_law_r20, w ∈ wsL_law := fun _ h => List.mem_append_left _ (List.mem_append_left _ (List.mem_append_left _ (List.mem_append_left _ (List.mem_append_left _ (List.mem_append_left _ (List.mem_append_left _ (List.mem_append_left _ (List.mem_append_left _ (List.mem_append_right _ (List.mem_append_right _ (List.mem_append_right _ (List.mem_append_right _ (List.mem_append_right _ (List.mem_append_right _ (List.mem_append_right _ (List.mem_append_right _ (List.mem_append_right _ (List.mem_append_right _ (List.mem_append_right _ (List.mem_append_right _ (List.mem_append_right _ (List.mem_append_right _ (List.mem_append_right _ (List.mem_append_right _ (List.mem_append_right _ (List.mem_append_right _ (List.mem_append_right _ (List.mem_append_left _ h))))))))))))))))))))))))))))
theorem rin21 : ∀ w ∈ wsL_law_r21, w ∈ wsL_law := fun _ h => List.mem_append_left _ (List.mem_append_left _ (List.mem_append_left _ (List.mem_append_left _ (List.mem_append_left _ (List.mem_append_left _ (List.mem_append_left _ (List.mem_append_left _ (List.mem_append_left _ (List.mem_append_right _ (List.mem_append_right _ (List.mem_append_right _ (List.mem_append_right _ (List.mem_append_right _ (List.mem_append_right _ (List.mem_append_right _ (List.mem_append_right _ (List.mem_append_right _ (List.mem_append_right _ (List.mem_append_right _ (List.mem_append_right _ (List.mem_append_right _ (List.mem_append_right _ (List.mem_append_right _ (List.mem_append_right _ (List.mem_append_right _ (List.mem_append_right _ (List.mem_append_right _ (List.mem_append_right _ (List.mem_append_left _ h)))))))))))))))))))))))))))))
theorem rin22 : ∀ w ∈ wsL_law_r22, w ∈ wsL_law := fun _ h => List.mem_append_left _ (List.mem_append_left _ (List.mem_append_left _ (List.mem_append_left _ (List.mem_append_left _ (List.mem_append_left _ (List.mem_append_left _ (List.mem_append_left _ (List.mem_append_left _ (List.mem_append_right _ (List.mem_append_right _ (List.mem_append_right _ (List.mem_append_right _ (List.mem_append_right _ (List.mem_append_right _ (List.mem_append_right _ (List.mem_append_right _ (List.mem_append_right _ (List.mem_append_right _ (List.mem_append_right _ (List.mem_append_right _ (List.mem_append_right _ (List.mem_append_right _ (List.mem_append_right _ (List.mem_append_right _ (List.mem_append_right _ (List.mem_append_right _ (List.mem_append_right _ (List.mem_append_right _ (List.mem_append_right _ (List.mem_append_left _ h))))))))))))))))))))))))))))))
theorem rin23 : ∀ w ∈ wsL_law_r23, w ∈ wsL_law := fun _ h => List.mem_append_left _ (List.mem_append_left _ (List.mem_append_left _ (List.mem_append_left _ (List.mem_append_left _ (List.mem_append_left _ (List.mem_append_left _ (List.mem_append_left _ (List.mem_append_left _ (List.mem_append_right _ (List.mem_append_right _ (List.mem_append_right _ (List.mem_append_right _ (List.mem_append_right _ (List.mem_append_right _ (List.mem_append_right _ (List.mem_append_right _ (List.mem_append_right _ (List.mem_append_right _ (List.mem_append_right _ (List.mem_append_right _ (List.mem_append_right _ (List.mem_append_right _ (List.mem_append_right _ (List.mem_append_right _ (List.mem_append_right _ (List.mem_append_right _ (List.mem_append_right _ (List.mem_append_right _ (List.mem_append_right _ (List.mem_append_right _ (List.mem_append_left _ h)))))))))))))))))))))))))))))))
theorem rin24 : ∀ w ∈ wsL_law_r24, w ∈ wsL_law := fun _ h => List.mem_append_left _ (List.mem_append_left _ (List.mem_append_left _ (List.mem_append_left _ (List.mem_append_left _ (List.mem_append_left _ (List.mem_append_left _ (List.mem_append_left _ (List.mem_append_left _ (List.mem_append_right _ (List.mem_append_right _ (List.mem_append_right _ (List.mem_append_right _ (List.mem_append_right _ (List.mem_append_right _ (List.mem_append_right _ (List.mem_append_right _ (List.mem_append_right _ (List.mem_append_right _ (List.mem_append_right _ (List.mem_append_right _ (List.mem_append_right _ (List.mem_append_right _ (List.mem_append_right _ (List.mem_append_right _ (List.mem_append_right _ (List.mem_append_right _ (List.mem_append_right _ (List.mem_append_right _ (List.mem_append_right _ (List.mem_append_right _ (List.mem_append_right _ (List.mem_append_left _ h))))))))))))))))))))))))))))))))
theorem rin25 : ∀ w ∈ wsL_law_r25, w ∈ wsL_law := fun _ h => List.mem_append_left _ (List.mem_append_left _ (List.mem_append_left _ (List.mem_append_left _ (List.mem_append_left _ (List.mem_append_left _ (List.mem_append_left _ (List.mem_append_left _ (List.mem_append_left _ (List.mem_append_right _ (List.mem_append_right _ (List.mem_append_right _ (List.mem_append_right _ (List.mem_append_right _ (List.mem_append_right _ (List.mem_append_right _ (List.mem_append_right _ (List.mem_append_right _ (List.mem_append_right _ (List.mem_append_right _ (List.mem_append_right _ (List.mem_append_right _ (List.mem_append_right _ (List.mem_append_right _ (List.mem_append_right _ (List.mem_append_right _ (List.mem_append_right _ (List.mem_append_right _ (List.mem_append_right _ (List.mem_append_right _ (List.mem_append_right _ (List.mem_append_right _ (List.mem_append_right _ (List.mem_append_left _ h)))))))))))))))))))))))))))))))))
theorem rin26 : ∀ w ∈ wsL_law_r26, w ∈ wsL_law := fun _ h => List.mem_append_left _ (List.mem_append_left _ (List.mem_append_left _ (List.mem_append_left _ (List.mem_append_left _ (List.mem_append_left _ (List.mem_append_left _ (List.mem_append_left _ (List.mem_append_left _ (List.mem_append_right _ (List.mem_append_right _ (List.mem_append_right _ (List.mem_append_right _ (List.mem_append_right _ (List.mem_append_right _ (List.mem_append_right _ (List.mem_append_right _ (List.mem_append_right _ (List.mem_append_right _ (List.mem_append_right _ (List.mem_append_right _ (List.mem_append_right _ (List.mem_append_right _ (List.mem_append_right _ (List.mem_append_right _ (List.mem_append_right _ (List.mem_append_right _ (List.mem_append_right _ (List.mem_append_right _ (List.mem_append_right _ (List.mem_append_right _ (List.mem_append_right _ (List.mem_append_right _ (List.mem_append_right _ (List.mem_append_left _ h))))))))))))))))))))))))))))))))))
theorem rin27 : ∀ w ∈ wsL_law_r27, w ∈ wsL_law := fun _ h => List.mem_append_left _ (List.mem_append_left _ (List.mem_append_left _ (List.mem_append_left _ (List.mem_append_left _ (List.mem_append_left _ (List.mem_append_left _ (List.mem_append_left _ (List.mem_append_left _ (List.mem_append_right _ (List.mem_append_right _ (List.mem_append_right _ (List.mem_append_right _ (List.mem_append_right _ (List.mem_append_right _ (List.mem_append_right _ (List.mem_append_right _ (List.mem_append_right _ (List.mem_append_right _ (List.mem_append_right _ (List.mem_append_right _ (List.mem_append_right _ (List.mem_append_right _ (List.mem_append_right _ (List.mem_append_right _ (List.mem_append_right _ (List.mem_append_right _ (List.mem_append_right _ (List.mem_append_right _ (List.mem_append_right _ (List.mem_append_right _ (List.mem_append_right _ (List.mem_append_right _ (List.mem_append_right _ (List.mem_append_right _ (List.mem_append_left _ h)))))))))))))))))))))))))))))))))))
theorem rin28 : ∀ w ∈ wsL_law_r28, w ∈ wsL_law := fun _ h => List.mem_append_left _ (List.mem_append_left _ (List.mem_append_left _ (List.mem_append_left _ (List.mem_append_left _ (List.mem_append_left _ (List.mem_append_left _ (List.mem_append_left _ (List.mem_append_left _ (List.mem_append_right _ (List.mem_append_right _ (List.mem_append_right _ (List.mem_append_right _ (List.mem_append_right _ (List.mem_append_right _ (List.mem_append_right _ (List.mem_append_right _ (List.mem_append_right _ (List.mem_append_right _ (List.mem_append_right _ (List.mem_append_right _ (List.mem_append_right _ (List.mem_append_right _ (List.mem_append_right _ (List.mem_append_right _ (List.mem_append_right _ (List.mem_append_right _ (List.mem_append_right _ (List.mem_append_right _ (List.mem_append_right _ (List.mem_append_right _ (List.mem_append_right _ (List.mem_append_right _ (List.mem_append_right _ (List.mem_append_right _ (List.mem_append_right _ (List.mem_append_left _ h))))))))))))))))))))))))))))))))))))
theorem rin29 : ∀ w ∈ wsL_law_r29, w ∈ wsL_law := fun _ h => List.mem_append_left _ (List.mem_append_left _ (List.mem_append_left _ (List.mem_append_left _ (List.mem_append_left _ (List.mem_append_left _ (List.mem_append_left _ (List.mem_append_left _ (List.mem_append_left _ (List.mem_append_right _ (List.mem_append_right _ (List.mem_append_right _ (List.mem_append_right _ (List.mem_append_right _ (List.mem_append_right _ (List.mem_append_right _ (List.mem_append_right _ (List.mem_append_right _ (List.mem_append_right _ (List.mem_append_right _ (List.mem_append_right _ (List.mem_append_right _ (List.mem_append_right _ (List.mem_append_right _ (List.mem_append_right _ (List.mem_append_right _ (List.mem_append_right _ (List.mem_append_right _ (List.mem_append_right _ (List.mem_append_right _ (List.mem_append_right _ (List.mem_append_right _ (List.mem_append_right _ (List.mem_append_right _ (List.mem_append_right _ (List.mem_append_right _ (List.mem_append_right _ (List.mem_append_left _ h)))))))))))))))))))))))))))))))))))))
theorem rin30 : ∀ w ∈ wsL_law_r30, w ∈ wsL_law := fun _ h => List.mem_append_left _ (List.mem_append_left _ (List.mem_append_left _ (List.mem_append_left _ (List.mem_append_left _ (List.mem_append_left _ (List.mem_append_left _ (List.mem_append_left _ (List.mem_append_left _ (List.mem_append_right _ (List.mem_append_right _ (List.mem_append_right _ (List.mem_append_right _ (List.mem_append_right _ (List.mem_append_right _ (List.mem_append_right _ (List.mem_append_right _ (List.mem_append_right _ (List.mem_append_right _ (List.mem_append_right _ (List.mem_append_right _ (List.mem_append_right _ (List.mem_append_right _ (List.mem_append_right _ (List.mem_append_right _ (List.mem_append_right _ (List.mem_append_right _ (List.mem_append_right _ (List.mem_append_right _ (List.mem_append_right _ (List.mem_append_right _ (List.mem_append_right _ (List.mem_append_right _ (List.mem_append_right _ (List.mem_append_right _ (List.mem_append_right _ (List.mem_append_right _ (List.mem_append_right _ (List.mem_append_left _ h))))))))))))))))))))))))))))))))))))))
theorem rin31 : ∀ w ∈ wsL_law_r31, w ∈ wsL_law := fun _ h => List.mem_append_left _ (List.mem_append_left _ (List.mem_append_left _ (List.mem_append_left _ (List.mem_append_left _ (List.mem_append_left _ (List.mem_append_left _ (List.mem_append_left _ (List.mem_append_left _ (List.mem_append_right _ (List.mem_append_right _ (List.mem_append_right _ (List.mem_append_right _ (List.mem_append_right _ (List.mem_append_right _ (List.mem_append_right _ (List.mem_append_right _ (List.mem_append_right _ (List.mem_append_right _ (List.mem_append_right _ (List.mem_append_right _ (List.mem_append_right _ (List.mem_append_right _ (List.mem_append_right _ (List.mem_append_right _ (List.mem_append_right _ (List.mem_append_right _ (List.mem_append_right _ (List.mem_append_right _ (List.mem_append_right _ (List.mem_append_right _ (List.mem_append_right _ (List.mem_append_right _ (List.mem_append_right _ (List.mem_append_right _ (List.mem_append_right _ (List.mem_append_right _ (List.mem_append_right _ (List.mem_append_right _ (List.mem_append_left _ h)))))))))))))))))))))))))))))))))))))))
theorem rin32 : ∀ w ∈ wsL_law_r32, w ∈ wsL_law := fun _ h => List.mem_append_left _ (List.mem_append_left _ (List.mem_append_left _ (List.mem_append_left _ (List.mem_append_left _ (List.mem_append_left _ (List.mem_append_left _ (List.mem_append_left _ (List.mem_append_left _ (List.mem_append_right _ (List.mem_append_right _ (List.mem_append_right _ (List.mem_append_right _ (List.mem_append_right _ (List.mem_append_right _ (List.mem_append_right _ (List.mem_append_right _ (List.mem_append_right _ (List.mem_append_right _ (List.mem_append_right _ (List.mem_append_right _ (List.mem_append_right _ (List.mem_append_right _ (List.mem_append_right _ (List.mem_append_right _ (List.mem_append_right _ (List.mem_append_right _ (List.mem_append_right _ (List.mem_append_right _ (List.mem_append_right _ (List.mem_append_right _ (List.mem_append_right _ (List.mem_append_right _ (List.mem_append_right _ (List.mem_append_right _ (List.mem_append_right _ (List.mem_append_right _ (List.mem_append_right _ (List.mem_append_right _ (List.mem_append_right _ (List.mem_append_left _ h))))))))))))))))))))))))))))))))))))))))
theorem rin33 : ∀ w ∈ wsL_law_r33, w ∈ wsL_law := fun _ h => List.mem_append_left _ (List.mem_append_left _ (List.mem_append_left _ (List.mem_append_left _ (List.mem_append_left _ (List.mem_append_left _ (List.mem_append_left _ (List.mem_append_left _ (List.mem_append_left _ (List.mem_append_right _ (List.mem_append_right _ (List.mem_append_right _ (List.mem_append_right _ (List.mem_append_right _ (List.mem_append_right _ (List.mem_append_right _ (List.mem_append_right _ (List.mem_append_right _ (List.mem_append_right _ (List.mem_append_right _ (List.mem_append_right _ (List.mem_append_right _ (List.mem_append_right _ (List.mem_append_right _ (List.mem_append_right _ (List.mem_append_right _ (List.mem_append_right _ (List.mem_append_right _ (List.mem_append_right _ (List.mem_append_right _ (List.mem_append_right _ (List.mem_append_right _ (List.mem_append_right _ (List.mem_append_right _ (List.mem_append_right _ (List.mem_append_right _ (List.mem_append_right _ (List.mem_append_right _ (List.mem_append_right _ (List.mem_append_right _ (List.mem_append_right _ (List.mem_append_left _ h)))))))))))))))))))))))))))))))))))))))))
theorem rin34 : ∀ w ∈ wsL_law_r34, w ∈ wsL_law := fun _ h => List.mem_append_left _ (List.mem_append_left _ (List.mem_append_left _ (List.mem_append_left _ (List.mem_append_left _ (List.mem_append_left _ (List.mem_append_left _ (List.mem_append_left _ (List.mem_append_left _ (List.mem_append_right _ (List.mem_append_right _ (List.mem_append_right _ (List.mem_append_right _ (List.mem_append_right _ (List.mem_append_right _ (List.mem_append_right _ (List.mem_append_right _ (List.mem_append_right _ (List.mem_append_right _ (List.mem_append_right _ (List.mem_append_right _ (List.mem_append_right _ (List.mem_append_right _ (List.mem_append_right _ (List.mem_append_right _ (List.mem_append_right _ (List.mem_append_right _ (List.mem_append_right _ (List.mem_append_right _ (List.mem_append_right _ (List.mem_append_right _ (List.mem_append_right _ (List.mem_append_right _ (List.mem_append_right _ (List.mem_append_right _ (List.mem_append_right _ (List.mem_append_right _ (List.mem_append_right _ (List.mem_append_right _ (List.mem_append_right _ (List.mem_append_right _ (List.mem_append_right _ (List.mem_append_left _ h))))))))))))))))))))))))))))))))))))))))))
theorem rin35 : ∀ w ∈ wsL_law_r35, w ∈ wsL_law := fun _ h => List.mem_append_left _ (List.mem_append_left _ (List.mem_append_left _ (List.mem_append_left _ (List.mem_append_left _ (List.mem_append_left _ (List.mem_append_left _ (List.mem_append_left _ (List.mem_append_left _ (List.mem_append_right _ (List.mem_append_right _ (List.mem_append_right _ (List.mem_append_right _ (List.mem_append_right _ (List.mem_append_right _ (List.mem_append_right _ (List.mem_append_right _ (List.mem_append_right _ (List.mem_append_right _ (List.mem_append_right _ (List.mem_append_right _ (List.mem_append_right _ (List.mem_append_right _ (List.mem_append_right _ (List.mem_append_right _ (List.mem_append_right _ (List.mem_append_right _ (List.mem_append_right _ (List.mem_append_right _ (List.mem_append_right _ (List.mem_append_right _ (List.mem_append_right _ (List.mem_append_right _ (List.mem_append_right _ (List.mem_append_right _ (List.mem_append_right _ (List.mem_append_right _ (List.mem_append_right _ (List.mem_append_right _ (List.mem_append_right _ (List.mem_append_right _ (List.mem_append_right _ (List.mem_append_right _ (List.mem_append_left _ h)))))))))))))))))))))))))))))))))))))))))))
theorem rin36 : ∀ w ∈ wsL_law_r36, w ∈ wsL_law := fun _ h => List.mem_append_left _ (List.mem_append_left _ (List.mem_append_left _ (List.mem_append_left _ (List.mem_append_left _ (List.mem_append_left _ (List.mem_append_left _ (List.mem_append_left _ (List.mem_append_left _ (List.mem_append_right _ (List.mem_append_right _ (List.mem_append_right _ (List.mem_append_right _ (List.mem_append_right _ (List.mem_append_right _ (List.mem_append_right _ (List.mem_append_right _ (List.mem_append_right _ (List.mem_append_right _ (List.mem_append_right _ (List.mem_append_right _ (List.mem_append_right _ (List.mem_append_right _ (List.mem_append_right _ (List.mem_append_right _ (List.mem_append_right _ (List.mem_append_right _ (List.mem_append_right _ (List.mem_append_right _ (List.mem_append_right _ (List.mem_append_right _ (List.mem_append_right _ (List.mem_append_right _ (List.mem_append_right _ (List.mem_append_right _ (List.mem_append_right _ (List.mem_append_right _ (List.mem_append_right _ (List.mem_append_right _ (List.mem_append_right _ (List.mem_append_right _ (List.mem_append_right _ (List.mem_append_right _ (List.mem_append_right _ (List.mem_append_left _ h))))))))))))))))))))))))))))))))))))))))))))
theorem rin37 : ∀ w ∈ wsL_law_r37, w ∈ wsL_law := fun _ h => List.mem_append_left _ (List.mem_append_left _ (List.mem_append_left _ (List.mem_append_left _ (List.mem_append_left _ (List.mem_append_left _ (List.mem_append_left _ (List.mem_append_left _ (List.mem_append_left _ (List.mem_append_right _ (List.mem_append_right _ (List.mem_append_right _ (List.mem_append_right _ (List.mem_append_right _ (List.mem_append_right _ (List.mem_append_right _ (List.mem_append_right _ (List.mem_append_right _ (List.mem_append_right _ (List.mem_append_right _ (List.mem_append_right _ (List.mem_append_right _ (List.mem_append_right _ (List.mem_append_right _ (List.mem_append_right _ (List.mem_append_right _ (List.mem_append_right _ (List.mem_append_right _ (List.mem_append_right _ (List.mem_append_right _ (List.mem_append_right _ (List.mem_append_right _ (List.mem_append_right _ (List.mem_append_right _ (List.mem_append_right _ (List.mem_append_right _ (List.mem_append_right _ (List.mem_append_right _ (List.mem_append_right _ (List.mem_append_right _ (List.mem_append_right _ (List.mem_append_right _ (List.mem_append_right _ (List.mem_append_right _ (List.mem_append_right _ (List.mem_append_left _ h)))))))))))))))))))))))))))))))))))))))))))))
theorem rin38 : ∀ w ∈ wsL_law_r38, w ∈ wsL_law := fun _ h => List.mem_append_left _ (List.mem_append_left _ (List.mem_append_left _ (List.mem_append_left _ (List.mem_append_left _ (List.mem_append_left _ (List.mem_append_left _ (List.mem_append_left _ (List.mem_append_left _ (List.mem_append_right _ (List.mem_append_right _ (List.mem_append_right _ (List.mem_append_right _ (List.mem_append_right _ (List.mem_append_right _ (List.mem_append_right _ (List.mem_append_right _ (List.mem_append_right _ (List.mem_append_right _ (List.mem_append_right _ (List.mem_append_right _ (List.mem_append_right _ (List.mem_append_right _ (List.mem_append_right _ (List.mem_append_right _ (List.mem_append_right _ (List.mem_append_right _ (List.mem_append_right _ (List.mem_append_right _ (List.mem_append_right _ (List.mem_append_right _ (List.mem_append_right _ (List.mem_append_right _ (List.mem_append_right _ (List.mem_append_right _ (List.mem_append_right _ (List.mem_append_right _ (List.mem_append_right _ (List.mem_append_right _ (List.mem_append_right _ (List.mem_append_right _ (List.mem_append_right _ (List.mem_append_right _ (List.mem_append_right _ (List.mem_append_right _ (List.mem_append_right _ (List.mem_append_left _ h))))))))))))))))))))))))))))))))))))))))))))))
theorem rin39 : ∀ w ∈ wsL_law_r39, w ∈ wsL_law := fun _ h => List.mem_append_left _ (List.mem_append_left _ (List.mem_append_left _ (List.mem_append_left _ (List.mem_append_left _ (List.mem_append_left _ (List.mem_append_left _ (List.mem_append_left _ (List.mem_append_left _ (List.mem_append_right _ (List.mem_append_right _ (List.mem_append_right _ (List.mem_append_right _ (List.mem_append_right _ (List.mem_append_right _ (List.mem_append_right _ (List.mem_append_right _ (List.mem_append_right _ (List.mem_append_right _ (List.mem_append_right _ (List.mem_append_right _ (List.mem_append_right _ (List.mem_append_right _ (List.mem_append_right _ (List.mem_append_right _ (List.mem_append_right _ (List.mem_append_right _ (List.mem_append_right _ (List.mem_append_right _ (List.mem_append_right _ (List.mem_append_right _ (List.mem_append_right _ (List.mem_append_right _ (List.mem_append_right _ (List.mem_append_right _ (List.mem_append_right _ (List.mem_append_right _ (List.mem_append_right _ (List.mem_append_right _ (List.mem_append_right _ (List.mem_append_right _ (List.mem_append_right _ (List.mem_append_right _ (List.mem_append_right _ (List.mem_append_right _ (List.mem_append_right _ (List.mem_append_right _ (List.mem_append_left _ h)))))))))))))))))))))))))))))))))))))))))))))))
theorem rin40 : ∀ w ∈ wsL_law_r40, w ∈ wsL_law := fun _ h => List.mem_append_left _ (List.mem_append_left _ (List.mem_append_left _ (List.mem_append_left _ (List.mem_append_left _ (List.mem_append_left _ (List.mem_append_left _ (List.mem_append_left _ (List.mem_append_left _ (List.mem_append_right _ (List.mem_append_right _ (List.mem_append_right _ (List.mem_append_right _ (List.mem_append_right _ (List.mem_append_right _ (List.mem_append_right _ (List.mem_append_right _ (List.mem_append_right _ (List.mem_append_right _ (List.mem_append_right _ (List.mem_append_right _ (List.mem_append_right _ (List.mem_append_right _ (List.mem_append_right _ (List.mem_append_right _ (List.mem_append_right _ (List.mem_append_right _ (List.mem_append_right _ (List.mem_append_right _ (List.mem_append_right _ (List.mem_append_right _ (List.mem_append_right _ (List.mem_append_right _ (List.mem_append_right _ (List.mem_append_right _ (List.mem_append_right _ (List.mem_append_right _ (List.mem_append_right _ (List.mem_append_right _ (List.mem_append_right _ (List.mem_append_right _ (List.mem_append_right _ (List.mem_append_right _ (List.mem_append_right _ (List.mem_append_right _ (List.mem_append_right _ (List.mem_append_right _ (List.mem_append_right _ (h))))))))))))))))))))))))))))))))))))))))))))))))
theorem rgd1 : wsL_law_r1.all goodWord = true := by decide +kernel
theorem rgd2 : wsL_law_r2.all goodWord = true := by decide +kernel
theorem rgd3 : wsL_law_r3.all goodWord = true := by decide +kernel
theorem rgd4 : wsL_law_r4.all goodWord = true := by decide +kernel
theorem rgd5 : wsL_law_r5.all goodWord = true := by decide +kernel
theorem rgd6 : wsL_law_r6.all goodWord = true := by decide +kernel
theorem rgd7 : wsL_law_r7.all goodWord = true := by decide +kernel
theorem rgd8 : wsL_law_r8.all goodWord = true := by decide +kernel
theorem rgd9 : wsL_law_r9.all goodWord = true := by decide +kernel
theorem rgd10 : wsL_law_r10.all goodWord = true := by decide +kernel
theorem rgd11 : wsL_law_r11.all goodWord = true := by decide +kernel
theorem rgd12 : wsL_law_r12.all goodWord = true := by decide +kernel
theorem rgd13 : wsL_law_r13.all goodWord = true := by decide +kernel
theorem rgd14 : wsL_law_r14.all goodWord = true := by decide +kernel
theorem rgd15 : wsL_law_r15.all goodWord = true := by decide +kernel
theorem rgd16 : wsL_law_r16.all goodWord = true := by decide +kernel
theorem rgd17 : wsL_law_r17.all goodWord = true := by decide +kernel
theorem rgd18 : wsL_law_r18.all goodWord = true := by decide +kernel
theorem rgd19 : wsL_law_r19.all goodWord = true := by decide +kernel
theorem rgd20 : wsL_law_r20.all goodWord = true := by decide +kernel
theorem rgd21 : wsL_law_r21.all goodWord = true := by decide +kernel
theorem rgd22 : wsL_law_r22.all goodWord = true := by decide +kernel
theorem rgd23 : wsL_law_r23.all goodWord = true := by decide +kernel
theorem rgd24 : wsL_law_r24.all goodWord = true := by decide +kernel
theorem rgd25 : wsL_law_r25.all goodWord = true := by decide +kernel
theorem rgd26 : wsL_law_r26.all goodWord = true := by decide +kernel
theorem rgd27 : wsL_law_r27.all goodWord = true := by decide +kernel
theorem rgd28 : wsL_law_r28.all goodWord = true := by decide +kernel
theorem rgd29 : wsL_law_r29.all goodWord = true := by decide +kernel
theorem rgd30 : wsL_law_r30.all goodWord = true := by decide +kernel
theorem rgd31 : wsL_law_r31.all goodWord = true := by decide +kernel
theorem rgd32 : wsL_law_r32.all goodWord = true := by decide +kernel
theorem rgd33 : wsL_law_r33.all goodWord = true := by decide +kernel
theorem rgd34 : wsL_law_r34.all goodWord = true := by decide +kernel
theorem rgd35 : wsL_law_r35.all goodWord = true := by decide +kernel
theorem rgd36 : wsL_law_r36.all goodWord = true := by decide +kernel
theorem rgd37 : wsL_law_r37.all goodWord = true := by decide +kernel
theorem rgd38 : wsL_law_r38.all goodWord = true := by decide +kernel
theorem rgd39 : wsL_law_r39.all goodWord = true := by decide +kernel
theorem rgd40 : wsL_law_r40.all goodWord = true := by decide +kernel
theorem rgx : (wsX60 ++ wsX70 ++ wsX10 ++ wsX50 ++ wsX00 ++ wsX30 ++ wsX20 ++ wsX40).all goodWord = true := by decide +kernel
theorem fx_good : ∀ w ∈ wsL_law, goodWord w = true := by
  intro w hw
  have hx := List.all_eq_true.mp rgx w
  simp only [wsL_law, List.mem_append, List.not_mem_nil, or_false] at hw hx
  rcases hw with (((((((hw | h) | h) | h) | h) | h) | h) | h) | h
  · rcases hw with h | h | h | h | h | h | h | h | h | h | h | h | h | h | h | h | h | h | h | h | h | h | h | h | h | h | h | h | h | h | h | h | h | h | h | h | h | h | h | h
    · exact List.all_eq_true.mp rgd1 w h
    · exact List.all_eq_true.mp rgd2 w h
    · exact List.all_eq_true.mp rgd3 w h
    · exact List.all_eq_true.mp rgd4 w h
    · exact List.all_eq_true.mp rgd5 w h
    · exact List.all_eq_true.mp rgd6 w h
    · exact List.all_eq_true.mp rgd7 w h
    · exact List.all_eq_true.mp rgd8 w h
    · exact List.all_eq_true.mp rgd9 w h
    · exact List.all_eq_true.mp rgd10 w h
    · exact List.all_eq_true.mp rgd11 w h
    · exact List.all_eq_true.mp rgd12 w h
    · exact List.all_eq_true.mp rgd13 w h
    · exact List.all_eq_true.mp rgd14 w h
    · exact List.all_eq_true.mp rgd15 w h
    · exact List.all_eq_true.mp rgd16 w h
    · exact List.all_eq_true.mp rgd17 w h
    · exact List.all_eq_true.mp rgd18 w h
    · exact List.all_eq_true.mp rgd19 w h
    · exact List.all_eq_true.mp rgd20 w h
    · exact List.all_eq_true.mp rgd21 w h
    · exact List.all_eq_true.mp rgd22 w h
    · exact List.all_eq_true.mp rgd23 w h
    · exact List.all_eq_true.mp rgd24 w h
    · exact List.all_eq_true.mp rgd25 w h
    · exact List.all_eq_true.mp rgd26 w h
    · exact List.all_eq_true.mp rgd27 w h
    · exact List.all_eq_true.mp rgd28 w h
    · exact List.all_eq_true.mp rgd29 w h
    · exact List.all_eq_true.mp rgd30 w h
    · exact List.all_eq_true.mp rgd31 w h
    · exact List.all_eq_true.mp rgd32 w h
    · exact List.all_eq_true.mp rgd33 w h
    · exact List.all_eq_true.mp rgd34 w h
    · exact List.all_eq_true.mp rgd35 w h
    · exact List.all_eq_true.mp rgd36 w h
    · exact List.all_eq_true.mp rgd37 w h
    · exact List.all_eq_true.mp rgd38 w h
    · exact List.all_eq_true.mp rgd39 w h
    · exact List.all_eq_true.mp rgd40 w h
  · exact hx (by simp only [h, true_or, or_true])
  · exact hx (by simp only [h, true_or, or_true])
  · exact hx (by simp only [h, true_or, or_true])
  · exact hx (by simp only [h, true_or, or_true])
  · exact hx (by simp only [h, true_or, or_true])
  · exact hx (by simp only [h, true_or, or_true])
  · exact hx (by simp only [h, true_or, or_true])
  · exact hx (by simp only [h, true_or, or_true])
theorem wi_max_s : Cond.static Lib.Math.max.name ∈ wsL_law := rin8 _ (List.mem_of_getElem? (i := 1) rfl)
theorem wi_max_c : Cond.code Lib.Math.max.name Lib.Math.max.code 2 (some .int) ∈ wsL_law := rin8 _ (List.mem_of_getElem? (i := 3) rfl)
theorem wi_min_s : Cond.static Lib.Math.min.name ∈ wsL_law := rin11 _ (List.mem_of_getElem? (i := 0) rfl)
theorem wi_min_c : Cond.code Lib.Math.min.name Lib.Math.min.code 2 (some .int) ∈ wsL_law := rin11 _ (List.mem_of_getElem? (i := 1) rfl)
theorem wi_abs_s : Cond.static Lib.Math.abs.name ∈ wsL_law := rin22 _ (List.mem_of_getElem? (i := 5) rfl)
theorem wi_abs_c : Cond.code Lib.Math.abs.name Lib.Math.abs.code 1 (some .int) ∈ wsL_law := rin22 _ (List.mem_of_getElem? (i := 6) rfl)
theorem wi_math : Cond.initialized "java/lang/Math" ∈ wsL_law := rin8 _ (List.mem_of_getElem? (i := 2) rfl)
theorem wi_copy_n : Cond.native arraycopyName ∈ wsL_law := rin19 _ (List.mem_of_getElem? (i := 17) rfl)
theorem wi_copy_s : Cond.static arraycopyName ∈ wsL_law := rin19 _ (List.mem_of_getElem? (i := 18) rfl)
theorem wi_sys : Cond.initialized "java/lang/System" ∈ wsL_law := rin19 _ (List.mem_of_getElem? (i := 19) rfl)
theorem lcL_13 : Cond.constantLong RL 13 (4294967295) ∈ wsL_law := rin1 _ (List.mem_of_getElem? (i := 6) rfl)
theorem lmL_9 : Cond.methodLink RL 9 yX6_init ∈ wsL_law := rin1 _ (List.mem_of_getElem? (i := 7) rfl)
theorem lmX6_3 : Cond.methodLink RX6 3 objectInit ∈ wsL_law := rin1 _ (List.mem_of_getElem? (i := 10) rfl)
theorem lfX6_12 : Cond.fieldLink RX6 12 "FieldBand" "now" "LFieldBand$Field;" ∈ wsL_law := rin1 _ (List.mem_of_getElem? (i := 16) rfl)
theorem lfX6_16 : Cond.fieldLink RX6 16 "FieldBand" "kept" "LFieldBand$Field;" ∈ wsL_law := rin1 _ (List.mem_of_getElem? (i := 17) rfl)
theorem lfX6_19 : Cond.fieldLink RX6 19 "FieldBand" "isKept" "Z" ∈ wsL_law := rin1 _ (List.mem_of_getElem? (i := 18) rfl)
theorem lfX6_25 : Cond.fieldLink RX6 25 "FieldBand" "shows" "[LFieldBand$Show;" ∈ wsL_law := rin1 _ (List.mem_of_getElem? (i := 20) rfl)
theorem lfX6_34 : Cond.fieldLink RX6 34 "FieldBand" "ways" "LFieldBand$Ways;" ∈ wsL_law := rin2 _ (List.mem_of_getElem? (i := 0) rfl)
theorem lfX6_41 : Cond.fieldLink RX6 41 "FieldBand" "deed" "LFieldBand$Deed;" ∈ wsL_law := rin2 _ (List.mem_of_getElem? (i := 4) rfl)
theorem lfX6_51 : Cond.fieldLink RX6 51 "FieldBand" "reader" "LFieldBand$Reader;" ∈ wsL_law := rin2 _ (List.mem_of_getElem? (i := 10) rfl)
theorem lfX6_58 : Cond.fieldLink RX6 58 "FieldBand" "sound" "LFieldBand$Sound;" ∈ wsL_law := rin2 _ (List.mem_of_getElem? (i := 14) rfl)
theorem lmX1_3 : Cond.methodLink RX1 3 objectInit ∈ wsL_law := rin2 _ (List.mem_of_getElem? (i := 17) rfl)
theorem lfX1_9 : Cond.fieldLink RX1 9 "FieldBand$Field" "players" "I" ∈ wsL_law := rin2 _ (List.mem_of_getElem? (i := 18) rfl)
theorem lfX1_15 : Cond.fieldLink RX1 15 "FieldBand$Field" "kind" "[I" ∈ wsL_law := rin2 _ (List.mem_of_getElem? (i := 20) rfl)
theorem lfX1_19 : Cond.fieldLink RX1 19 "FieldBand$Field" "v" "[I" ∈ wsL_law := rin2 _ (List.mem_of_getElem? (i := 21) rfl)
theorem lfX1_22 : Cond.fieldLink RX1 22 "FieldBand$Field" "dot" "[I" ∈ wsL_law := rin2 _ (List.mem_of_getElem? (i := 22) rfl)
theorem lfX1_25 : Cond.fieldLink RX1 25 "FieldBand$Field" "drum" "I" ∈ wsL_law := rin2 _ (List.mem_of_getElem? (i := 23) rfl)
theorem lfX1_28 : Cond.fieldLink RX1 28 "FieldBand$Field" "formed" "I" ∈ wsL_law := rin3 _ (List.mem_of_getElem? (i := 0) rfl)
theorem lfX1_31 : Cond.fieldLink RX1 31 "FieldBand$Field" "form" "[I" ∈ wsL_law := rin3 _ (List.mem_of_getElem? (i := 1) rfl)
theorem lfX1_34 : Cond.fieldLink RX1 34 "FieldBand$Field" "filmed" "I" ∈ wsL_law := rin3 _ (List.mem_of_getElem? (i := 2) rfl)
theorem lfX1_37 : Cond.fieldLink RX1 37 "FieldBand$Field" "film" "[I" ∈ wsL_law := rin3 _ (List.mem_of_getElem? (i := 3) rfl)
theorem lfX1_40 : Cond.fieldLink RX1 40 "FieldBand$Field" "bytes" "I" ∈ wsL_law := rin3 _ (List.mem_of_getElem? (i := 4) rfl)
theorem lfX1_43 : Cond.fieldLink RX1 43 "FieldBand$Field" "tape" "[B" ∈ wsL_law := rin3 _ (List.mem_of_getElem? (i := 6) rfl)
theorem lfX1_47 : Cond.fieldLink RX1 47 "FieldBand$Field" "shows" "I" ∈ wsL_law := rin3 _ (List.mem_of_getElem? (i := 7) rfl)
theorem lmX6_31 : Cond.methodLink RX6 31 yX5_init ∈ wsL_law := rin3 _ (List.mem_of_getElem? (i := 8) rfl)
theorem lmX5_3 : Cond.methodLink RX5 3 objectInit ∈ wsL_law := rin3 _ (List.mem_of_getElem? (i := 11) rfl)
theorem lfX5_9 : Cond.fieldLink RX5 9 "FieldBand$Ways" "row" "[I" ∈ wsL_law := rin3 _ (List.mem_of_getElem? (i := 12) rfl)
theorem lfX5_15 : Cond.fieldLink RX5 15 "FieldBand$Ways" "best" "[I" ∈ wsL_law := rin3 _ (List.mem_of_getElem? (i := 13) rfl)
theorem lfX5_18 : Cond.fieldLink RX5 18 "FieldBand$Ways" "greatest" "I" ∈ wsL_law := rin3 _ (List.mem_of_getElem? (i := 14) rfl)
theorem lfX5_22 : Cond.fieldLink RX5 22 "FieldBand$Ways" "sum" "I" ∈ wsL_law := rin3 _ (List.mem_of_getElem? (i := 15) rfl)
theorem lfX5_25 : Cond.fieldLink RX5 25 "FieldBand$Ways" "field" "LFieldBand$Field;" ∈ wsL_law := rin3 _ (List.mem_of_getElem? (i := 16) rfl)
theorem lmX0_3 : Cond.methodLink RX0 3 objectInit ∈ wsL_law := rin3 _ (List.mem_of_getElem? (i := 19) rfl)
theorem lfX0_9 : Cond.fieldLink RX0 9 "FieldBand$Deed" "kind" "I" ∈ wsL_law := rin3 _ (List.mem_of_getElem? (i := 20) rfl)
theorem lfX0_15 : Cond.fieldLink RX0 15 "FieldBand$Deed" "number" "I" ∈ wsL_law := rin3 _ (List.mem_of_getElem? (i := 21) rfl)
theorem lfX0_18 : Cond.fieldLink RX0 18 "FieldBand$Deed" "v" "I" ∈ wsL_law := rin3 _ (List.mem_of_getElem? (i := 22) rfl)
theorem lfX0_21 : Cond.fieldLink RX0 21 "FieldBand$Deed" "ran" "I" ∈ wsL_law := rin3 _ (List.mem_of_getElem? (i := 23) rfl)
theorem lfX0_24 : Cond.fieldLink RX0 24 "FieldBand$Deed" "bodies" "[I" ∈ wsL_law := rin4 _ (List.mem_of_getElem? (i := 0) rfl)
theorem lmX3_3 : Cond.methodLink RX3 3 objectInit ∈ wsL_law := rin4 _ (List.mem_of_getElem? (i := 3) rfl)
theorem lfX3_9 : Cond.fieldLink RX3 9 "FieldBand$Show" "speed" "I" ∈ wsL_law := rin4 _ (List.mem_of_getElem? (i := 4) rfl)
theorem lfX3_15 : Cond.fieldLink RX3 15 "FieldBand$Show" "beat" "I" ∈ wsL_law := rin4 _ (List.mem_of_getElem? (i := 5) rfl)
theorem lfX3_18 : Cond.fieldLink RX3 18 "FieldBand$Show" "step" "I" ∈ wsL_law := rin4 _ (List.mem_of_getElem? (i := 6) rfl)
theorem lfX3_21 : Cond.fieldLink RX3 21 "FieldBand$Show" "clauses" "I" ∈ wsL_law := rin4 _ (List.mem_of_getElem? (i := 7) rfl)
theorem lfX3_24 : Cond.fieldLink RX3 24 "FieldBand$Show" "word" "[I" ∈ wsL_law := rin4 _ (List.mem_of_getElem? (i := 8) rfl)
theorem lfX3_28 : Cond.fieldLink RX3 28 "FieldBand$Show" "amount" "[I" ∈ wsL_law := rin4 _ (List.mem_of_getElem? (i := 9) rfl)
theorem lfX3_31 : Cond.fieldLink RX3 31 "FieldBand$Show" "start" "[I" ∈ wsL_law := rin4 _ (List.mem_of_getElem? (i := 10) rfl)
theorem lfX3_34 : Cond.fieldLink RX3 34 "FieldBand$Show" "end" "[I" ∈ wsL_law := rin4 _ (List.mem_of_getElem? (i := 11) rfl)
theorem lfX3_37 : Cond.fieldLink RX3 37 "FieldBand$Show" "used" "I" ∈ wsL_law := rin4 _ (List.mem_of_getElem? (i := 12) rfl)
theorem lfX3_40 : Cond.fieldLink RX3 40 "FieldBand$Show" "code" "[I" ∈ wsL_law := rin4 _ (List.mem_of_getElem? (i := 13) rfl)
theorem lmX6_48 : Cond.methodLink RX6 48 yX2_init ∈ wsL_law := rin4 _ (List.mem_of_getElem? (i := 14) rfl)
theorem lmX2_3 : Cond.methodLink RX2 3 objectInit ∈ wsL_law := rin4 _ (List.mem_of_getElem? (i := 17) rfl)
theorem lfX2_9 : Cond.fieldLink RX2 9 "FieldBand$Reader" "at" "I" ∈ wsL_law := rin4 _ (List.mem_of_getElem? (i := 18) rfl)
theorem lfX2_15 : Cond.fieldLink RX2 15 "FieldBand$Reader" "field" "LFieldBand$Field;" ∈ wsL_law := rin4 _ (List.mem_of_getElem? (i := 19) rfl)
theorem lfX2_19 : Cond.fieldLink RX2 19 "FieldBand$Reader" "show" "LFieldBand$Show;" ∈ wsL_law := rin4 _ (List.mem_of_getElem? (i := 20) rfl)
theorem lmX6_57 : Cond.methodLink RX6 57 yX4_init ∈ wsL_law := rin4 _ (List.mem_of_getElem? (i := 21) rfl)
theorem lmX4_3 : Cond.methodLink RX4 3 objectInit ∈ wsL_law := rin5 _ (List.mem_of_getElem? (i := 0) rfl)
theorem lfX4_9 : Cond.fieldLink RX4 9 "FieldBand$Sound" "drum" "I" ∈ wsL_law := rin5 _ (List.mem_of_getElem? (i := 1) rfl)
theorem lfX4_15 : Cond.fieldLink RX4 15 "FieldBand$Sound" "absent" "I" ∈ wsL_law := rin5 _ (List.mem_of_getElem? (i := 2) rfl)
theorem lfX4_18 : Cond.fieldLink RX4 18 "FieldBand$Sound" "kind" "[I" ∈ wsL_law := rin5 _ (List.mem_of_getElem? (i := 3) rfl)
theorem lfX4_22 : Cond.fieldLink RX4 22 "FieldBand$Sound" "slip" "[I" ∈ wsL_law := rin5 _ (List.mem_of_getElem? (i := 4) rfl)
theorem lfX4_25 : Cond.fieldLink RX4 25 "FieldBand$Sound" "source" "[I" ∈ wsL_law := rin5 _ (List.mem_of_getElem? (i := 5) rfl)
theorem lfX4_28 : Cond.fieldLink RX4 28 "FieldBand$Sound" "plays" "[I" ∈ wsL_law := rin5 _ (List.mem_of_getElem? (i := 6) rfl)
theorem lfX4_39 : Cond.fieldLink RX4 39 "FieldBand$Sound" "about" "[I" ∈ wsL_law := rin5 _ (List.mem_of_getElem? (i := 7) rfl)
theorem lfX4_42 : Cond.fieldLink RX4 42 "FieldBand$Sound" "field" "LFieldBand$Field;" ∈ wsL_law := rin5 _ (List.mem_of_getElem? (i := 8) rfl)
theorem lfX4_46 : Cond.fieldLink RX4 46 "FieldBand$Sound" "show" "LFieldBand$Show;" ∈ wsL_law := rin5 _ (List.mem_of_getElem? (i := 9) rfl)
theorem lmX4_33 : Cond.methodLink RX4 33 yJ0_length_8abf5 ∈ wsL_law := rin5 _ (List.mem_of_getElem? (i := 10) rfl)
theorem lfJ0_9 : Cond.fieldLink RJ0 9 "java/lang/String" "value" "[B" ∈ wsL_law := rin5 _ (List.mem_of_getElem? (i := 15) rfl)
theorem lmJ0_335 : Cond.methodLink RJ0 335 yJ0_coder_7d493 ∈ wsL_law := rin5 _ (List.mem_of_getElem? (i := 16) rfl)
theorem lfJ0_38 : Cond.fieldLink RJ0 38 "java/lang/String" "COMPACT_STRINGS" "Z" ∈ wsL_law := rin5 _ (List.mem_of_getElem? (i := 20) rfl)
theorem lfJ0_15 : Cond.fieldLink RJ0 15 "java/lang/String" "coder" "B" ∈ wsL_law := rin5 _ (List.mem_of_getElem? (i := 21) rfl)
theorem lmL_12 : Cond.methodLink RL 12 yX7_init ∈ wsL_law := rin5 _ (List.mem_of_getElem? (i := 22) rfl)
theorem lmX7_1 : Cond.methodLink RX7 1 objectInit ∈ wsL_law := rin6 _ (List.mem_of_getElem? (i := 1) rfl)
theorem lfX7_7 : Cond.fieldLink RX7 7 "FieldBandModel" "s" "[I" ∈ wsL_law := rin6 _ (List.mem_of_getElem? (i := 2) rfl)
theorem lfX7_13 : Cond.fieldLink RX7 13 "FieldBandModel" "image" "[I" ∈ wsL_law := rin6 _ (List.mem_of_getElem? (i := 3) rfl)
theorem lfX7_16 : Cond.fieldLink RX7 16 "FieldBandModel" "by" "[I" ∈ wsL_law := rin6 _ (List.mem_of_getElem? (i := 4) rfl)
theorem lfX7_19 : Cond.fieldLink RX7 19 "FieldBandModel" "truths" "[Z" ∈ wsL_law := rin6 _ (List.mem_of_getElem? (i := 6) rfl)
theorem lfX7_23 : Cond.fieldLink RX7 23 "FieldBandModel" "without" "I" ∈ wsL_law := rin6 _ (List.mem_of_getElem? (i := 7) rfl)
theorem lfX7_27 : Cond.fieldLink RX7 27 "FieldBandModel" "goes" "[I" ∈ wsL_law := rin6 _ (List.mem_of_getElem? (i := 8) rfl)
theorem lfX7_30 : Cond.fieldLink RX7 30 "FieldBandModel" "bestGoes" "[I" ∈ wsL_law := rin6 _ (List.mem_of_getElem? (i := 9) rfl)
theorem lfX7_33 : Cond.fieldLink RX7 33 "FieldBandModel" "bodies" "[I" ∈ wsL_law := rin6 _ (List.mem_of_getElem? (i := 10) rfl)
theorem lmL_15 : Cond.methodLink RL 15 yX6_feed ∈ wsL_law := rin6 _ (List.mem_of_getElem? (i := 11) rfl)
theorem lfX6_62 : Cond.fieldLink RX6 62 "FieldBand$Field" "bytes" "I" ∈ wsL_law := rin6 _ (List.mem_of_getElem? (i := 15) rfl)
theorem lfX6_66 : Cond.fieldLink RX6 66 "FieldBand$Field" "tape" "[B" ∈ wsL_law := rin6 _ (List.mem_of_getElem? (i := 16) rfl)
theorem lmL_19 : Cond.methodLink RL 19 yX7_feed ∈ wsL_law := rin6 _ (List.mem_of_getElem? (i := 17) rfl)
theorem lcX7_47 : Cond.constantLong RX7 47 (255) ∈ wsL_law := rin6 _ (List.mem_of_getElem? (i := 21) rfl)
theorem lmX7_39 : Cond.methodLink RX7 39 yX7_in ∈ wsL_law := rin6 _ (List.mem_of_getElem? (i := 22) rfl)
theorem lmL_20 : Cond.methodLink RL 20 yX6_show ∈ wsL_law := rin7 _ (List.mem_of_getElem? (i := 1) rfl)
theorem lfX6_70 : Cond.fieldLink RX6 70 "FieldBand$Field" "shows" "I" ∈ wsL_law := rin7 _ (List.mem_of_getElem? (i := 5) rfl)
theorem lmX6_72 : Cond.methodLink RX6 72 yX2_readInto ∈ wsL_law := rin7 _ (List.mem_of_getElem? (i := 6) rfl)
theorem lfX2_32 : Cond.fieldLink RX2 32 "FieldBand$Field" "bytes" "I" ∈ wsL_law := rin7 _ (List.mem_of_getElem? (i := 10) rfl)
theorem lmX2_23 : Cond.methodLink RX2 23 yX3_clear ∈ wsL_law := rin7 _ (List.mem_of_getElem? (i := 11) rfl)
theorem lmX2_28 : Cond.methodLink RX2 28 yX2_readClause ∈ wsL_law := rin7 _ (List.mem_of_getElem? (i := 15) rfl)
theorem lfX2_52 : Cond.fieldLink RX2 52 "FieldBand$Show" "used" "I" ∈ wsL_law := rin7 _ (List.mem_of_getElem? (i := 19) rfl)
theorem lmX2_43 : Cond.methodLink RX2 43 yX2_readWord ∈ wsL_law := rin7 _ (List.mem_of_getElem? (i := 20) rfl)
theorem lmX2_76 : Cond.methodLink RX2 76 Lib.Math.max.name ∈ wsL_law := rin8 _ (List.mem_of_getElem? (i := 0) rfl)
theorem lmX2_63 : Cond.methodLink RX2 63 yX2_textOf ∈ wsL_law := rin8 _ (List.mem_of_getElem? (i := 4) rfl)
theorem lmX2_67 : Cond.methodLink RX2 67 yX2_sameSigns ∈ wsL_law := rin8 _ (List.mem_of_getElem? (i := 7) rfl)
theorem lfX2_92 : Cond.fieldLink RX2 92 "FieldBand$Field" "tape" "[B" ∈ wsL_law := rin8 _ (List.mem_of_getElem? (i := 11) rfl)
theorem lmX2_71 : Cond.methodLink RX2 71 yJ0_length_8abf5 ∈ wsL_law := rin8 _ (List.mem_of_getElem? (i := 12) rfl)
theorem lmX2_96 : Cond.methodLink RX2 96 yJ0_charAt_5068e ∈ wsL_law := rin8 _ (List.mem_of_getElem? (i := 13) rfl)
theorem lmJ0_492 : Cond.methodLink RJ0 492 yJ0_isLatin1_aae02 ∈ wsL_law := rin8 _ (List.mem_of_getElem? (i := 17) rfl)
theorem lmJ0_495 : Cond.methodLink RJ0 495 yJ1_charAt_3b067 ∈ wsL_law := rin8 _ (List.mem_of_getElem? (i := 21) rfl)
theorem lmJ1_9 : Cond.methodLink RJ1 9 yJ0_checkIndex_df160 ∈ wsL_law := rin9 _ (List.mem_of_getElem? (i := 1) rfl)
theorem lfJ0_1053 : Cond.fieldLink RJ0 1053 "jdk/internal/util/Preconditions" "SIOOBE_FORMATTER" "Ljava/util/function/BiFunction;" ∈ wsL_law := rin9 _ (List.mem_of_getElem? (i := 4) rfl)
theorem lmJ0_1059 : Cond.methodLink RJ0 1059 yJ3_checkIndex_8e157 ∈ wsL_law := rin9 _ (List.mem_of_getElem? (i := 5) rfl)
theorem lmJ0_498 : Cond.methodLink RJ0 498 yJ2_charAt_3b067 ∈ wsL_law := rin9 _ (List.mem_of_getElem? (i := 9) rfl)
theorem lmJ2_67 : Cond.methodLink RJ2 67 yJ2_checkIndex_2214a ∈ wsL_law := rin9 _ (List.mem_of_getElem? (i := 13) rfl)
theorem lmJ2_48 : Cond.methodLink RJ2 48 yJ2_length_9d52b ∈ wsL_law := rin9 _ (List.mem_of_getElem? (i := 16) rfl)
theorem lmJ2_414 : Cond.methodLink RJ2 414 yJ0_checkIndex_df160 ∈ wsL_law := rin9 _ (List.mem_of_getElem? (i := 19) rfl)
theorem lmJ2_71 : Cond.methodLink RJ2 71 yJ2_getChar_3b067 ∈ wsL_law := rin9 _ (List.mem_of_getElem? (i := 20) rfl)
theorem lfJ2_44 : Cond.fieldLink RJ2 44 "java/lang/StringUTF16" "$assertionsDisabled" "Z" ∈ wsL_law := rin9 _ (List.mem_of_getElem? (i := 23) rfl)
theorem lfJ2_59 : Cond.fieldLink RJ2 59 "java/lang/StringUTF16" "HI_BYTE_SHIFT" "I" ∈ wsL_law := rin10 _ (List.mem_of_getElem? (i := 0) rfl)
theorem lfJ2_63 : Cond.fieldLink RJ2 63 "java/lang/StringUTF16" "LO_BYTE_SHIFT" "I" ∈ wsL_law := rin10 _ (List.mem_of_getElem? (i := 1) rfl)
theorem lmX2_39 : Cond.methodLink RX2 39 yX2_take ∈ wsL_law := rin10 _ (List.mem_of_getElem? (i := 2) rfl)
theorem lmX2_125 : Cond.methodLink RX2 125 yX2_takeOneOf ∈ wsL_law := rin10 _ (List.mem_of_getElem? (i := 6) rfl)
theorem lmX2_136 : Cond.methodLink RX2 136 yJ0_indexOf_0f7a4 ∈ wsL_law := rin10 _ (List.mem_of_getElem? (i := 10) rfl)
theorem lmJ0_633 : Cond.methodLink RJ0 633 yJ0_indexOf_7cf53 ∈ wsL_law := rin10 _ (List.mem_of_getElem? (i := 14) rfl)
theorem lmJ0_505 : Cond.methodLink RJ0 505 yJ0_length_8abf5 ∈ wsL_law := rin10 _ (List.mem_of_getElem? (i := 18) rfl)
theorem lmJ0_637 : Cond.methodLink RJ0 637 yJ1_indexOf_4cfef ∈ wsL_law := rin10 _ (List.mem_of_getElem? (i := 19) rfl)
theorem lmJ1_92 : Cond.methodLink RJ1 92 Lib.Math.max.name ∈ wsL_law := rin10 _ (List.mem_of_getElem? (i := 22) rfl)
theorem lmJ1_38 : Cond.methodLink RJ1 38 Lib.Math.min.name ∈ wsL_law := rin10 _ (List.mem_of_getElem? (i := 23) rfl)
theorem lmJ1_88 : Cond.methodLink RJ1 88 yJ1_canEncode_9a6ad ∈ wsL_law := rin11 _ (List.mem_of_getElem? (i := 2) rfl)
theorem lmJ1_95 : Cond.methodLink RJ1 95 yJ1_indexOfChar_4cfef ∈ wsL_law := rin11 _ (List.mem_of_getElem? (i := 5) rfl)
theorem lmJ0_640 : Cond.methodLink RJ0 640 yJ2_indexOf_4cfef ∈ wsL_law := rin11 _ (List.mem_of_getElem? (i := 8) rfl)
theorem lmJ2_224 : Cond.methodLink RJ2 224 Lib.Math.max.name ∈ wsL_law := rin11 _ (List.mem_of_getElem? (i := 11) rfl)
theorem lmJ2_183 : Cond.methodLink RJ2 183 Lib.Math.min.name ∈ wsL_law := rin11 _ (List.mem_of_getElem? (i := 12) rfl)
theorem lcJ2_227 : Cond.constant RJ2 227 (65536) ∈ wsL_law := rin11 _ (List.mem_of_getElem? (i := 13) rfl)
theorem lmJ2_228 : Cond.methodLink RJ2 228 yJ2_indexOfChar_4cfef ∈ wsL_law := rin11 _ (List.mem_of_getElem? (i := 14) rfl)
theorem lmJ2_96 : Cond.methodLink RJ2 96 yJ2_checkBoundsBeginEnd_d044e ∈ wsL_law := rin11 _ (List.mem_of_getElem? (i := 17) rfl)
theorem lmJ2_241 : Cond.methodLink RJ2 241 yJ0_checkBoundsBeginEnd_23922 ∈ wsL_law := rin11 _ (List.mem_of_getElem? (i := 20) rfl)
theorem lmJ0_1062 : Cond.methodLink RJ0 1062 yJ3_checkFromToIndex_8c36e ∈ wsL_law := rin11 _ (List.mem_of_getElem? (i := 23) rfl)
theorem lmJ2_244 : Cond.methodLink RJ2 244 yJ2_indexOfCharUnsafe_4cfef ∈ wsL_law := rin12 _ (List.mem_of_getElem? (i := 2) rfl)
theorem lmJ2_232 : Cond.methodLink RJ2 232 yJ2_indexOfSupplementary_4cfef ∈ wsL_law := rin12 _ (List.mem_of_getElem? (i := 5) rfl)
theorem lmJ2_164 : Cond.methodLink RJ2 164 yJ11_isValidCodePoint_9a6ad ∈ wsL_law := rin12 _ (List.mem_of_getElem? (i := 8) rfl)
theorem lmJ2_157 : Cond.methodLink RJ2 157 yJ11_highSurrogate_5068e ∈ wsL_law := rin12 _ (List.mem_of_getElem? (i := 12) rfl)
theorem lcJ11_110 : Cond.constant RJ11 110 (55232) ∈ wsL_law := rin12 _ (List.mem_of_getElem? (i := 15) rfl)
theorem lmJ2_161 : Cond.methodLink RJ2 161 yJ11_lowSurrogate_5068e ∈ wsL_law := rin12 _ (List.mem_of_getElem? (i := 16) rfl)
theorem lcJ11_76 : Cond.constant RJ11 76 (56320) ∈ wsL_law := rin12 _ (List.mem_of_getElem? (i := 19) rfl)
theorem lmX2_49 : Cond.methodLink RX2 49 yX2_readNumber ∈ wsL_law := rin12 _ (List.mem_of_getElem? (i := 20) rfl)
theorem lmX2_55 : Cond.methodLink RX2 55 yX2_readEither ∈ wsL_law := rin13 _ (List.mem_of_getElem? (i := 0) rfl)
theorem lmX2_100 : Cond.methodLink RX2 100 yX2_readBoth ∈ wsL_law := rin13 _ (List.mem_of_getElem? (i := 4) rfl)
theorem lmX2_105 : Cond.methodLink RX2 105 yX3_write ∈ wsL_law := rin13 _ (List.mem_of_getElem? (i := 7) rfl)
theorem lmX2_109 : Cond.methodLink RX2 109 yX2_readFactor ∈ wsL_law := rin13 _ (List.mem_of_getElem? (i := 12) rfl)
theorem lmX2_120 : Cond.methodLink RX2 120 yX2_readTest ∈ wsL_law := rin13 _ (List.mem_of_getElem? (i := 16) rfl)
theorem lmX2_130 : Cond.methodLink RX2 130 yX3_codeOfTest ∈ wsL_law := rin13 _ (List.mem_of_getElem? (i := 20) rfl)
theorem lmX2_59 : Cond.methodLink RX2 59 yX3_addClause ∈ wsL_law := rin13 _ (List.mem_of_getElem? (i := 23) rfl)
theorem lmX3_43 : Cond.methodLink RX3 43 Lib.Math.max.name ∈ wsL_law := rin14 _ (List.mem_of_getElem? (i := 3) rfl)
theorem lmL_24 : Cond.methodLink RL 24 yX7_show ∈ wsL_law := rin14 _ (List.mem_of_getElem? (i := 4) rfl)
theorem lfX7_76 : Cond.fieldLink RX7 76 "FieldBandModel" "act" "I" ∈ wsL_law := rin14 _ (List.mem_of_getElem? (i := 8) rfl)
theorem lfX7_52 : Cond.fieldLink RX7 52 "FieldBandModel" "end" "I" ∈ wsL_law := rin14 _ (List.mem_of_getElem? (i := 9) rfl)
theorem lfX7_49 : Cond.fieldLink RX7 49 "FieldBandModel" "spot" "I" ∈ wsL_law := rin14 _ (List.mem_of_getElem? (i := 10) rfl)
theorem lfX7_55 : Cond.fieldLink RX7 55 "FieldBandModel" "isWrong" "Z" ∈ wsL_law := rin14 _ (List.mem_of_getElem? (i := 11) rfl)
theorem lfX7_79 : Cond.fieldLink RX7 79 "FieldBandModel" "open" "I" ∈ wsL_law := rin14 _ (List.mem_of_getElem? (i := 12) rfl)
theorem lmX7_126 : Cond.methodLink RX7 126 yX7_clauseHere ∈ wsL_law := rin14 _ (List.mem_of_getElem? (i := 13) rfl)
theorem lmX7_59 : Cond.methodLink RX7 59 yX7_here ∈ wsL_law := rin14 _ (List.mem_of_getElem? (i := 17) rfl)
theorem lmX7_72 : Cond.methodLink RX7 72 yX7_must ∈ wsL_law := rin14 _ (List.mem_of_getElem? (i := 21) rfl)
theorem lmX7_111 : Cond.methodLink RX7 111 yX7_much ∈ wsL_law := rin15 _ (List.mem_of_getElem? (i := 1) rfl)
theorem lmX7_105 : Cond.methodLink RX7 105 yX7_spells ∈ wsL_law := rin15 _ (List.mem_of_getElem? (i := 5) rfl)
theorem lmX7_63 : Cond.methodLink RX7 63 yJ0_length_8abf5 ∈ wsL_law := rin15 _ (List.mem_of_getElem? (i := 9) rfl)
theorem lmX7_68 : Cond.methodLink RX7 68 yJ0_charAt_5068e ∈ wsL_law := rin15 _ (List.mem_of_getElem? (i := 10) rfl)
theorem lmX7_99 : Cond.methodLink RX7 99 yX7_figures ∈ wsL_law := rin15 _ (List.mem_of_getElem? (i := 11) rfl)
theorem lmX7_88 : Cond.methodLink RX7 88 yX7_some ∈ wsL_law := rin15 _ (List.mem_of_getElem? (i := 15) rfl)
theorem lmX7_102 : Cond.methodLink RX7 102 yX7_every ∈ wsL_law := rin15 _ (List.mem_of_getElem? (i := 19) rfl)
theorem lmX7_85 : Cond.methodLink RX7 85 yX7_emits ∈ wsL_law := rin15 _ (List.mem_of_getElem? (i := 22) rfl)
theorem lmX7_82 : Cond.methodLink RX7 82 yX7_factor ∈ wsL_law := rin16 _ (List.mem_of_getElem? (i := 3) rfl)
theorem lmX7_93 : Cond.methodLink RX7 93 yX7_among ∈ wsL_law := rin16 _ (List.mem_of_getElem? (i := 7) rfl)
theorem lmX7_119 : Cond.methodLink RX7 119 yX7_tellsHere ∈ wsL_law := rin16 _ (List.mem_of_getElem? (i := 11) rfl)
theorem lmL_25 : Cond.methodLink RL 25 yX6_told ∈ wsL_law := rin16 _ (List.mem_of_getElem? (i := 15) rfl)
theorem lfX6_80 : Cond.fieldLink RX6 80 "FieldBand$Show" "speed" "I" ∈ wsL_law := rin16 _ (List.mem_of_getElem? (i := 19) rfl)
theorem lfX6_83 : Cond.fieldLink RX6 83 "FieldBand$Show" "beat" "I" ∈ wsL_law := rin16 _ (List.mem_of_getElem? (i := 20) rfl)
theorem lfX6_86 : Cond.fieldLink RX6 86 "FieldBand$Show" "step" "I" ∈ wsL_law := rin16 _ (List.mem_of_getElem? (i := 21) rfl)
theorem lmX6_76 : Cond.methodLink RX6 76 yX6_held ∈ wsL_law := rin16 _ (List.mem_of_getElem? (i := 22) rfl)
theorem lmL_29 : Cond.methodLink RL 29 yX7_told ∈ wsL_law := rin17 _ (List.mem_of_getElem? (i := 2) rfl)
theorem lmX7_133 : Cond.methodLink RX7 133 yX7_speed ∈ wsL_law := rin17 _ (List.mem_of_getElem? (i := 6) rfl)
theorem lmX7_129 : Cond.methodLink RX7 129 yX7_tellsOf ∈ wsL_law := rin17 _ (List.mem_of_getElem? (i := 10) rfl)
theorem lmX7_136 : Cond.methodLink RX7 136 yX7_atLeastOne ∈ wsL_law := rin17 _ (List.mem_of_getElem? (i := 14) rfl)
theorem lmL_30 : Cond.methodLink RL 30 yX6_player ∈ wsL_law := rin17 _ (List.mem_of_getElem? (i := 18) rfl)
theorem lfX6_97 : Cond.fieldLink RX6 97 "FieldBand$Field" "players" "I" ∈ wsL_law := rin17 _ (List.mem_of_getElem? (i := 22) rfl)
theorem lfX6_100 : Cond.fieldLink RX6 100 "FieldBand$Field" "kind" "[I" ∈ wsL_law := rin17 _ (List.mem_of_getElem? (i := 23) rfl)
theorem lfX6_104 : Cond.fieldLink RX6 104 "FieldBand$Field" "v" "[I" ∈ wsL_law := rin18 _ (List.mem_of_getElem? (i := 0) rfl)
theorem lfX6_107 : Cond.fieldLink RX6 107 "FieldBand$Field" "dot" "[I" ∈ wsL_law := rin18 _ (List.mem_of_getElem? (i := 1) rfl)
theorem lmX6_89 : Cond.methodLink RX6 89 yX6_isBelow ∈ wsL_law := rin18 _ (List.mem_of_getElem? (i := 2) rfl)
theorem lmX6_93 : Cond.methodLink RX6 93 yX1_playerOn ∈ wsL_law := rin18 _ (List.mem_of_getElem? (i := 5) rfl)
theorem lmL_34 : Cond.methodLink RL 34 yX7_player ∈ wsL_law := rin18 _ (List.mem_of_getElem? (i := 9) rfl)
theorem lmX7_145 : Cond.methodLink RX7 145 yX7_isDot ∈ wsL_law := rin18 _ (List.mem_of_getElem? (i := 13) rfl)
theorem lmX7_149 : Cond.methodLink RX7 149 yX7_playerOn ∈ wsL_law := rin18 _ (List.mem_of_getElem? (i := 16) rfl)
theorem lmL_35 : Cond.methodLink RL 35 yX6_of ∈ wsL_law := rin18 _ (List.mem_of_getElem? (i := 20) rfl)
theorem lfX6_121 : Cond.fieldLink RX6 121 "FieldBand$Sound" "slip" "[I" ∈ wsL_law := rin19 _ (List.mem_of_getElem? (i := 0) rfl)
theorem lfX6_124 : Cond.fieldLink RX6 124 "FieldBand$Sound" "plays" "[I" ∈ wsL_law := rin19 _ (List.mem_of_getElem? (i := 1) rfl)
theorem lmX6_110 : Cond.methodLink RX6 110 yX6_isPlayer ∈ wsL_law := rin19 _ (List.mem_of_getElem? (i := 2) rfl)
theorem lmX6_114 : Cond.methodLink RX6 114 yX6_listen ∈ wsL_law := rin19 _ (List.mem_of_getElem? (i := 6) rfl)
theorem lmX6_222 : Cond.methodLink RX6 222 yX4_hearAll ∈ wsL_law := rin19 _ (List.mem_of_getElem? (i := 10) rfl)
theorem lfX4_50 : Cond.fieldLink RX4 50 "FieldBand$Field" "drum" "I" ∈ wsL_law := rin19 _ (List.mem_of_getElem? (i := 14) rfl)
theorem lfX4_53 : Cond.fieldLink RX4 53 "FieldBand$Field" "kind" "[I" ∈ wsL_law := rin19 _ (List.mem_of_getElem? (i := 15) rfl)
theorem lmX4_54 : Cond.methodLink RX4 54 arraycopyName ∈ wsL_law := rin19 _ (List.mem_of_getElem? (i := 16) rfl)
theorem lmX4_60 : Cond.methodLink RX4 60 yX4_slipAll ∈ wsL_law := rin19 _ (List.mem_of_getElem? (i := 20) rfl)
theorem lfX4_69 : Cond.fieldLink RX4 69 "FieldBand$Field" "players" "I" ∈ wsL_law := rin20 _ (List.mem_of_getElem? (i := 0) rfl)
theorem lmX4_72 : Cond.methodLink RX4 72 yX4_sumFor ∈ wsL_law := rin20 _ (List.mem_of_getElem? (i := 1) rfl)
theorem lfX4_83 : Cond.fieldLink RX4 83 "FieldBand$Field" "dot" "[I" ∈ wsL_law := rin20 _ (List.mem_of_getElem? (i := 5) rfl)
theorem lfX4_92 : Cond.fieldLink RX4 92 "FieldBand$Field" "v" "[I" ∈ wsL_law := rin20 _ (List.mem_of_getElem? (i := 6) rfl)
theorem lmX4_95 : Cond.methodLink RX4 95 yX3_sumOf ∈ wsL_law := rin20 _ (List.mem_of_getElem? (i := 11) rfl)
theorem lmX3_49 : Cond.methodLink RX3 49 yX3_holds ∈ wsL_law := rin20 _ (List.mem_of_getElem? (i := 15) rfl)
theorem lmX3_53 : Cond.methodLink RX3 53 yX3_passes ∈ wsL_law := rin20 _ (List.mem_of_getElem? (i := 19) rfl)
theorem lmX4_63 : Cond.methodLink RX4 63 yX4_arrange ∈ wsL_law := rin20 _ (List.mem_of_getElem? (i := 22) rfl)
theorem lmX4_76 : Cond.methodLink RX4 76 yX4_sourceOf ∈ wsL_law := rin21 _ (List.mem_of_getElem? (i := 2) rfl)
theorem lmX4_101 : Cond.methodLink RX4 101 yX4_nearestInColumn ∈ wsL_law := rin21 _ (List.mem_of_getElem? (i := 6) rfl)
theorem lfX6_238 : Cond.fieldLink RX6 238 "FieldBand" "ABOVE" "[I" ∈ wsL_law := rin21 _ (List.mem_of_getElem? (i := 12) rfl)
theorem lmX4_66 : Cond.methodLink RX4 66 yX4_playAll ∈ wsL_law := rin21 _ (List.mem_of_getElem? (i := 13) rfl)
theorem lmX4_80 : Cond.methodLink RX4 80 yX4_playedBy ∈ wsL_law := rin21 _ (List.mem_of_getElem? (i := 17) rfl)
theorem lfX4_111 : Cond.fieldLink RX4 111 "FieldBand$Show" "speed" "I" ∈ wsL_law := rin21 _ (List.mem_of_getElem? (i := 21) rfl)
theorem lmX4_108 : Cond.methodLink RX4 108 yX4_ownMore ∈ wsL_law := rin21 _ (List.mem_of_getElem? (i := 22) rfl)
theorem lmX6_232 : Cond.methodLink RX6 232 Lib.Math.abs.name ∈ wsL_law := rin22 _ (List.mem_of_getElem? (i := 4) rfl)
theorem lmX6_149 : Cond.methodLink RX6 149 Lib.Math.max.name ∈ wsL_law := rin22 _ (List.mem_of_getElem? (i := 7) rfl)
theorem lmX6_229 : Cond.methodLink RX6 229 yX6_rowOf ∈ wsL_law := rin22 _ (List.mem_of_getElem? (i := 8) rfl)
theorem lmX6_235 : Cond.methodLink RX6 235 yX6_columnOf ∈ wsL_law := rin22 _ (List.mem_of_getElem? (i := 9) rfl)
theorem lmX6_118 : Cond.methodLink RX6 118 yX4_loudness ∈ wsL_law := rin22 _ (List.mem_of_getElem? (i := 10) rfl)
theorem lmL_39 : Cond.methodLink RL 39 yX7_of ∈ wsL_law := rin22 _ (List.mem_of_getElem? (i := 14) rfl)
theorem lfX7_139 : Cond.fieldLink RX7 139 "FieldBandModel" "loud" "I" ∈ wsL_law := rin22 _ (List.mem_of_getElem? (i := 18) rfl)
theorem lfX7_142 : Cond.fieldLink RX7 142 "FieldBandModel" "slip" "I" ∈ wsL_law := rin22 _ (List.mem_of_getElem? (i := 19) rfl)
theorem lmX7_152 : Cond.methodLink RX7 152 yX7_isPlayer ∈ wsL_law := rin22 _ (List.mem_of_getElem? (i := 20) rfl)
theorem lmX7_177 : Cond.methodLink RX7 177 yX7_looks ∈ wsL_law := rin23 _ (List.mem_of_getElem? (i := 0) rfl)
theorem lmX7_181 : Cond.methodLink RX7 181 yX7_playsOf ∈ wsL_law := rin23 _ (List.mem_of_getElem? (i := 4) rfl)
theorem lmX7_158 : Cond.methodLink RX7 158 yX7_playsAs ∈ wsL_law := rin23 _ (List.mem_of_getElem? (i := 8) rfl)
theorem lmX7_165 : Cond.methodLink RX7 165 yX7_listening ∈ wsL_law := rin23 _ (List.mem_of_getElem? (i := 12) rfl)
theorem lmX7_155 : Cond.methodLink RX7 155 yX7_far ∈ wsL_law := rin23 _ (List.mem_of_getElem? (i := 16) rfl)
theorem lmX7_43 : Cond.methodLink RX7 43 yX7_size ∈ wsL_law := rin23 _ (List.mem_of_getElem? (i := 19) rfl)
theorem lmX7_171 : Cond.methodLink RX7 171 yX7_backward ∈ wsL_law := rin23 _ (List.mem_of_getElem? (i := 22) rfl)
theorem lmX7_174 : Cond.methodLink RX7 174 yX7_forward ∈ wsL_law := rin24 _ (List.mem_of_getElem? (i := 1) rfl)
theorem lmX7_161 : Cond.methodLink RX7 161 yX7_nearestInColumn ∈ wsL_law := rin24 _ (List.mem_of_getElem? (i := 5) rfl)
theorem lmX7_168 : Cond.methodLink RX7 168 yX7_heardFrom ∈ wsL_law := rin24 _ (List.mem_of_getElem? (i := 9) rfl)
theorem lmL_40 : Cond.methodLink RL 40 yX6_drum ∈ wsL_law := rin24 _ (List.mem_of_getElem? (i := 14) rfl)
theorem lfX6_127 : Cond.fieldLink RX6 127 "FieldBand$Field" "drum" "I" ∈ wsL_law := rin24 _ (List.mem_of_getElem? (i := 18) rfl)
theorem lmL_43 : Cond.methodLink RL 43 yX7_drum ∈ wsL_law := rin24 _ (List.mem_of_getElem? (i := 19) rfl)
theorem lmL_44 : Cond.methodLink RL 44 yX6_put ∈ wsL_law := rin24 _ (List.mem_of_getElem? (i := 23) rfl)
theorem lmL_47 : Cond.methodLink RL 47 yX7_put ∈ wsL_law := rin25 _ (List.mem_of_getElem? (i := 3) rfl)
theorem lmL_48 : Cond.methodLink RL 48 yX6_heard ∈ wsL_law := rin25 _ (List.mem_of_getElem? (i := 7) rfl)
theorem lmX6_130 : Cond.methodLink RX6 130 yX4_arrival ∈ wsL_law := rin25 _ (List.mem_of_getElem? (i := 11) rfl)
theorem lmL_51 : Cond.methodLink RL 51 yX7_heard ∈ wsL_law := rin25 _ (List.mem_of_getElem? (i := 17) rfl)
theorem lmX7_184 : Cond.methodLink RX7 184 yX7_isSeat ∈ wsL_law := rin25 _ (List.mem_of_getElem? (i := 21) rfl)
theorem lmX7_187 : Cond.methodLink RX7 187 yX7_heardAt ∈ wsL_law := rin26 _ (List.mem_of_getElem? (i := 0) rfl)
theorem lmL_52 : Cond.methodLink RL 52 yX6_spread ∈ wsL_law := rin26 _ (List.mem_of_getElem? (i := 4) rfl)
theorem lmX6_134 : Cond.methodLink RX6 134 yX4_spreadAt ∈ wsL_law := rin26 _ (List.mem_of_getElem? (i := 8) rfl)
theorem lcX4_122 : Cond.constant RX4 122 (2147483647) ∈ wsL_law := rin26 _ (List.mem_of_getElem? (i := 12) rfl)
theorem lcX4_131 : Cond.constant RX4 131 (-2147483648) ∈ wsL_law := rin26 _ (List.mem_of_getElem? (i := 13) rfl)
theorem lmX4_126 : Cond.methodLink RX4 126 Lib.Math.min.name ∈ wsL_law := rin26 _ (List.mem_of_getElem? (i := 14) rfl)
theorem lmX4_132 : Cond.methodLink RX4 132 Lib.Math.max.name ∈ wsL_law := rin26 _ (List.mem_of_getElem? (i := 15) rfl)
theorem lmX4_123 : Cond.methodLink RX4 123 yX4_arrival ∈ wsL_law := rin26 _ (List.mem_of_getElem? (i := 16) rfl)
theorem lmX6_137 : Cond.methodLink RX6 137 yX4_loudTogether ∈ wsL_law := rin26 _ (List.mem_of_getElem? (i := 17) rfl)
theorem lmX4_144 : Cond.methodLink RX4 144 Lib.Math.abs.name ∈ wsL_law := rin26 _ (List.mem_of_getElem? (i := 21) rfl)
theorem lmX4_141 : Cond.methodLink RX4 141 yX4_loudness ∈ wsL_law := rin26 _ (List.mem_of_getElem? (i := 22) rfl)
theorem lmL_55 : Cond.methodLink RL 55 yX7_spread ∈ wsL_law := rin26 _ (List.mem_of_getElem? (i := 23) rfl)
theorem lmX7_193 : Cond.methodLink RX7 193 yX7_spreadAt ∈ wsL_law := rin27 _ (List.mem_of_getElem? (i := 3) rfl)
theorem lfX7_190 : Cond.fieldLink RX7 190 "FieldBandModel" "earliest" "I" ∈ wsL_law := rin27 _ (List.mem_of_getElem? (i := 7) rfl)
theorem lmX7_199 : Cond.methodLink RX7 199 yX7_together ∈ wsL_law := rin27 _ (List.mem_of_getElem? (i := 8) rfl)
theorem lmX7_196 : Cond.methodLink RX7 196 yX7_loudOf ∈ wsL_law := rin27 _ (List.mem_of_getElem? (i := 12) rfl)
theorem lmL_56 : Cond.methodLink RL 56 yX6_back ∈ wsL_law := rin27 _ (List.mem_of_getElem? (i := 16) rfl)
theorem lmX6_140 : Cond.methodLink RX6 140 yX4_likeDrum ∈ wsL_law := rin27 _ (List.mem_of_getElem? (i := 20) rfl)
theorem lmL_59 : Cond.methodLink RL 59 yX7_back ∈ wsL_law := rin28 _ (List.mem_of_getElem? (i := 0) rfl)
theorem lmL_60 : Cond.methodLink RL 60 yX6_best ∈ wsL_law := rin28 _ (List.mem_of_getElem? (i := 4) rfl)
theorem lmX6_143 : Cond.methodLink RX6 143 yX4_sumWithDrumOn ∈ wsL_law := rin28 _ (List.mem_of_getElem? (i := 8) rfl)
theorem lmX4_138 : Cond.methodLink RX4 138 yX4_sumOfSpreads ∈ wsL_law := rin28 _ (List.mem_of_getElem? (i := 12) rfl)
theorem lmX4_135 : Cond.methodLink RX4 135 yX4_spreadAt ∈ wsL_law := rin28 _ (List.mem_of_getElem? (i := 16) rfl)
theorem lmL_63 : Cond.methodLink RL 63 yX7_best ∈ wsL_law := rin28 _ (List.mem_of_getElem? (i := 17) rfl)
theorem lmX7_202 : Cond.methodLink RX7 202 yX7_allSpreads ∈ wsL_law := rin28 _ (List.mem_of_getElem? (i := 21) rfl)
theorem lmL_64 : Cond.methodLink RL 64 yX6_early ∈ wsL_law := rin29 _ (List.mem_of_getElem? (i := 1) rfl)
theorem lmX6_146 : Cond.methodLink RX6 146 yX4_earliest ∈ wsL_law := rin29 _ (List.mem_of_getElem? (i := 5) rfl)
theorem lmL_67 : Cond.methodLink RL 67 yX7_early ∈ wsL_law := rin29 _ (List.mem_of_getElem? (i := 9) rfl)
theorem lmL_68 : Cond.methodLink RL 68 yX6_beats ∈ wsL_law := rin29 _ (List.mem_of_getElem? (i := 13) rfl)
theorem lmL_71 : Cond.methodLink RL 71 yX7_beats ∈ wsL_law := rin29 _ (List.mem_of_getElem? (i := 17) rfl)
theorem lmX7_205 : Cond.methodLink RX7 205 yX7_told ∈ wsL_law := rin29 _ (List.mem_of_getElem? (i := 21) rfl)
theorem lmL_72 : Cond.methodLink RL 72 yX6_form ∈ wsL_law := rin29 _ (List.mem_of_getElem? (i := 22) rfl)
theorem lfX6_154 : Cond.fieldLink RX6 154 "FieldBand$Field" "formed" "I" ∈ wsL_law := rin30 _ (List.mem_of_getElem? (i := 2) rfl)
theorem lfX6_160 : Cond.fieldLink RX6 160 "FieldBand$Field" "form" "[I" ∈ wsL_law := rin30 _ (List.mem_of_getElem? (i := 3) rfl)
theorem lmX6_157 : Cond.methodLink RX6 157 yX1_isInForm ∈ wsL_law := rin30 _ (List.mem_of_getElem? (i := 4) rfl)
theorem lmL_75 : Cond.methodLink RL 75 yX7_form ∈ wsL_law := rin30 _ (List.mem_of_getElem? (i := 8) rfl)
theorem lmL_76 : Cond.methodLink RL 76 yX6_way ∈ wsL_law := rin30 _ (List.mem_of_getElem? (i := 12) rfl)
theorem lfX6_167 : Cond.fieldLink RX6 167 "FieldBand$Ways" "greatest" "I" ∈ wsL_law := rin30 _ (List.mem_of_getElem? (i := 16) rfl)
theorem lfX6_170 : Cond.fieldLink RX6 170 "FieldBand$Ways" "sum" "I" ∈ wsL_law := rin30 _ (List.mem_of_getElem? (i := 17) rfl)
theorem lfX6_173 : Cond.fieldLink RX6 173 "FieldBand$Ways" "best" "[I" ∈ wsL_law := rin30 _ (List.mem_of_getElem? (i := 18) rfl)
theorem lmX6_163 : Cond.methodLink RX6 163 yX6_findWay ∈ wsL_law := rin30 _ (List.mem_of_getElem? (i := 19) rfl)
theorem lmX6_176 : Cond.methodLink RX6 176 yX1_hasTooFewDots ∈ wsL_law := rin30 _ (List.mem_of_getElem? (i := 23) rfl)
theorem lmX6_226 : Cond.methodLink RX6 226 yX5_find ∈ wsL_law := rin31 _ (List.mem_of_getElem? (i := 3) rfl)
theorem lcX5_31 : Cond.constant RX5 31 (2147483647) ∈ wsL_law := rin31 _ (List.mem_of_getElem? (i := 7) rfl)
theorem lmX5_32 : Cond.methodLink RX5 32 yX5_tryPlaces ∈ wsL_law := rin31 _ (List.mem_of_getElem? (i := 8) rfl)
theorem lfX5_40 : Cond.fieldLink RX5 40 "FieldBand$Field" "players" "I" ∈ wsL_law := rin31 _ (List.mem_of_getElem? (i := 12) rfl)
theorem lmX5_45 : Cond.methodLink RX5 45 arraycopyName ∈ wsL_law := rin31 _ (List.mem_of_getElem? (i := 13) rfl)
theorem lfX5_51 : Cond.fieldLink RX5 51 "FieldBand$Field" "dot" "[I" ∈ wsL_law := rin31 _ (List.mem_of_getElem? (i := 14) rfl)
theorem lfX5_54 : Cond.fieldLink RX5 54 "FieldBand$Field" "form" "[I" ∈ wsL_law := rin31 _ (List.mem_of_getElem? (i := 15) rfl)
theorem lmX5_61 : Cond.methodLink RX5 61 Lib.Math.max.name ∈ wsL_law := rin31 _ (List.mem_of_getElem? (i := 16) rfl)
theorem lmX5_36 : Cond.methodLink RX5 36 yX5_isBetter ∈ wsL_law := rin31 _ (List.mem_of_getElem? (i := 17) rfl)
theorem lmL_79 : Cond.methodLink RL 79 yX7_way ∈ wsL_law := rin31 _ (List.mem_of_getElem? (i := 21) rfl)
theorem lfX7_208 : Cond.fieldLink RX7 208 "FieldBandModel" "greatest" "I" ∈ wsL_law := rin32 _ (List.mem_of_getElem? (i := 1) rfl)
theorem lfX7_211 : Cond.fieldLink RX7 211 "FieldBandModel" "sum" "I" ∈ wsL_law := rin32 _ (List.mem_of_getElem? (i := 2) rfl)
theorem lmX7_225 : Cond.methodLink RX7 225 yX7_looksForWay ∈ wsL_law := rin32 _ (List.mem_of_getElem? (i := 3) rfl)
theorem lmX7_221 : Cond.methodLink RX7 221 yX7_isTooFew ∈ wsL_law := rin32 _ (List.mem_of_getElem? (i := 7) rfl)
theorem lmX7_217 : Cond.methodLink RX7 217 yX7_rowsFrom ∈ wsL_law := rin32 _ (List.mem_of_getElem? (i := 11) rfl)
theorem lmX7_214 : Cond.methodLink RX7 214 yX7_farTo ∈ wsL_law := rin32 _ (List.mem_of_getElem? (i := 15) rfl)
theorem lmL_80 : Cond.methodLink RL 80 yX6_counts ∈ wsL_law := rin32 _ (List.mem_of_getElem? (i := 19) rfl)
theorem lmL_83 : Cond.methodLink RL 83 yX7_counts ∈ wsL_law := rin32 _ (List.mem_of_getElem? (i := 23) rfl)
theorem lmL_84 : Cond.methodLink RL 84 yX6_meet ∈ wsL_law := rin33 _ (List.mem_of_getElem? (i := 3) rfl)
theorem lmX6_180 : Cond.methodLink RX6 180 yX1_meetHalfWay ∈ wsL_law := rin33 _ (List.mem_of_getElem? (i := 7) rfl)
theorem lmL_87 : Cond.methodLink RL 87 yX7_meet ∈ wsL_law := rin33 _ (List.mem_of_getElem? (i := 11) rfl)
theorem lmL_88 : Cond.methodLink RL 88 yX6_hard ∈ wsL_law := rin33 _ (List.mem_of_getElem? (i := 15) rfl)
theorem lmX6_183 : Cond.methodLink RX6 183 yX6_far ∈ wsL_law := rin33 _ (List.mem_of_getElem? (i := 19) rfl)
theorem lmL_91 : Cond.methodLink RL 91 yX7_hard ∈ wsL_law := rin33 _ (List.mem_of_getElem? (i := 20) rfl)
theorem lmL_92 : Cond.methodLink RL 92 yX6_march ∈ wsL_law := rin34 _ (List.mem_of_getElem? (i := 0) rfl)
theorem lmL_95 : Cond.methodLink RL 95 yX7_march ∈ wsL_law := rin34 _ (List.mem_of_getElem? (i := 4) rfl)
theorem lmL_96 : Cond.methodLink RL 96 yX6_seen ∈ wsL_law := rin34 _ (List.mem_of_getElem? (i := 8) rfl)
theorem lfX6_186 : Cond.fieldLink RX6 186 "FieldBand$Field" "filmed" "I" ∈ wsL_law := rin34 _ (List.mem_of_getElem? (i := 12) rfl)
theorem lfX6_189 : Cond.fieldLink RX6 189 "FieldBand$Field" "film" "[I" ∈ wsL_law := rin34 _ (List.mem_of_getElem? (i := 13) rfl)
theorem lmL_99 : Cond.methodLink RL 99 yX7_seen ∈ wsL_law := rin34 _ (List.mem_of_getElem? (i := 14) rfl)
theorem lmL_100 : Cond.methodLink RL 100 yX6_off ∈ wsL_law := rin34 _ (List.mem_of_getElem? (i := 18) rfl)
theorem lmL_103 : Cond.methodLink RL 103 yX7_off ∈ wsL_law := rin34 _ (List.mem_of_getElem? (i := 22) rfl)
theorem lmL_104 : Cond.methodLink RL 104 yX6_whom ∈ wsL_law := rin35 _ (List.mem_of_getElem? (i := 2) rfl)
theorem lmX6_192 : Cond.methodLink RX6 192 yX4_arrivalAsKind ∈ wsL_law := rin35 _ (List.mem_of_getElem? (i := 6) rfl)
theorem lmL_107 : Cond.methodLink RL 107 yX7_whom ∈ wsL_law := rin35 _ (List.mem_of_getElem? (i := 10) rfl)
theorem lmL_108 : Cond.methodLink RL 108 yX6_out ∈ wsL_law := rin35 _ (List.mem_of_getElem? (i := 14) rfl)
theorem lmX6_196 : Cond.methodLink RX6 196 yX4_sumWithout ∈ wsL_law := rin35 _ (List.mem_of_getElem? (i := 18) rfl)
theorem lmL_111 : Cond.methodLink RL 111 yX7_out ∈ wsL_law := rin35 _ (List.mem_of_getElem? (i := 22) rfl)
theorem lmL_112 : Cond.methodLink RL 112 yX6_act ∈ wsL_law := rin36 _ (List.mem_of_getElem? (i := 2) rfl)
theorem lfX6_199 : Cond.fieldLink RX6 199 "FieldBand$Deed" "ran" "I" ∈ wsL_law := rin36 _ (List.mem_of_getElem? (i := 6) rfl)
theorem lfX6_202 : Cond.fieldLink RX6 202 "FieldBand$Deed" "kind" "I" ∈ wsL_law := rin36 _ (List.mem_of_getElem? (i := 7) rfl)
theorem lfX6_204 : Cond.fieldLink RX6 204 "FieldBand$Deed" "number" "I" ∈ wsL_law := rin36 _ (List.mem_of_getElem? (i := 8) rfl)
theorem lfX6_207 : Cond.fieldLink RX6 207 "FieldBand$Deed" "v" "I" ∈ wsL_law := rin36 _ (List.mem_of_getElem? (i := 9) rfl)
theorem lmX6_209 : Cond.methodLink RX6 209 yX0_runFrom ∈ wsL_law := rin36 _ (List.mem_of_getElem? (i := 10) rfl)
theorem lmX0_28 : Cond.methodLink RX0 28 yX0_bodyOf ∈ wsL_law := rin36 _ (List.mem_of_getElem? (i := 14) rfl)
theorem lfX0_43 : Cond.fieldLink RX0 43 "FieldBand$Deed" "GOES_BODIES" "[I" ∈ wsL_law := rin36 _ (List.mem_of_getElem? (i := 17) rfl)
theorem lfX0_46 : Cond.fieldLink RX0 46 "FieldBand$Deed" "PLAYS_BODIES" "[I" ∈ wsL_law := rin36 _ (List.mem_of_getElem? (i := 18) rfl)
theorem lfX0_49 : Cond.fieldLink RX0 49 "FieldBand$Deed" "FITS_BODIES" "[I" ∈ wsL_law := rin36 _ (List.mem_of_getElem? (i := 19) rfl)
theorem lmX0_35 : Cond.methodLink RX0 35 yX0_begin ∈ wsL_law := rin36 _ (List.mem_of_getElem? (i := 20) rfl)
theorem lmX0_39 : Cond.methodLink RX0 39 yX0_runBody ∈ wsL_law := rin37 _ (List.mem_of_getElem? (i := 0) rfl)
theorem lmX0_52 : Cond.methodLink RX0 52 yX0_runFrom ∈ wsL_law := rin37 _ (List.mem_of_getElem? (i := 4) rfl)
theorem lmL_115 : Cond.methodLink RL 115 yX7_act ∈ wsL_law := rin37 _ (List.mem_of_getElem? (i := 5) rfl)
theorem lfX7_228 : Cond.fieldLink RX7 228 "FieldBandModel" "ran" "I" ∈ wsL_law := rin37 _ (List.mem_of_getElem? (i := 9) rfl)
theorem lfX7_237 : Cond.fieldLink RX7 237 "FieldBandModel" "kindNow" "I" ∈ wsL_law := rin37 _ (List.mem_of_getElem? (i := 10) rfl)
theorem lfX7_234 : Cond.fieldLink RX7 234 "FieldBandModel" "number" "I" ∈ wsL_law := rin37 _ (List.mem_of_getElem? (i := 11) rfl)
theorem lfX7_250 : Cond.fieldLink RX7 250 "FieldBandModel" "tellsV" "I" ∈ wsL_law := rin37 _ (List.mem_of_getElem? (i := 12) rfl)
theorem lmX7_247 : Cond.methodLink RX7 247 yX7_goesActs ∈ wsL_law := rin37 _ (List.mem_of_getElem? (i := 13) rfl)
theorem lmX7_240 : Cond.methodLink RX7 240 yX7_isUnder ∈ wsL_law := rin37 _ (List.mem_of_getElem? (i := 17) rfl)
theorem lmX7_231 : Cond.methodLink RX7 231 yX7_runs ∈ wsL_law := rin37 _ (List.mem_of_getElem? (i := 20) rfl)
theorem lmX7_244 : Cond.methodLink RX7 244 yX7_plainGoes ∈ wsL_law := rin38 _ (List.mem_of_getElem? (i := 0) rfl)
theorem lmX7_256 : Cond.methodLink RX7 256 yX7_playsActs ∈ wsL_law := rin38 _ (List.mem_of_getElem? (i := 4) rfl)
theorem lmX7_253 : Cond.methodLink RX7 253 yX7_plainPlays ∈ wsL_law := rin38 _ (List.mem_of_getElem? (i := 8) rfl)
theorem lmX7_262 : Cond.methodLink RX7 262 yX7_fitsActs ∈ wsL_law := rin38 _ (List.mem_of_getElem? (i := 12) rfl)
theorem lmX7_259 : Cond.methodLink RX7 259 yX7_plainFits ∈ wsL_law := rin38 _ (List.mem_of_getElem? (i := 16) rfl)
theorem lmL_116 : Cond.methodLink RL 116 yX6_trace ∈ wsL_law := rin38 _ (List.mem_of_getElem? (i := 20) rfl)
theorem lfX6_213 : Cond.fieldLink RX6 213 "FieldBand$Deed" "bodies" "[I" ∈ wsL_law := rin39 _ (List.mem_of_getElem? (i := 0) rfl)
theorem lmL_119 : Cond.methodLink RL 119 yX7_trace ∈ wsL_law := rin39 _ (List.mem_of_getElem? (i := 1) rfl)
theorem lmL_120 : Cond.methodLink RL 120 yX6_as ∈ wsL_law := rin39 _ (List.mem_of_getElem? (i := 5) rfl)
theorem lmX6_216 : Cond.methodLink RX6 216 yX6_isUnder ∈ wsL_law := rin39 _ (List.mem_of_getElem? (i := 9) rfl)
theorem lmL_123 : Cond.methodLink RL 123 yX7_as ∈ wsL_law := rin39 _ (List.mem_of_getElem? (i := 10) rfl)
theorem lmL_124 : Cond.methodLink RL 124 yX6_image ∈ wsL_law := rin39 _ (List.mem_of_getElem? (i := 14) rfl)
theorem lmX6_219 : Cond.methodLink RX6 219 yX1_takeOver ∈ wsL_law := rin39 _ (List.mem_of_getElem? (i := 18) rfl)
theorem lmX1_50 : Cond.methodLink RX1 50 arraycopyName ∈ wsL_law := rin39 _ (List.mem_of_getElem? (i := 22) rfl)
theorem lmL_127 : Cond.methodLink RL 127 yX7_image ∈ wsL_law := rin39 _ (List.mem_of_getElem? (i := 23) rfl)
theorem lfX7_265 : Cond.fieldLink RX7 265 "FieldBandModel" "hasImage" "Z" ∈ wsL_law := rin40 _ (List.mem_of_getElem? (i := 3) rfl)
theorem lmL_128 : Cond.methodLink RL 128 yX6_undo ∈ wsL_law := rin40 _ (List.mem_of_getElem? (i := 4) rfl)
theorem lmL_131 : Cond.methodLink RL 131 yX7_undo ∈ wsL_law := rin40 _ (List.mem_of_getElem? (i := 8) rfl)
theorem lmL_132 : Cond.methodLink RL 132 yX6_count ∈ wsL_law := rin40 _ (List.mem_of_getElem? (i := 12) rfl)
theorem lmL_135 : Cond.methodLink RL 135 yX7_count ∈ wsL_law := rin40 _ (List.mem_of_getElem? (i := 16) rfl)
end
section
/-! CALLS over fx_V -/
theorem fx_gi {w : Cond} (h : w ∈ wsL_law) : w ∈ wsL_law ∧ ((w.onTables && w.keeps) = true ∨ ∃ ty, w = .arrayClass ty) := ⟨h, good_of_word (fx_good w h)⟩
def fx_ok (mt : fxM) (n : Nat) : Prop := Cond.code mt.1 mt.2.1 mt.2.2.1 mt.2.2.2.1 ∈ wsL_law ∧ Cond.initialized mt.1.cls ∈ wsL_law ∧ mt.1.cls ≠ "java/lang/invoke/MethodHandle" ∧ mt.1.cls ≠ "java/lang/invoke/VarHandle" ∧ (parseMethodDescriptor mt.1.desc).map (fun d => d.parameters.length) = some n
def fx_okV (mt : fxM) (n : Nat) : Prop := fx_ok mt n ∧ Cond.instanceMethod mt.1 ∈ wsL_law ∧ Cond.selects mt.1.cls mt.1 mt.1 ∈ wsL_law
def fx_okS (mt : fxM) (n : Nat) : Prop := fx_ok mt n ∧ Cond.static mt.1 ∈ wsL_law
theorem fx_gd {mt : fxM} {n : Nat} (h : fx_ok mt n) : GoodIn wsL_law (fx_ws mt) := by
  intro w hw
  rcases List.mem_cons.mp hw with e | e
  · subst e
    exact fx_gi h.1
  · exact fx_gi e
theorem fx_Ale {G : fxG} {E : fxE} {a b : Nat} (h : a ≤ b) (q : Nat) (z : fx_A G E b q) : fx_A G E a q := by
  rcases z with z | z
  · exact Or.inl z
  · exact Or.inr (Nat.le_trans h z)
theorem fx_blind (G : fxG) (E : fxE) (as : List Value) (M : fxMem) (sz : Nat) : FrameBlind (fx_P G E as M sz) := by
  intro a U g mk q
  obtain ⟨q0, q1, qP, qC⟩ := q
  exact ⟨q0, q1, qP, fx_C.same (u := U) (U := U.calling g mk a) rfl rfl qC⟩
section FXC
variable {G : fxG} {mt mt' : fxM} {Q Qk : Option Value → fxMem → Prop} {lv : List (Nat × Value)} {st st0 As : List Value} {M : fxMem} {n idx : Nat}
theorem fx_go {p : Program} {l : Launch} {e : Env} {R : Room} {s : State} {m : MethodId} {args : Array Value} {below : List Frame} {meth : Method} {c : Code} {E : fxE} {H : Heap} {locs : List Loc} {pc : Nat} {ls : Array Slot} {s0 rest : List Value} {a : Array Value} {QQ : State → Prop}
    (hr : va_Run p l e R s m args below meth c H locs 0 0 0 0 (F0 m pc ls s0) rest (fx_Q G E Qk a) (fx_A G E H.size)) (hS : va_S (fx_A G E s.heap.size) s.heap H locs)
    (kk : ∀ (v : Option Value) (M' : fxMem) (H1 : Heap) (locs1 : List Loc), Qk v M' → va_P (E.2.1, E.2.2.1) vwCl (fx_w G E M') H1 → va_S (fx_A G E s.heap.size) s.heap H1 locs1 → W p l e R s m args below meth c H1 locs1 0 0 QQ (F0 m (pc + 3) ls ((v.map (fx_tr E)).toList ++ rest))) : W p l e R s m args below meth c H locs 0 0 QQ (F0 m pc ls s0) := by
  intro T hT X
  obtain ⟨v, st₀, t, T', L, h0, X', hL, e1, e2, ⟨⟨v', M', hv, hq, hp⟩, hz, hk⟩, stp⟩ := hr T hT X
  cases hv
  rw [h0] at hz hk
  obtain ⟨t2, a1, b1⟩ := kk v' M' T'.heap (locs ++ L) hq (by rw [e1]; exact hp)
    ⟨Nat.le_trans hS.1 (by rw [e1]; exact hz), fun q h1 h2 => by rw [e1, hk q (Nat.lt_of_lt_of_le h1 hS.1) (fun z => h2 (fx_Ale hS.1 q z))]; exact hS.2.1 q h1 h2, fun q hq => by
      rcases List.mem_append.mp hq with h | h
      · exact hS.2.2 q h
      · exact fx_Ale hS.1 _ (hL q h)⟩ T' rfl X'
  exact ⟨t2, stp t2 a1, b1⟩
theorem fx_callVr (pc : Nat) {k : Nat} (ok : fx_okV mt' n) (hrv : ∀ (s : State) (E : fxE) (H : Heap) (locs : List Loc), fx_C G E (fx_A G E s.heap.size) s s.heap → va_S (fx_A G E s.heap.size) s.heap H locs → va_P (E.2.1, E.2.2.1) vwCl (fx_w G E M) H → ∃ cell : Cell, H[E.1 k]? = some cell ∧ cell.vm.isStatics = false ∧ s.vm.findClass mt'.1.cls = some cell.cls)
    (hlink : Cond.methodLink mt.1.cls idx mt'.1 ∈ wsL_law) (hR : mt'.2.2.2.2.1 + 1 ≤ mt.2.2.2.2.1 ∧ 8 + (mt'.2.2.1 + 11) + mt'.2.2.2.2.2 ≤ mt.2.2.2.2.2) (hn : As.length = n) (hst : st0 = As.reverse ++ .ref k :: st) (hw : (st.map fun v => v.category).sum ≤ 8) (hd : decode mt.2.1 pc = .ok (.invokevirtual idx, 3))
    (hT : fx_T G mt' (.ref k :: As) M Qk) (kk : ∀ (v : Option Value) (M' : fxMem), Qk v M' → fx_V G mt Q (pc + 3) lv (v.toList ++ st) M') : fx_V G mt Q pc lv st0 M := by
  intro p l e s m args below meth c E X H locs ls hP hS hl
  obtain ⟨hx, hb, hr, hml, hown, hts, hlk, hC⟩ := id X
  obtain ⟨ok1, ok2, ok3⟩ := ok
  have cw := cwV (R := fx_rm mt) (s := s) (args := args) (own := mt.1.cls) (C := mt'.1.cls) (index := idx) (y := mt'.1) (bytes := mt'.2.1) (maxL := mt'.2.2.1) (ret := mt'.2.2.2.1) (ws := fx_ws mt') (rm := fx_rm mt') (mc := 0) (ms := 0) n hts (by
    intro w hw
    unfold wsV at hw
    rcases List.mem_append.mp hw with h | h
    · simp only [List.mem_cons, List.not_mem_nil, or_false] at h
      rcases h with h | h | h | h
      · subst h; exact fx_gi hlink
      · subst h; exact fx_gi ok2
      · subst h; exact fx_gi ok3
      · subst h; exact fx_gi ok1.2.1
    · exact fx_gd ok1 w h) rfl rfl rfl ⟨rfl, ok1.2.2⟩ hR
  have run := va_runV (e := e) (below := below) (meth := meth) (locs := locs) (cells := 0) (slots := 0) (b := E.1 k) (As := As.map (fx_tr E)) (rest := st.map (fx_tr E)) (g := F0 m pc ls (st0.map (fx_tr E))) ⟨hx, hb, hml, hown, hts⟩ (hT l E H.size) cw
    ⟨fx_blind _ _ _ _ _, hrv s E H locs hC hS hP, fun U hU hW => ⟨rfl, by rw [hU], by rw [hU]; exact hP, by
      have z := hC.call hS hU hW
      rw [hU] at z ⊢
      exact z⟩⟩ rfl (by rw [List.length_map]; exact hn) hl.1 (by rw [hst]; simp [fx_tr]) (lv_room (by rw [fx_sum]; exact hw)) hd ⟨Nat.le_refl 0, Nat.le_refl 0⟩
  refine fx_go run hS (fun v M' H1 locs1 hq hP1 hS1 => ?_)
  have z := kk v M' hq p l e s m args below meth c E X H1 locs1 ls hP1 hS1 hl
  cases v <;> exact z
theorem fx_callV (pc : Nat) {k ci N : Nat} {T : u_T} {fs : (Nat → Nat) → (Nat → Int32) → List Value} (okc : fx_cell G k ci mt'.1.cls T N fs) (ok : fx_okV mt' n)
    (hlink : Cond.methodLink mt.1.cls idx mt'.1 ∈ wsL_law) (hR : mt'.2.2.2.2.1 + 1 ≤ mt.2.2.2.2.1 ∧ 8 + (mt'.2.2.1 + 11) + mt'.2.2.2.2.2 ≤ mt.2.2.2.2.2) (hn : As.length = n) (hst : st0 = As.reverse ++ .ref k :: st) (hw : (st.map fun v => v.category).sum ≤ 8) (hd : decode mt.2.1 pc = .ok (.invokevirtual idx, 3))
    (hT : fx_T G mt' (.ref k :: As) M Qk) (kk : ∀ (v : Option Value) (M' : fxMem), Qk v M' → fx_V G mt Q (pc + 3) lv (v.toList ++ st) M') : fx_V G mt Q pc lv st0 M := by
  refine fx_callVr pc ok (fun s E H locs hC hS hP => ?_) hlink hR hn hst hw hd hT kk
  have he := fx_w_at (G := G) (E := E) (M := M) okc.1
  rw [okc.2.1] at he
  exact va_recv hC.1 hP okc.2.2.1 he
theorem fx_callStr (pc : Nat) {i : Nat} (hi : i < 23) (hy : mt'.1.cls = "java/lang/String") (ok : fx_okV mt' n)
    (hlink : Cond.methodLink mt.1.cls idx mt'.1 ∈ wsL_law) (hR : mt'.2.2.2.2.1 + 1 ≤ mt.2.2.2.2.1 ∧ 8 + (mt'.2.2.1 + 11) + mt'.2.2.2.2.2 ≤ mt.2.2.2.2.2) (hn : As.length = n) (hst : st0 = As.reverse ++ .ref (1000 + i) :: st) (hw : (st.map fun v => v.category).sum ≤ 8) (hd : decode mt.2.1 pc = .ok (.invokevirtual idx, 3))
    (hT : fx_T G mt' (.ref (1000 + i) :: As) M Qk) (kk : ∀ (v : Option Value) (M' : fxMem), Qk v M' → fx_V G mt Q (pc + 3) lv (v.toList ++ st) M') : fx_V G mt Q pc lv st0 M := by
  refine fx_callVr pc ok (fun s E H locs hC hS hP => ?_) hlink hR hn hst hw hd hT kk
  obtain ⟨cell, h1, h2, h3, -⟩ := (hC.2.2.1 i hi).1.1.kept hS.2.1
  exact ⟨cell, h1, h2, by rw [hy]; exact h3⟩
theorem fx_callS (pc : Nat) (ok : fx_okS mt' n)
    (hlink : Cond.methodLink mt.1.cls idx mt'.1 ∈ wsL_law) (hR : mt'.2.2.2.2.1 + 1 ≤ mt.2.2.2.2.1 ∧ 8 + (mt'.2.2.1 + 11) + mt'.2.2.2.2.2 ≤ mt.2.2.2.2.2) (hn : As.length = n) (hst : st0 = As.reverse ++ st) (hw : (st.map fun v => v.category).sum ≤ 8) (hd : decode mt.2.1 pc = .ok (.invokestatic idx, 3))
    (hT : fx_T G mt' As M Qk) (kk : ∀ (v : Option Value) (M' : fxMem), Qk v M' → fx_V G mt Q (pc + 3) lv (v.toList ++ st) M') : fx_V G mt Q pc lv st0 M := by
  intro p l e s m args below meth c E X H locs ls hP hS hl
  obtain ⟨hx, hb, hr, hml, hown, hts, hlk, hC⟩ := id X
  obtain ⟨ok1, ok2⟩ := ok
  have cw : CallB (fx_rm mt) s args mt.1.cls idx mt'.1 mt'.2.1 mt'.2.2.1 mt'.2.2.2.1 (fx_ws mt') (fx_rm mt') 0 0 n ∧ (Cond.static mt'.1).before args s = true := ⟨callB_of n hts (fx_gd ok1) rfl rfl rfl (hts _ ok1.2.1) (hts _ hlink) ok1.2.2 hR, hts _ ok2⟩
  have run := va_runS (e := e) (below := below) (meth := meth) (locs := locs) (cells := 0) (slots := 0) (As := As.map (fx_tr E)) (rest := st.map (fx_tr E)) (g := F0 m pc ls (st0.map (fx_tr E))) ⟨hx, hb, hml, hown, hts⟩ (hT l E H.size) cw
    ⟨fx_blind _ _ _ _ _, fun U hU hW => ⟨rfl, by rw [hU], by rw [hU]; exact hP, by
      have z := hC.call hS hU hW
      rw [hU] at z ⊢
      exact z⟩⟩ rfl (by rw [List.length_map]; exact hn) hl.1 (by rw [hst]; simp) (lv_room (by rw [fx_sum]; exact hw)) hd ⟨Nat.le_refl 0, Nat.le_refl 0⟩
  refine fx_go run hS (fun v M' H1 locs1 hq hP1 hS1 => ?_)
  have z := kk v M' hq p l e s m args below meth c E X H1 locs1 ls hP1 hS1 hl
  cases v <;> exact z
theorem fx_callN (pc : Nat) {host : String} (ok : fx_okS mt' n)
    (hlink : (mt.1.cls, idx, mt'.1, host) ∈ kxN) (hR : mt'.2.2.2.2.1 + 1 ≤ mt.2.2.2.2.1 ∧ 8 + (mt'.2.2.1 + 11) + mt'.2.2.2.2.2 ≤ mt.2.2.2.2.2) (hn : As.length = n) (hst : st0 = As.reverse ++ st) (hw : (st.map fun v => v.category).sum ≤ 8) (hd : decode mt.2.1 pc = .ok (.invokestatic idx, 3))
    (hT : fx_T G mt' As M Qk) (kk : ∀ (v : Option Value) (M' : fxMem), Qk v M' → fx_V G mt Q (pc + 3) lv (v.toList ++ st) M') : fx_V G mt Q pc lv st0 M := by
  intro p l e s m args below meth c E X H locs ls hP hS hl
  obtain ⟨hx, hb, hr, hml, hown, hts, hlk, hC⟩ := id X
  obtain ⟨ok1, ok2⟩ := ok
  have cw : va_CN (fx_rm mt) s args mt.1.cls idx mt'.1 host mt'.2.1 mt'.2.2.1 mt'.2.2.2.1 (fx_ws mt') (fx_rm mt') 0 0 n ∧ (Cond.static mt'.1).before args s = true ∧ True := ⟨va_cnB n hts (fx_gd ok1) rfl rfl rfl (hC.2.2.2.2.2.2.1 _ hlink) (hts _ ok1.2.1) ok1.2.2 hR, hts _ ok2, trivial⟩
  have run := va_runSN (e := e) (below := below) (meth := meth) (locs := locs) (cells := 0) (slots := 0) (As := As.map (fx_tr E)) (rest := st.map (fx_tr E)) (g := F0 m pc ls (st0.map (fx_tr E))) ⟨hx, hb, hml, hown, hts⟩ (hT l E H.size) cw
    ⟨fx_blind _ _ _ _ _, fun U hU hW => ⟨rfl, by rw [hU], by rw [hU]; exact hP, by
      have z := hC.call hS hU hW
      rw [hU] at z ⊢
      exact z⟩⟩ rfl (by rw [List.length_map]; exact hn) hl.1 (by rw [hst]; simp) (lv_room (by rw [fx_sum]; exact hw)) hd ⟨Nat.le_refl 0, Nat.le_refl 0⟩
  refine fx_go run hS (fun v M' H1 locs1 hq hP1 hS1 => ?_)
  have z := kk v M' hq p l e s m args below meth c E X H1 locs1 ls hP1 hS1 hl
  cases v <;> exact z
theorem fx_mmax (pc : Nat) {x y : Int32} (hd : decode mt.2.1 pc = .ok (.invokestatic idx, 3)) (hlink : Cond.methodLink mt.1.cls idx Lib.Math.max.name ∈ wsL_law) (hf : 1 ≤ mt.2.2.2.2.1) (hlo : (st.map fun v => v.category).sum + 13 ≤ mt.2.2.2.2.2) (k : fx_V G mt Q (pc + 3) lv (.int (if x < y then y else x) :: st) M) : fx_V G mt Q pc lv (.int y :: .int x :: st) M :=
  fun p l e s m args below meth c E X H locs ls hP hS hl => va_mmax X.1 X.2.1 (X.2.2.2.1.trans hl.1.symm) X.2.2.2.2.1 (X.2.2.2.2.2.1 _ hlink) (X.2.2.2.2.2.1 _ wi_max_s) (X.2.2.2.2.2.1 _ wi_math) (X.2.2.2.2.2.1 _ wi_max_c) hf (by rw [fx_sum]; exact hlo) (Nat.le_refl 0) (Nat.le_refl 0) hd (k p l e s m args below meth c E X H locs ls hP hS hl)
theorem fx_mmin (pc : Nat) {x y : Int32} (hd : decode mt.2.1 pc = .ok (.invokestatic idx, 3)) (hlink : Cond.methodLink mt.1.cls idx Lib.Math.min.name ∈ wsL_law) (hf : 1 ≤ mt.2.2.2.2.1) (hlo : (st.map fun v => v.category).sum + 13 ≤ mt.2.2.2.2.2) (k : fx_V G mt Q (pc + 3) lv (.int (if y < x then y else x) :: st) M) : fx_V G mt Q pc lv (.int y :: .int x :: st) M :=
  fun p l e s m args below meth c E X H locs ls hP hS hl => va_mmin X.1 X.2.1 (X.2.2.2.1.trans hl.1.symm) X.2.2.2.2.1 (X.2.2.2.2.2.1 _ hlink) (X.2.2.2.2.2.1 _ wi_min_s) (X.2.2.2.2.2.1 _ wi_math) (X.2.2.2.2.2.1 _ wi_min_c) hf (by rw [fx_sum]; exact hlo) (Nat.le_refl 0) (Nat.le_refl 0) hd (k p l e s m args below meth c E X H locs ls hP hS hl)
theorem fx_mabs (pc : Nat) {x : Int32} (hd : decode mt.2.1 pc = .ok (.invokestatic idx, 3)) (hlink : Cond.methodLink mt.1.cls idx Lib.Math.abs.name ∈ wsL_law) (hf : 1 ≤ mt.2.2.2.2.1) (hlo : (st.map fun v => v.category).sum + 13 ≤ mt.2.2.2.2.2) (k : fx_V G mt Q (pc + 3) lv (.int (if 0 ≤ x then x else 0 - x) :: st) M) : fx_V G mt Q pc lv (.int x :: st) M :=
  fun p l e s m args below meth c E X H locs ls hP hS hl => va_mabs X.1 X.2.1 (X.2.2.2.1.trans hl.1.symm) X.2.2.2.2.1 (X.2.2.2.2.2.1 _ hlink) (X.2.2.2.2.2.1 _ wi_abs_s) (X.2.2.2.2.2.1 _ wi_math) (X.2.2.2.2.2.1 _ wi_abs_c) hf (by rw [fx_sum]; exact hlo) (Nat.le_refl 0) (Nat.le_refl 0) hd (k p l e s m args below meth c E X H locs ls hP hS hl)
theorem fx_copy (pc : Nat) {k0 k1 t n0 n1 : Nat} {sp dp nn : Int32} (ty : FieldType) (ok0 : fx_arr G k0 t n0) (ok1 : fx_arr G k1 t n1) (ht : ∀ E : fxE, (fx_tys E)[t]? = some (E.2.2.2.1 t, ty)) (hprim : refKind ty = false) (h1 : ¬ sp < 0) (h2 : ¬ dp < 0) (h3 : ¬ nn < 0) (h4 : sp.toNatClampNeg + nn.toNatClampNeg ≤ n0) (h5 : dp.toNatClampNeg + nn.toNatClampNeg ≤ n1) (hfit : ∀ i, i < nn.toNatClampNeg → fits ty (.int (M k0 (sp.toNatClampNeg + i))) = true)
    (hd : decode mt.2.1 pc = .ok (.invokestatic idx, 3)) (hlink : Cond.methodLink mt.1.cls idx arraycopyName ∈ wsL_law) (hf : 1 ≤ mt.2.2.2.2.1) (hlo : (st.map fun v => v.category).sum + (nativeFrameWords "java/lang/System" "arraycopy" 5 + 11) ≤ mt.2.2.2.2.2)
    (kk : fx_V G mt Q (pc + 3) lv st (fx_up M k1 (va_cpy (M k0) (M k1) sp.toNatClampNeg dp.toNatClampNeg nn.toNatClampNeg))) : fx_V G mt Q pc lv (.int nn :: .int dp :: .ref k1 :: .int sp :: .ref k0 :: st) M := by
  intro p l e s m args below meth c E X H locs ls hP hS hl
  obtain ⟨hx, hb, hr, hml, hown, hts, hlk, hC⟩ := id X
  have he0 := fx_w_at (G := G) (E := E) (M := M) ok0.1
  rw [ok0.2] at he0
  have he1 := fx_w_at (G := G) (E := E) (M := M) ok1.1
  rw [ok1.2] at he1
  refine va_copyi hx hb (hml.trans hl.1.symm) hown (hts _ hlink) (hts _ wi_copy_n) (hts _ wi_copy_s) (hts _ wi_sys) hC.1 hP (fx_D hC.2.1 M s.heap.size) hS k0 k1 t t he0 he1 (ht E) (ht E) hprim h1 h2 h3 h4 h5 hfit hf (by rw [fx_sum]; exact hlo) hd (fun H1 locs1 hP1 _ hS1 => ?_)
  rw [← ok1.2 E.1 E.2.2.2.1, fx_w_set ok1.1] at hP1
  exact kk p l e s m args below meth c E X H1 locs1 ls hP1 hS1 hl
end FXC
end
section
/-! THE GROUPS: gC, the class's 64 cells; gM, the reference's 8. Handles of gC: 0 FieldBand; 1 now (2 kind, 3 v, 4 dot, 5 form, 6 film, 7 tape); 8 kept (9 .. 14); 15 shows; 16 Reader; 17 Deed (18 bodies); 19 Ways (56 row, 57 best); 20 + 6 i Show i (+1 word, +2 amount, +3 start, +4 end, +5 code); 58 Sound (59 kind, 60 slip, 61 source, 62 plays, 63 about). Of gM: 0 the object; 1 s, 2 image, 3 by, 4 truths, 5 goes, 6 bestGoes, 7 bodies -/
def fsFB (ad : Nat → Nat) (row : Nat → Int32) : List Value := [.ref (ad 1), .ref (ad 8), .int (row 2), .ref (ad 15), .ref (ad 16), .ref (ad 58), .ref (ad 19), .ref (ad 17)]
def fsField (o : Nat) (ad : Nat → Nat) (row : Nat → Int32) : List Value := [.int (row 0), .ref (ad (o + 1)), .ref (ad (o + 2)), .ref (ad (o + 3)), .int (row 4), .int (row 5), .ref (ad (o + 4)), .int (row 7), .ref (ad (o + 5)), .int (row 9), .ref (ad (o + 6)), .int (row 11)]
def fsReader (ad : Nat → Nat) (row : Nat → Int32) : List Value := [.ref (ad 1), .ref (ad (row 1).toNatClampNeg), .int (row 2)]
def fsDeed (ad : Nat → Nat) (row : Nat → Int32) : List Value := [.int (row 0), .int (row 1), .int (row 2), .int (row 3), .ref (ad 18)]
def fsShow (o : Nat) (ad : Nat → Nat) (row : Nat → Int32) : List Value := [.int (row 0), .int (row 1), .int (row 2), .int (row 3), .ref (ad (o + 1)), .ref (ad (o + 2)), .ref (ad (o + 3)), .ref (ad (o + 4)), .int (row 8), .ref (ad (o + 5))]
def fsSound (ad : Nat → Nat) (row : Nat → Int32) : List Value := [.ref (ad 1), .ref (ad (row 1).toNatClampNeg), .int (row 2), .int (row 3), .ref (ad 59), .ref (ad 60), .ref (ad 61), .ref (ad 62), .ref (ad 63)]
def fsWays (ad : Nat → Nat) (row : Nat → Int32) : List Value := [.ref (ad 1), .ref (ad 56), .ref (ad 57), .int (row 3), .int (row 4)]
def fsModel (ad : Nat → Nat) (row : Nat → Int32) : List Value := [.int (row 0), .ref (ad 1), .ref (ad 2), .int (row 3), .int (row 4), .int (row 5), .int (row 6), .int (row 7), .int (row 8), .ref (ad 3), .ref (ad 4), .int (row 11), .int (row 12), .int (row 13), .int (row 14), .ref (ad 5), .ref (ad 6), .int (row 17), .int (row 18), .ref (ad 7), .int (row 20), .int (row 21), .int (row 22), .int (row 23)]
abbrev fxCe : Type := (Nat → Nat) → (Nat → ClassId) → (Nat → Int32) → va_E
def fxO (ci : Nat) (fs : (Nat → Nat) → (Nat → Int32) → List Value) : fxCe := fun ad _ row => .inr (ci, fs ad row)
def fxI (t n : Nat) : fxCe := fun _ aC row => .inl (aC t, n, .inl row)
def fxSh : fxCe := fun ad aC _ => .inl (aC 3, 6, .inr (.inr (.inr (.inr (fun i => some (ad (20 + 6 * i)))))))
def clC : List fxCe := [fxO 6 fsFB, fxO 1 (fsField 1), fxI 0 10, fxI 0 10, fxI 0 10, fxI 0 10, fxI 0 10, fxI 1 120, fxO 1 (fsField 8), fxI 0 10, fxI 0 10, fxI 0 10, fxI 0 10, fxI 0 10, fxI 1 120, fxSh, fxO 2 fsReader, fxO 0 fsDeed, fxI 0 20, fxO 5 fsWays, fxO 3 (fsShow 20), fxI 0 10, fxI 0 10, fxI 0 10, fxI 0 10, fxI 0 120, fxO 3 (fsShow 26), fxI 0 10, fxI 0 10, fxI 0 10, fxI 0 10, fxI 0 120, fxO 3 (fsShow 32), fxI 0 10, fxI 0 10, fxI 0 10, fxI 0 10, fxI 0 120, fxO 3 (fsShow 38), fxI 0 10, fxI 0 10, fxI 0 10, fxI 0 10, fxI 0 120, fxO 3 (fsShow 44), fxI 0 10, fxI 0 10, fxI 0 10, fxI 0 10, fxI 0 120, fxO 3 (fsShow 50), fxI 0 10, fxI 0 10, fxI 0 10, fxI 0 10, fxI 0 120, fxI 0 6, fxI 0 6, fxO 4 fsSound, fxI 0 10, fxI 0 10, fxI 0 10, fxI 0 10, fxI 0 5]
def gC : fxG := (64, fun ad aC k row => (clC.getD k (fun _ _ _ => .inr (0, []))) ad aC row)
def clM : List fxCe := [fxO 7 fsModel, fxI 0 900, fxI 0 900, fxI 0 5, fxI 2 64, fxI 0 10, fxI 0 10, fxI 0 20]
def gM : fxG := (8, fun ad aC k row => (clM.getD k (fun _ _ _ => .inr (0, []))) ad aC row)
theorem okc0 : fx_cell gC 0 6 RX6 TX6 8 fsFB := ⟨by decide, fun _ _ _ => rfl, rfl, inlX6, tyX6, tyX6_ok, nmX6⟩
theorem okc1 : fx_cell gC 1 1 RX1 TX1 12 (fsField 1) := ⟨by decide, fun _ _ _ => rfl, rfl, inlX1, tyX1, tyX1_ok, nmX1⟩
theorem okc8 : fx_cell gC 8 1 RX1 TX1 12 (fsField 8) := ⟨by decide, fun _ _ _ => rfl, rfl, inlX1, tyX1, tyX1_ok, nmX1⟩
theorem okc16 : fx_cell gC 16 2 RX2 TX2 3 fsReader := ⟨by decide, fun _ _ _ => rfl, rfl, inlX2, tyX2, tyX2_ok, nmX2⟩
theorem okc17 : fx_cell gC 17 0 RX0 TX0 5 fsDeed := ⟨by decide, fun _ _ _ => rfl, rfl, inlX0, tyX0, tyX0_ok, nmX0⟩
theorem okc19 : fx_cell gC 19 5 RX5 TX5 5 fsWays := ⟨by decide, fun _ _ _ => rfl, rfl, inlX5, tyX5, tyX5_ok, nmX5⟩
theorem okc58 : fx_cell gC 58 4 RX4 TX4 9 fsSound := ⟨by decide, fun _ _ _ => rfl, rfl, inlX4, tyX4, tyX4_ok, nmX4⟩
theorem okm0 : fx_cell gM 0 7 RX7 TX7 24 fsModel := ⟨by decide, fun _ _ _ => rfl, rfl, inlX7, tyX7, tyX7_ok, nmX7⟩
theorem okc20 : fx_cell gC 20 3 RX3 TX3 10 (fsShow 20) := ⟨by decide, fun _ _ _ => rfl, rfl, inlX3, tyX3, tyX3_ok, nmX3⟩
theorem okc26 : fx_cell gC 26 3 RX3 TX3 10 (fsShow 26) := ⟨by decide, fun _ _ _ => rfl, rfl, inlX3, tyX3, tyX3_ok, nmX3⟩
theorem okc32 : fx_cell gC 32 3 RX3 TX3 10 (fsShow 32) := ⟨by decide, fun _ _ _ => rfl, rfl, inlX3, tyX3, tyX3_ok, nmX3⟩
theorem okc38 : fx_cell gC 38 3 RX3 TX3 10 (fsShow 38) := ⟨by decide, fun _ _ _ => rfl, rfl, inlX3, tyX3, tyX3_ok, nmX3⟩
theorem okc44 : fx_cell gC 44 3 RX3 TX3 10 (fsShow 44) := ⟨by decide, fun _ _ _ => rfl, rfl, inlX3, tyX3, tyX3_ok, nmX3⟩
theorem okc50 : fx_cell gC 50 3 RX3 TX3 10 (fsShow 50) := ⟨by decide, fun _ _ _ => rfl, rfl, inlX3, tyX3, tyX3_ok, nmX3⟩
theorem oka2 : fx_arr gC 2 0 10 := ⟨by decide, fun _ _ _ => rfl⟩
theorem oka3 : fx_arr gC 3 0 10 := ⟨by decide, fun _ _ _ => rfl⟩
theorem oka4 : fx_arr gC 4 0 10 := ⟨by decide, fun _ _ _ => rfl⟩
theorem oka5 : fx_arr gC 5 0 10 := ⟨by decide, fun _ _ _ => rfl⟩
theorem oka6 : fx_arr gC 6 0 10 := ⟨by decide, fun _ _ _ => rfl⟩
theorem oka7 : fx_arr gC 7 1 120 := ⟨by decide, fun _ _ _ => rfl⟩
theorem oka9 : fx_arr gC 9 0 10 := ⟨by decide, fun _ _ _ => rfl⟩
theorem oka10 : fx_arr gC 10 0 10 := ⟨by decide, fun _ _ _ => rfl⟩
theorem oka11 : fx_arr gC 11 0 10 := ⟨by decide, fun _ _ _ => rfl⟩
theorem oka12 : fx_arr gC 12 0 10 := ⟨by decide, fun _ _ _ => rfl⟩
theorem oka13 : fx_arr gC 13 0 10 := ⟨by decide, fun _ _ _ => rfl⟩
theorem oka14 : fx_arr gC 14 1 120 := ⟨by decide, fun _ _ _ => rfl⟩
theorem oka18 : fx_arr gC 18 0 20 := ⟨by decide, fun _ _ _ => rfl⟩
theorem oka21 : fx_arr gC 21 0 10 := ⟨by decide, fun _ _ _ => rfl⟩
theorem oka22 : fx_arr gC 22 0 10 := ⟨by decide, fun _ _ _ => rfl⟩
theorem oka23 : fx_arr gC 23 0 10 := ⟨by decide, fun _ _ _ => rfl⟩
theorem oka24 : fx_arr gC 24 0 10 := ⟨by decide, fun _ _ _ => rfl⟩
theorem oka25 : fx_arr gC 25 0 120 := ⟨by decide, fun _ _ _ => rfl⟩
theorem oka27 : fx_arr gC 27 0 10 := ⟨by decide, fun _ _ _ => rfl⟩
theorem oka28 : fx_arr gC 28 0 10 := ⟨by decide, fun _ _ _ => rfl⟩
theorem oka29 : fx_arr gC 29 0 10 := ⟨by decide, fun _ _ _ => rfl⟩
theorem oka30 : fx_arr gC 30 0 10 := ⟨by decide, fun _ _ _ => rfl⟩
theorem oka31 : fx_arr gC 31 0 120 := ⟨by decide, fun _ _ _ => rfl⟩
theorem oka33 : fx_arr gC 33 0 10 := ⟨by decide, fun _ _ _ => rfl⟩
theorem oka34 : fx_arr gC 34 0 10 := ⟨by decide, fun _ _ _ => rfl⟩
theorem oka35 : fx_arr gC 35 0 10 := ⟨by decide, fun _ _ _ => rfl⟩
theorem oka36 : fx_arr gC 36 0 10 := ⟨by decide, fun _ _ _ => rfl⟩
theorem oka37 : fx_arr gC 37 0 120 := ⟨by decide, fun _ _ _ => rfl⟩
theorem oka39 : fx_arr gC 39 0 10 := ⟨by decide, fun _ _ _ => rfl⟩
theorem oka40 : fx_arr gC 40 0 10 := ⟨by decide, fun _ _ _ => rfl⟩
theorem oka41 : fx_arr gC 41 0 10 := ⟨by decide, fun _ _ _ => rfl⟩
theorem oka42 : fx_arr gC 42 0 10 := ⟨by decide, fun _ _ _ => rfl⟩
theorem oka43 : fx_arr gC 43 0 120 := ⟨by decide, fun _ _ _ => rfl⟩
theorem oka45 : fx_arr gC 45 0 10 := ⟨by decide, fun _ _ _ => rfl⟩
theorem oka46 : fx_arr gC 46 0 10 := ⟨by decide, fun _ _ _ => rfl⟩
theorem oka47 : fx_arr gC 47 0 10 := ⟨by decide, fun _ _ _ => rfl⟩
theorem oka48 : fx_arr gC 48 0 10 := ⟨by decide, fun _ _ _ => rfl⟩
theorem oka49 : fx_arr gC 49 0 120 := ⟨by decide, fun _ _ _ => rfl⟩
theorem oka51 : fx_arr gC 51 0 10 := ⟨by decide, fun _ _ _ => rfl⟩
theorem oka52 : fx_arr gC 52 0 10 := ⟨by decide, fun _ _ _ => rfl⟩
theorem oka53 : fx_arr gC 53 0 10 := ⟨by decide, fun _ _ _ => rfl⟩
theorem oka54 : fx_arr gC 54 0 10 := ⟨by decide, fun _ _ _ => rfl⟩
theorem oka55 : fx_arr gC 55 0 120 := ⟨by decide, fun _ _ _ => rfl⟩
theorem oka56 : fx_arr gC 56 0 6 := ⟨by decide, fun _ _ _ => rfl⟩
theorem oka57 : fx_arr gC 57 0 6 := ⟨by decide, fun _ _ _ => rfl⟩
theorem oka59 : fx_arr gC 59 0 10 := ⟨by decide, fun _ _ _ => rfl⟩
theorem oka60 : fx_arr gC 60 0 10 := ⟨by decide, fun _ _ _ => rfl⟩
theorem oka61 : fx_arr gC 61 0 10 := ⟨by decide, fun _ _ _ => rfl⟩
theorem oka62 : fx_arr gC 62 0 10 := ⟨by decide, fun _ _ _ => rfl⟩
theorem oka63 : fx_arr gC 63 0 5 := ⟨by decide, fun _ _ _ => rfl⟩
theorem okb1 : fx_arr gM 1 0 900 := ⟨by decide, fun _ _ _ => rfl⟩
theorem okb2 : fx_arr gM 2 0 900 := ⟨by decide, fun _ _ _ => rfl⟩
theorem okb3 : fx_arr gM 3 0 5 := ⟨by decide, fun _ _ _ => rfl⟩
theorem okb4 : fx_arr gM 4 2 64 := ⟨by decide, fun _ _ _ => rfl⟩
theorem okb5 : fx_arr gM 5 0 10 := ⟨by decide, fun _ _ _ => rfl⟩
theorem okb6 : fx_arr gM 6 0 10 := ⟨by decide, fun _ _ _ => rfl⟩
theorem okb7 : fx_arr gM 7 0 20 := ⟨by decide, fun _ _ _ => rfl⟩
def fx_isSh (k : Nat) : Bool := k == 20 || k == 26 || k == 32 || k == 38 || k == 44 || k == 50
theorem fx_sh6 {k : Nat} (h : fx_isSh k = true) : k = 20 ∨ k = 26 ∨ k = 32 ∨ k = 38 ∨ k = 44 ∨ k = 50 := by
  simpa [fx_isSh, or_assoc] using h
theorem okcS {k : Nat} (h : fx_isSh k = true) : fx_cell gC k 3 RX3 TX3 10 (fsShow k) := by
  rcases fx_sh6 h with rfl | rfl | rfl | rfl | rfl | rfl
  · exact okc20
  · exact okc26
  · exact okc32
  · exact okc38
  · exact okc44
  · exact okc50
theorem okaS1 {k : Nat} (h : fx_isSh k = true) : fx_arr gC (k + 1) 0 10 := by
  rcases fx_sh6 h with rfl | rfl | rfl | rfl | rfl | rfl
  · exact oka21
  · exact oka27
  · exact oka33
  · exact oka39
  · exact oka45
  · exact oka51
theorem okaS2 {k : Nat} (h : fx_isSh k = true) : fx_arr gC (k + 2) 0 10 := by
  rcases fx_sh6 h with rfl | rfl | rfl | rfl | rfl | rfl
  · exact oka22
  · exact oka28
  · exact oka34
  · exact oka40
  · exact oka46
  · exact oka52
theorem okaS3 {k : Nat} (h : fx_isSh k = true) : fx_arr gC (k + 3) 0 10 := by
  rcases fx_sh6 h with rfl | rfl | rfl | rfl | rfl | rfl
  · exact oka23
  · exact oka29
  · exact oka35
  · exact oka41
  · exact oka47
  · exact oka53
theorem okaS4 {k : Nat} (h : fx_isSh k = true) : fx_arr gC (k + 4) 0 10 := by
  rcases fx_sh6 h with rfl | rfl | rfl | rfl | rfl | rfl
  · exact oka24
  · exact oka30
  · exact oka36
  · exact oka42
  · exact oka48
  · exact oka54
theorem okaS5 {k : Nat} (h : fx_isSh k = true) : fx_arr gC (k + 5) 0 120 := by
  rcases fx_sh6 h with rfl | rfl | rfl | rfl | rfl | rfl
  · exact oka25
  · exact oka31
  · exact oka37
  · exact oka43
  · exact oka49
  · exact oka55
def fx_ri (R : Int32 × fxMem) : Option Value → fxMem → Prop := fun v M => v = some (.int R.1) ∧ M = R.2
def fx_rv (R : fxMem) : Option Value → fxMem → Prop := fun v M => v = none ∧ M = R
def fx_rr (R : Nat × fxMem) : Option Value → fxMem → Prop := fun v M => v = some (.ref R.1) ∧ M = R.2
def fx_cp (M : fxMem) (k0 k1 n : Nat) : fxMem := fx_up M k1 (va_cpy (M k0) (M k1) 0 0 n)
def fx_01 (x : Int32) : Bool := x == 0 || x == 1
theorem fx_01n {x : Int32} (h : fx_01 x = true) : narrow .boolean (.int x) = .int x ∧ fits .boolean (.int x) = true := by
  have h : x = 0 ∨ x = 1 := by simpa [fx_01] using h
  rcases h with rfl | rfl <;> exact ⟨rfl, rfl⟩
theorem fx_bd {α β : Type} {x : Option α} {f : α → Option β} {r : β} (h : x.bind f = some r) : ∃ q, x = some q ∧ f q = some r := by
  cases x with
  | none => cases h
  | some q => exact ⟨q, rfl, h⟩
theorem fx_gt {β : Type} {b : Bool} {x : Option β} {r : β} (h : (if b = true then x else none) = some r) : b = true ∧ x = some r := by
  by_cases hb : b = true
  · rw [if_pos hb] at h
    exact ⟨hb, h⟩
  · rw [if_neg hb] at h
    cases h
theorem fx_gn {β : Type} {y : Int32} {x : Option β} {r : β} (h : (if y = 0 then none else x) = some r) : ¬ y = 0 ∧ x = some r := by
  by_cases hb : y = 0
  · rw [if_pos hb] at h
    cases h
  · rw [if_neg hb] at h
    exact ⟨hb, h⟩
theorem fx_ip {β : Type} {c : Prop} [Decidable c] {a b : Option β} {r : Option β} (hc : c) (h : (if c then a else b) = r) : a = r := by
  rw [if_pos hc] at h
  exact h
theorem fx_ne {β : Type} {c : Prop} [Decidable c] {a b : Option β} {r : Option β} (hc : ¬ c) (h : (if c then a else b) = r) : b = r := by
  rw [if_neg hc] at h
  exact h
section FXD
variable {G : fxG} {mt mt' : fxM} {Q : Option Value → fxMem → Prop} {lv : List (Nat × Value)} {st st0 As : List Value} {M : fxMem} {n idx : Nat}
theorem fx_putI (pc : Nat) {k ci j N : Nat} {C : String} {T : u_T} {fs : (Nat → Nat) → (Nat → Int32) → List Value} {x : Int32} (ok : fx_cell G k ci C T N fs) (hd : decode mt.2.1 pc = .ok (.putfield idx, 3)) (hlink : Cond.fieldLink mt.1.cls idx (T j).1 (T j).2.1 (T j).2.2.1 ∈ wsL_law) (hj : j < N) (hfin : (T j).2.2.2 = false) (hty : parseFieldDescriptor (T j).2.2.1 = some .int) (hl0 : ∀ ad row, j < (fs ad row).length) (hset : ∀ ad row x, (fs ad row).set j (.int x) = fs ad (upd row j x)) (kk : fx_V G mt Q (pc + 3) lv st (fx_st M k j x)) : fx_V G mt Q pc lv (.int x :: .ref k :: st) M :=
  fx_put pc ok hd hlink hj hfin hty (fun _ => rfl) (fun _ => rfl) hl0 (fun E => hset E.1 (M k) x) kk
theorem fx_putZ (pc : Nat) {k ci j N : Nat} {C : String} {T : u_T} {fs : (Nat → Nat) → (Nat → Int32) → List Value} {x : Int32} (ok : fx_cell G k ci C T N fs) (hx : fx_01 x = true) (hd : decode mt.2.1 pc = .ok (.putfield idx, 3)) (hlink : Cond.fieldLink mt.1.cls idx (T j).1 (T j).2.1 (T j).2.2.1 ∈ wsL_law) (hj : j < N) (hfin : (T j).2.2.2 = false) (hty : parseFieldDescriptor (T j).2.2.1 = some .boolean) (hl0 : ∀ ad row, j < (fs ad row).length) (hset : ∀ ad row x, (fs ad row).set j (.int x) = fs ad (upd row j x)) (kk : fx_V G mt Q (pc + 3) lv st (fx_st M k j x)) : fx_V G mt Q pc lv (.int x :: .ref k :: st) M :=
  fx_put pc ok hd hlink hj hfin hty (fun _ => (fx_01n hx).1) (fun _ => (fx_01n hx).2) hl0 (fun E => hset E.1 (M k) x) kk
theorem fx_shlt {k : Nat} (h : fx_isSh k = true) : (nI k).toNatClampNeg = k := by
  refine nI_clamp ?_
  rcases fx_sh6 h with rfl | rfl | rfl | rfl | rfl | rfl <;> decide
theorem fx_putSR (pc : Nat) {k : Nat} (hk : fx_isSh k = true) (hd : decode mt.2.1 pc = .ok (.putfield idx, 3)) (hlink : Cond.fieldLink mt.1.cls idx (TX2 1).1 (TX2 1).2.1 (TX2 1).2.2.1 ∈ wsL_law) (kk : fx_V gC mt Q (pc + 3) lv st (fx_st M 16 1 (nI k))) : fx_V gC mt Q pc lv (.ref k :: .ref 16 :: st) M :=
  fx_put pc (v := .ref k) (x := nI k) (j := 1) (ty := .object "FieldBand$Show") okc16 hd hlink (by decide) rfl (by decide +kernel) (fun _ => rfl) (fun _ => rfl) (fun _ _ => Nat.le_of_ble_eq_true rfl) (fun E => by
    show [Value.ref (E.1 1), .ref (E.1 k), .int (M 16 2)] = [.ref (E.1 1), .ref (E.1 (nI k).toNatClampNeg), .int (M 16 2)]
    rw [fx_shlt hk]) kk
theorem fx_putSS (pc : Nat) {k : Nat} (hk : fx_isSh k = true) (hd : decode mt.2.1 pc = .ok (.putfield idx, 3)) (hlink : Cond.fieldLink mt.1.cls idx (TX4 1).1 (TX4 1).2.1 (TX4 1).2.2.1 ∈ wsL_law) (kk : fx_V gC mt Q (pc + 3) lv st (fx_st M 58 1 (nI k))) : fx_V gC mt Q pc lv (.ref k :: .ref 58 :: st) M :=
  fx_put pc (v := .ref k) (x := nI k) (j := 1) (ty := .object "FieldBand$Show") okc58 hd hlink (by decide) rfl (by decide +kernel) (fun _ => rfl) (fun _ => rfl) (fun _ _ => Nat.le_of_ble_eq_true rfl) (fun E => by
    show [Value.ref (E.1 1), .ref (E.1 k), .int (M 58 2), .int (M 58 3), .ref (E.1 59), .ref (E.1 60), .ref (E.1 61), .ref (E.1 62), .ref (E.1 63)] = [.ref (E.1 1), .ref (E.1 (nI k).toNatClampNeg), .int (M 58 2), .int (M 58 3), .ref (E.1 59), .ref (E.1 60), .ref (E.1 61), .ref (E.1 62), .ref (E.1 63)]
    rw [fx_shlt hk]) kk
theorem fx_aald (pc : Nat) {i : Int32} (hd : decode mt.2.1 pc = .ok (.aaload, 1)) (hi : fx_in i 6 = true) (kk : fx_V gC mt Q (pc + 1) lv (.ref (20 + 6 * i.toNatClampNeg) :: st) M) : fx_V gC mt Q pc lv (.int i :: .ref 15 :: st) M := by
  intro p l e s m args below meth c E X H locs ls hP hS hl
  have he := fx_w_at (G := gC) (E := E) (M := M) (k := 15) (by decide)
  exact va_aldq X.1 X.2.1 X.2.2.2.2.2.2.2.1 hP 15 3 (cA := E.2.2.2.1 3) (C := RX3) (n := 6) (f := fun i => some (E.1 (20 + 6 * i))) he rfl (fx_in_ok hi) hd (kk p l e s m args below meth c E X H locs ls hP hS hl)
theorem fx_callVi (pc : Nat) {k ci N : Nat} {T : u_T} {fs : (Nat → Nat) → (Nat → Int32) → List Value} {q : Int32 × fxMem} (okc : fx_cell G k ci mt'.1.cls T N fs) (ok : fx_okV mt' n) (hlink : Cond.methodLink mt.1.cls idx mt'.1 ∈ wsL_law) (hR : mt'.2.2.2.2.1 + 1 ≤ mt.2.2.2.2.1 ∧ 8 + (mt'.2.2.1 + 11) + mt'.2.2.2.2.2 ≤ mt.2.2.2.2.2) (hn : As.length = n) (hst : st0 = As.reverse ++ .ref k :: st) (hw : (st.map fun v => v.category).sum ≤ 8) (hd : decode mt.2.1 pc = .ok (.invokevirtual idx, 3)) (hT : fx_T G mt' (.ref k :: As) M (fx_ri q)) (kk : fx_V G mt Q (pc + 3) lv (.int q.1 :: st) q.2) : fx_V G mt Q pc lv st0 M :=
  fx_callV pc okc ok hlink hR hn hst hw hd hT (fun v M' h => by obtain ⟨rfl, rfl⟩ := h; exact kk)
theorem fx_callVv (pc : Nat) {k ci N : Nat} {T : u_T} {fs : (Nat → Nat) → (Nat → Int32) → List Value} {q : fxMem} (okc : fx_cell G k ci mt'.1.cls T N fs) (ok : fx_okV mt' n) (hlink : Cond.methodLink mt.1.cls idx mt'.1 ∈ wsL_law) (hR : mt'.2.2.2.2.1 + 1 ≤ mt.2.2.2.2.1 ∧ 8 + (mt'.2.2.1 + 11) + mt'.2.2.2.2.2 ≤ mt.2.2.2.2.2) (hn : As.length = n) (hst : st0 = As.reverse ++ .ref k :: st) (hw : (st.map fun v => v.category).sum ≤ 8) (hd : decode mt.2.1 pc = .ok (.invokevirtual idx, 3)) (hT : fx_T G mt' (.ref k :: As) M (fx_rv q)) (kk : fx_V G mt Q (pc + 3) lv st q) : fx_V G mt Q pc lv st0 M :=
  fx_callV pc okc ok hlink hR hn hst hw hd hT (fun v M' h => by obtain ⟨rfl, rfl⟩ := h; exact kk)
theorem fx_callVq (pc : Nat) {k ci N : Nat} {T : u_T} {fs : (Nat → Nat) → (Nat → Int32) → List Value} {q : Nat × fxMem} (okc : fx_cell G k ci mt'.1.cls T N fs) (ok : fx_okV mt' n) (hlink : Cond.methodLink mt.1.cls idx mt'.1 ∈ wsL_law) (hR : mt'.2.2.2.2.1 + 1 ≤ mt.2.2.2.2.1 ∧ 8 + (mt'.2.2.1 + 11) + mt'.2.2.2.2.2 ≤ mt.2.2.2.2.2) (hn : As.length = n) (hst : st0 = As.reverse ++ .ref k :: st) (hw : (st.map fun v => v.category).sum ≤ 8) (hd : decode mt.2.1 pc = .ok (.invokevirtual idx, 3)) (hT : fx_T G mt' (.ref k :: As) M (fx_rr q)) (kk : fx_V G mt Q (pc + 3) lv (.ref q.1 :: st) q.2) : fx_V G mt Q pc lv st0 M :=
  fx_callV pc okc ok hlink hR hn hst hw hd hT (fun v M' h => by obtain ⟨rfl, rfl⟩ := h; exact kk)
theorem fx_callSi (pc : Nat) {q : Int32 × fxMem} (ok : fx_okS mt' n) (hlink : Cond.methodLink mt.1.cls idx mt'.1 ∈ wsL_law) (hR : mt'.2.2.2.2.1 + 1 ≤ mt.2.2.2.2.1 ∧ 8 + (mt'.2.2.1 + 11) + mt'.2.2.2.2.2 ≤ mt.2.2.2.2.2) (hn : As.length = n) (hst : st0 = As.reverse ++ st) (hw : (st.map fun v => v.category).sum ≤ 8) (hd : decode mt.2.1 pc = .ok (.invokestatic idx, 3)) (hT : fx_T G mt' As M (fx_ri q)) (kk : fx_V G mt Q (pc + 3) lv (.int q.1 :: st) q.2) : fx_V G mt Q pc lv st0 M :=
  fx_callS pc ok hlink hR hn hst hw hd hT (fun v M' h => by obtain ⟨rfl, rfl⟩ := h; exact kk)
theorem fx_callSq (pc : Nat) {q : Nat × fxMem} (ok : fx_okS mt' n) (hlink : Cond.methodLink mt.1.cls idx mt'.1 ∈ wsL_law) (hR : mt'.2.2.2.2.1 + 1 ≤ mt.2.2.2.2.1 ∧ 8 + (mt'.2.2.1 + 11) + mt'.2.2.2.2.2 ≤ mt.2.2.2.2.2) (hn : As.length = n) (hst : st0 = As.reverse ++ st) (hw : (st.map fun v => v.category).sum ≤ 8) (hd : decode mt.2.1 pc = .ok (.invokestatic idx, 3)) (hT : fx_T G mt' As M (fx_rr q)) (kk : fx_V G mt Q (pc + 3) lv (.ref q.1 :: st) q.2) : fx_V G mt Q pc lv st0 M :=
  fx_callS pc ok hlink hR hn hst hw hd hT (fun v M' h => by obtain ⟨rfl, rfl⟩ := h; exact kk)
theorem fx_callNi (pc : Nat) {host : String} {q : Int32 × fxMem} (ok : fx_okS mt' n) (hlink : (mt.1.cls, idx, mt'.1, host) ∈ kxN) (hR : mt'.2.2.2.2.1 + 1 ≤ mt.2.2.2.2.1 ∧ 8 + (mt'.2.2.1 + 11) + mt'.2.2.2.2.2 ≤ mt.2.2.2.2.2) (hn : As.length = n) (hst : st0 = As.reverse ++ st) (hw : (st.map fun v => v.category).sum ≤ 8) (hd : decode mt.2.1 pc = .ok (.invokestatic idx, 3)) (hT : fx_T G mt' As M (fx_ri q)) (kk : fx_V G mt Q (pc + 3) lv (.int q.1 :: st) q.2) : fx_V G mt Q pc lv st0 M :=
  fx_callN pc ok hlink hR hn hst hw hd hT (fun v M' h => by obtain ⟨rfl, rfl⟩ := h; exact kk)
theorem fx_callSti (pc : Nat) {i : Nat} {q : Int32 × fxMem} (hi : i < 23) (hy : mt'.1.cls = "java/lang/String") (ok : fx_okV mt' n) (hlink : Cond.methodLink mt.1.cls idx mt'.1 ∈ wsL_law) (hR : mt'.2.2.2.2.1 + 1 ≤ mt.2.2.2.2.1 ∧ 8 + (mt'.2.2.1 + 11) + mt'.2.2.2.2.2 ≤ mt.2.2.2.2.2) (hn : As.length = n) (hst : st0 = As.reverse ++ .ref (1000 + i) :: st) (hw : (st.map fun v => v.category).sum ≤ 8) (hd : decode mt.2.1 pc = .ok (.invokevirtual idx, 3)) (hT : fx_T G mt' (.ref (1000 + i) :: As) M (fx_ri q)) (kk : fx_V G mt Q (pc + 3) lv (.int q.1 :: st) q.2) : fx_V G mt Q pc lv st0 M :=
  fx_callStr pc hi hy ok hlink hR hn hst hw hd hT (fun v M' h => by obtain ⟨rfl, rfl⟩ := h; exact kk)
end FXD
end
section
def mJ0_coder_7d493 : fxM := (yJ0_coder_7d493, cJ0_coder_7d493, 1, (some .byte), 1, 40)
theorem okvJ0_coder_7d493 : fx_okV mJ0_coder_7d493 0 := ⟨⟨rin5 _ (List.mem_of_getElem? (i := 19) rfl), rin5 _ (List.mem_of_getElem? (i := 13) rfl), by decide +kernel, by decide +kernel, by decide +kernel⟩, rin5 _ (List.mem_of_getElem? (i := 17) rfl), rin5 _ (List.mem_of_getElem? (i := 18) rfl)⟩
def mJ0_isLatin1_aae02 : fxM := (yJ0_isLatin1_aae02, cJ0_isLatin1_aae02, 1, (some .boolean), 1, 40)
theorem okvJ0_isLatin1_aae02 : fx_okV mJ0_isLatin1_aae02 0 := ⟨⟨rin8 _ (List.mem_of_getElem? (i := 20) rfl), rin5 _ (List.mem_of_getElem? (i := 13) rfl), by decide +kernel, by decide +kernel, by decide +kernel⟩, rin8 _ (List.mem_of_getElem? (i := 18) rfl), rin8 _ (List.mem_of_getElem? (i := 19) rfl)⟩
def mJ0_length_8abf5 : fxM := (yJ0_length_8abf5, cJ0_length_8abf5, 1, (some .int), 2, 80)
theorem okvJ0_length_8abf5 : fx_okV mJ0_length_8abf5 0 := ⟨⟨rin5 _ (List.mem_of_getElem? (i := 14) rfl), rin5 _ (List.mem_of_getElem? (i := 13) rfl), by decide +kernel, by decide +kernel, by decide +kernel⟩, rin5 _ (List.mem_of_getElem? (i := 11) rfl), rin5 _ (List.mem_of_getElem? (i := 12) rfl)⟩
def mJ3_checkIndex_8e157 : fxM := (yJ3_checkIndex_8e157, cJ3_checkIndex_8e157, 3, (some .int), 1, 40)
theorem oksJ3_checkIndex_8e157 : fx_okS mJ3_checkIndex_8e157 3 := ⟨⟨rin9 _ (List.mem_of_getElem? (i := 8) rfl), rin9 _ (List.mem_of_getElem? (i := 7) rfl), by decide +kernel, by decide +kernel, by decide +kernel⟩, rin9 _ (List.mem_of_getElem? (i := 6) rfl)⟩
def mJ0_checkIndex_df160 : fxM := (yJ0_checkIndex_df160, cJ0_checkIndex_df160, 2, none, 2, 80)
theorem oksJ0_checkIndex_df160 : fx_okS mJ0_checkIndex_df160 2 := ⟨⟨rin9 _ (List.mem_of_getElem? (i := 3) rfl), rin5 _ (List.mem_of_getElem? (i := 13) rfl), by decide +kernel, by decide +kernel, by decide +kernel⟩, rin9 _ (List.mem_of_getElem? (i := 2) rfl)⟩
def mJ1_charAt_3b067 : fxM := (yJ1_charAt_3b067, cJ1_charAt_3b067, 2, (some .char), 3, 120)
theorem oksJ1_charAt_3b067 : fx_okS mJ1_charAt_3b067 2 := ⟨⟨rin9 _ (List.mem_of_getElem? (i := 0) rfl), rin8 _ (List.mem_of_getElem? (i := 23) rfl), by decide +kernel, by decide +kernel, by decide +kernel⟩, rin8 _ (List.mem_of_getElem? (i := 22) rfl)⟩
def mJ0_charAt_5068e : fxM := (yJ0_charAt_5068e, cJ0_charAt_5068e, 2, (some .char), 4, 160)
theorem okvJ0_charAt_5068e : fx_okV mJ0_charAt_5068e 1 := ⟨⟨rin8 _ (List.mem_of_getElem? (i := 16) rfl), rin5 _ (List.mem_of_getElem? (i := 13) rfl), by decide +kernel, by decide +kernel, by decide +kernel⟩, rin8 _ (List.mem_of_getElem? (i := 14) rfl), rin8 _ (List.mem_of_getElem? (i := 15) rfl)⟩
def mJ1_canEncode_9a6ad : fxM := (yJ1_canEncode_9a6ad, cJ1_canEncode_9a6ad, 1, (some .boolean), 1, 40)
theorem oksJ1_canEncode_9a6ad : fx_okS mJ1_canEncode_9a6ad 1 := ⟨⟨rin11 _ (List.mem_of_getElem? (i := 4) rfl), rin8 _ (List.mem_of_getElem? (i := 23) rfl), by decide +kernel, by decide +kernel, by decide +kernel⟩, rin11 _ (List.mem_of_getElem? (i := 3) rfl)⟩
def mJ1_indexOfChar_4cfef : fxM := (yJ1_indexOfChar_4cfef, cJ1_indexOfChar_4cfef, 6, (some .int), 1, 40)
theorem oksJ1_indexOfChar_4cfef : fx_okS mJ1_indexOfChar_4cfef 4 := ⟨⟨rin11 _ (List.mem_of_getElem? (i := 7) rfl), rin8 _ (List.mem_of_getElem? (i := 23) rfl), by decide +kernel, by decide +kernel, by decide +kernel⟩, rin11 _ (List.mem_of_getElem? (i := 6) rfl)⟩
def mJ1_indexOf_4cfef : fxM := (yJ1_indexOf_4cfef, cJ1_indexOf_4cfef, 4, (some .int), 2, 80)
theorem oksJ1_indexOf_4cfef : fx_okS mJ1_indexOf_4cfef 4 := ⟨⟨rin10 _ (List.mem_of_getElem? (i := 21) rfl), rin8 _ (List.mem_of_getElem? (i := 23) rfl), by decide +kernel, by decide +kernel, by decide +kernel⟩, rin10 _ (List.mem_of_getElem? (i := 20) rfl)⟩
def mJ0_indexOf_7cf53 : fxM := (yJ0_indexOf_7cf53, cJ0_indexOf_7cf53, 3, (some .int), 3, 120)
theorem okvJ0_indexOf_7cf53 : fx_okV mJ0_indexOf_7cf53 2 := ⟨⟨rin10 _ (List.mem_of_getElem? (i := 17) rfl), rin5 _ (List.mem_of_getElem? (i := 13) rfl), by decide +kernel, by decide +kernel, by decide +kernel⟩, rin10 _ (List.mem_of_getElem? (i := 15) rfl), rin10 _ (List.mem_of_getElem? (i := 16) rfl)⟩
def mJ0_indexOf_0f7a4 : fxM := (yJ0_indexOf_0f7a4, cJ0_indexOf_0f7a4, 2, (some .int), 4, 160)
theorem okvJ0_indexOf_0f7a4 : fx_okV mJ0_indexOf_0f7a4 1 := ⟨⟨rin10 _ (List.mem_of_getElem? (i := 13) rfl), rin5 _ (List.mem_of_getElem? (i := 13) rfl), by decide +kernel, by decide +kernel, by decide +kernel⟩, rin10 _ (List.mem_of_getElem? (i := 11) rfl), rin10 _ (List.mem_of_getElem? (i := 12) rfl)⟩
/-! String constants: length, charAt, indexOf of the JDK's own code, over the literals; System.arraycopy whole -/
def fx_isS (k : Nat) : Bool := decide (1000 ≤ k) && decide (k < 1023)
def kx_l (k : Nat) : Int32 := nI (kx_b (k - 1000)).length
def kx_c (k : Nat) (i : Int32) : Int32 := (kx_b (k - 1000)).getD i.toNatClampNeg 0 &&& 255
def kx_ix (c : Int32) : List Int32 → Nat → Int32
  | [], _ => -1
  | b :: l, k => if b = c then nI k else kx_ix c l (k + 1)
/-- the place of c in the text, or -1 -/
def kx_i (k : Nat) (c : Int32) : Int32 := if c < 0 then -1 else if 255 < c then -1 else kx_ix (c.toInt8.toInt32) (kx_b (k - 1000)) 0
theorem fx_isS_ok {k : Nat} (h : fx_isS k = true) : ∃ i, i < 23 ∧ k = 1000 + i := by
  simp only [fx_isS, Bool.and_eq_true, decide_eq_true_eq] at h
  exact ⟨k - 1000, by omega, by omega⟩
theorem kx_len : ∀ i, i < 23 → (kx_b i).length ≤ 10 := by decide
section FXS
variable {G : fxG} {mt : fxM} {Q : Option Value → fxMem → Prop} {lv : List (Nat × Value)} {st : List Value} {M : fxMem} {idx : Nat}
theorem fx_getCS (pc : Nat) (hd : decode mt.2.1 pc = .ok (.getstatic idx, 3)) (hlink : Cond.fieldLink mt.1.cls idx "java/lang/String" "COMPACT_STRINGS" "Z" ∈ wsL_law) (kk : fx_V G mt Q (pc + 3) lv (.int 1 :: st) M) : fx_V G mt Q pc lv st M :=
  fun p l e s m args below meth c E X H locs ls hP hS hl => va_gets X.1 X.2.1 X.2.2.2.2.2.2.2.2.2.2.1 hS X.2.2.2.2.1 (X.2.2.2.2.2.1 _ hlink) (fun _ h => h) hd (kk p l e s m args below meth c E X H locs ls hP hS hl)
theorem fx_getFm (pc : Nat) (hd : decode mt.2.1 pc = .ok (.getstatic idx, 3)) (hlink : Cond.fieldLink mt.1.cls idx "jdk/internal/util/Preconditions" "SIOOBE_FORMATTER" "Ljava/util/function/BiFunction;" ∈ wsL_law) (kk : fx_V G mt Q (pc + 3) lv (.float 0 :: st) M) : fx_V G mt Q pc lv st M :=
  fun p l e s m args below meth c E X H locs ls hP hS hl => va_gets X.1 X.2.1 X.2.2.2.2.2.2.2.2.2.2.2.1 hS X.2.2.2.2.1 (X.2.2.2.2.2.1 _ hlink) (fun _ h => h) hd (kk p l e s m args below meth c E X H locs ls hP hS hl)
theorem fx_strv (pc : Nat) {i : Nat} (hi : i < 23) (hd : decode mt.2.1 pc = .ok (.getfield idx, 3)) (hlink : Cond.fieldLink mt.1.cls idx "java/lang/String" "value" "[B" ∈ wsL_law) (kk : fx_V G mt Q (pc + 3) lv (.ref (2000 + i) :: st) M) : fx_V G mt Q pc lv (.ref (1000 + i) :: st) M :=
  fun p l e s m args below meth c E X H locs ls hP hS hl => vk_getf X.1 X.2.1 (X.2.2.2.2.2.2.2.2.2.1 i hi).1.2.2.1 hS X.2.2.2.2.1 (X.2.2.2.2.2.1 _ hlink) (fun _ h => h) hd (kk p l e s m args below meth c E X H locs ls hP hS hl)
theorem fx_strc (pc : Nat) {i : Nat} (hi : i < 23) (hd : decode mt.2.1 pc = .ok (.getfield idx, 3)) (hlink : Cond.fieldLink mt.1.cls idx "java/lang/String" "coder" "B" ∈ wsL_law) (kk : fx_V G mt Q (pc + 3) lv (.int 0 :: st) M) : fx_V G mt Q pc lv (.ref (1000 + i) :: st) M :=
  fun p l e s m args below meth c E X H locs ls hP hS hl => vk_getf X.1 X.2.1 (X.2.2.2.2.2.2.2.2.2.1 i hi).1.2.1 hS X.2.2.2.2.1 (X.2.2.2.2.2.1 _ hlink) (fun _ h => h) hd (kk p l e s m args below meth c E X H locs ls hP hS hl)
theorem fx_stral (pc : Nat) {i : Nat} (hi : i < 23) (hd : decode mt.2.1 pc = .ok (.arraylength, 1)) (kk : fx_V G mt Q (pc + 1) lv (.int (nI (kx_b i).length) :: st) M) : fx_V G mt Q pc lv (.ref (2000 + i) :: st) M :=
  fun p l e s m args below meth c E X H locs ls hP hS hl => va_tlen X.1 X.2.1 (X.2.2.2.2.2.2.2.2.2.1 i hi).1.2.2.2 hS rfl hd (kk p l e s m args below meth c E X H locs ls hP hS hl)
theorem fx_strb (pc : Nat) {i : Nat} {j : Int32} (hi : i < 23) (hj : fx_in j (kx_b i).length = true) (hd : decode mt.2.1 pc = .ok (.baload, 1)) (kk : fx_V G mt Q (pc + 1) lv (.int ((kx_b i).getD j.toNatClampNeg 0) :: st) M) : fx_V G mt Q pc lv (.int j :: .ref (2000 + i) :: st) M :=
  fun p l e s m args below meth c E X H locs ls hP hS hl => va_tb X.1 X.2.1 (X.2.2.2.2.2.2.2.2.2.1 i hi).1.2.2.2 hS (fx_in_ok hj) rfl hd (kk p l e s m args below meth c E X H locs ls hP hS hl)
end FXS
theorem tJ_coder (G : fxG) {i : Nat} (hi : i < 23) (M : fxMem) : fx_T G mJ0_coder_7d493 [.ref (1000 + i)] M (fx_ri (0, M)) := by
  refine fx_enter [(0, .ref (1000 + i))] (by decide) (fun _ => rfl) (fun _ => Nat.le_of_ble_eq_true rfl) ?_
  refine fx_getCS 0 dJ0_coder_7d493_0 lfJ0_38 ?_
  refine fx_if_eq 3 13 dJ0_coder_7d493_3 (by decide) (fun c => absurd c (by decide)) (fun _ => ?_)
  refine fx_aload_n 6 dJ0_coder_7d493_6 rfl 0 rfl ?_
  refine fx_strc 7 hi dJ0_coder_7d493_7 lfJ0_15 ?_
  refine fx_goto 10 14 dJ0_coder_7d493_10 (by decide) ?_
  exact fx_iret 14 dJ0_coder_7d493_14 rfl rfl ⟨rfl, rfl⟩
theorem tJ_latin (G : fxG) {i : Nat} (hi : i < 23) (M : fxMem) : fx_T G mJ0_isLatin1_aae02 [.ref (1000 + i)] M (fx_ri (1, M)) := by
  refine fx_enter [(0, .ref (1000 + i))] (by decide) (fun _ => rfl) (fun _ => Nat.le_of_ble_eq_true rfl) ?_
  refine fx_getCS 0 dJ0_isLatin1_aae02_0 lfJ0_38 ?_
  refine fx_if_eq 3 17 dJ0_isLatin1_aae02_3 (by decide) (fun c => absurd c (by decide)) (fun _ => ?_)
  refine fx_aload_n 6 dJ0_isLatin1_aae02_6 rfl 0 rfl ?_
  refine fx_strc 7 hi dJ0_isLatin1_aae02_7 lfJ0_15 ?_
  refine fx_if_ne 10 17 dJ0_isLatin1_aae02_10 (by decide) (fun c => absurd rfl c) (fun _ => ?_)
  refine fx_iconst 13 (x := 1) dJ0_isLatin1_aae02_13 (by decide) ?_
  refine fx_goto 14 18 dJ0_isLatin1_aae02_14 (by decide) ?_
  exact fx_iret 18 dJ0_isLatin1_aae02_18 rfl rfl ⟨rfl, rfl⟩
theorem tJ_length (G : fxG) {i : Nat} (hi : i < 23) (M : fxMem) : fx_T G mJ0_length_8abf5 [.ref (1000 + i)] M (fx_ri (nI (kx_b i).length, M)) := by
  have hL := kx_len i hi
  refine fx_enter [(0, .ref (1000 + i))] (by decide) (fun _ => rfl) (fun _ => Nat.le_of_ble_eq_true rfl) ?_
  refine fx_aload_n 0 dJ0_length_8abf5_0 rfl 0 rfl ?_
  refine fx_strv 1 hi dJ0_length_8abf5_1 lfJ0_9 ?_
  refine fx_stral 4 hi dJ0_length_8abf5_4 ?_
  refine fx_aload_n 5 dJ0_length_8abf5_5 rfl 0 rfl ?_
  refine fx_callSti 6 (mt' := mJ0_coder_7d493) (As := []) hi rfl okvJ0_coder_7d493 lmJ0_335 (by decide) rfl rfl (Nat.le_of_ble_eq_true rfl) dJ0_length_8abf5_6 (tJ_coder G hi M) ?_
  refine fx_ishr 9 dJ0_length_8abf5_9 ?_
  rw [sc_shr0 (by omega)]
  exact fx_iret 10 dJ0_length_8abf5_10 rfl rfl ⟨rfl, rfl⟩
theorem tJ_check3 (G : fxG) {k n : Int32} (h0 : ¬ k < 0) (h1 : k < n) (M : fxMem) : fx_T G mJ3_checkIndex_8e157 [.int k, .int n, .float 0] M (fx_ri (k, M)) := by
  refine fx_enter [(0, .int k), (1, .int n), (2, .float 0)] (by decide) (fun _ => rfl) (fun E => by
    obtain ⟨a, b, c, d, f⟩ := E
    cases f <;> exact Nat.le_of_ble_eq_true rfl) ?_
  refine fx_iload_n 0 dJ3_checkIndex_8e157_0 rfl 0 rfl ?_
  refine fx_if_lt 1 9 dJ3_checkIndex_8e157_1 (by decide) (fun c => absurd c h0) (fun _ => ?_)
  refine fx_iload_n 4 dJ3_checkIndex_8e157_4 rfl 0 rfl ?_
  refine fx_iload_n 5 dJ3_checkIndex_8e157_5 rfl 1 rfl ?_
  refine fx_icmp_lt 6 16 dJ3_checkIndex_8e157_6 (by decide) (fun _ => ?_) (fun c => absurd h1 c)
  refine fx_iload_n 16 dJ3_checkIndex_8e157_16 rfl 0 rfl ?_
  exact fx_iret 17 dJ3_checkIndex_8e157_17 rfl rfl ⟨rfl, rfl⟩
theorem tJ_check0 (G : fxG) {k n : Int32} (h0 : ¬ k < 0) (h1 : k < n) (M : fxMem) : fx_T G mJ0_checkIndex_df160 [.int k, .int n] M (fx_rv M) := by
  refine fx_enter [(0, .int k), (1, .int n)] (by decide) (fun _ => rfl) (fun _ => Nat.le_of_ble_eq_true rfl) ?_
  refine fx_iload_n 0 dJ0_checkIndex_df160_0 rfl 0 rfl ?_
  refine fx_iload_n 1 dJ0_checkIndex_df160_1 rfl 1 rfl ?_
  refine fx_getFm 2 dJ0_checkIndex_df160_2 lfJ0_1053 ?_
  refine fx_callSi 5 (mt' := mJ3_checkIndex_8e157) (As := [.int k, .int n, .float 0]) oksJ3_checkIndex_8e157 lmJ0_1059 (by decide) rfl rfl (Nat.le_of_ble_eq_true rfl) dJ0_checkIndex_df160_5 (tJ_check3 G h0 h1 M) ?_
  refine fx_pop 8 dJ0_checkIndex_df160_8 rfl ?_
  exact fx_vret 9 dJ0_checkIndex_df160_9 rfl ⟨rfl, rfl⟩
theorem fx_in_lt {k : Int32} {n : Nat} (hn : n < 2 ^ 31) (h : fx_in k n = true) : ¬ k < 0 ∧ k < nI n := by
  simp only [fx_in, Bool.and_eq_true, decide_eq_true_eq] at h
  have h0 : ¬ k < 0 := Int32.not_lt.mpr h.1
  obtain ⟨j, hj, rfl⟩ := nI_of h0
  rw [nI_clamp hj] at h
  exact ⟨h0, nI_lt h.2 hn⟩
theorem tJ_charAt1 (G : fxG) {i : Nat} {k : Int32} (hi : i < 23) (hk : fx_in k (kx_b i).length = true) (M : fxMem) : fx_T G mJ1_charAt_3b067 [.ref (2000 + i), .int k] M (fx_ri ((kx_b i).getD k.toNatClampNeg 0 &&& 255, M)) := by
  have hL := kx_len i hi
  obtain ⟨h0, h1⟩ := fx_in_lt (by omega) hk
  refine fx_enter [(0, .ref (2000 + i)), (1, .int k)] (by decide) (fun _ => rfl) (fun _ => Nat.le_of_ble_eq_true rfl) ?_
  refine fx_iload_n 0 dJ1_charAt_3b067_0 rfl 1 rfl ?_
  refine fx_aload_n 1 dJ1_charAt_3b067_1 rfl 0 rfl ?_
  refine fx_stral 2 hi dJ1_charAt_3b067_2 ?_
  refine fx_callS 3 (mt' := mJ0_checkIndex_df160) (As := [.int k, .int (nI (kx_b i).length)]) oksJ0_checkIndex_df160 lmJ1_9 (by decide) rfl rfl (Nat.le_of_ble_eq_true rfl) dJ1_charAt_3b067_3 (tJ_check0 G h0 h1 M) (fun v M' q => ?_)
  obtain ⟨rfl, rfl⟩ := q
  show fx_V _ _ _ 6 _ [] _
  refine fx_aload_n 6 dJ1_charAt_3b067_6 rfl 0 rfl ?_
  refine fx_iload_n 7 dJ1_charAt_3b067_7 rfl 1 rfl ?_
  refine fx_strb 8 hi hk dJ1_charAt_3b067_8 ?_
  refine fx_sipush 9 (x := 255) dJ1_charAt_3b067_9 (by decide) ?_
  refine fx_iand 12 dJ1_charAt_3b067_12 ?_
  refine fx_i2c 13 dJ1_charAt_3b067_13 ?_
  rw [sc_c2]
  exact fx_iret 14 dJ1_charAt_3b067_14 rfl (sc_nar _) ⟨rfl, rfl⟩
theorem tJ_charAt (G : fxG) {i : Nat} {k : Int32} (hi : i < 23) (hk : fx_in k (kx_b i).length = true) (M : fxMem) : fx_T G mJ0_charAt_5068e [.ref (1000 + i), .int k] M (fx_ri ((kx_b i).getD k.toNatClampNeg 0 &&& 255, M)) := by
  refine fx_enter [(0, .ref (1000 + i)), (1, .int k)] (by decide) (fun _ => rfl) (fun _ => Nat.le_of_ble_eq_true rfl) ?_
  refine fx_aload_n 0 dJ0_charAt_5068e_0 rfl 0 rfl ?_
  refine fx_callSti 1 (mt' := mJ0_isLatin1_aae02) (As := []) hi rfl okvJ0_isLatin1_aae02 lmJ0_492 (by decide) rfl rfl (Nat.le_of_ble_eq_true rfl) dJ0_charAt_5068e_1 (tJ_latin G hi M) ?_
  refine fx_if_eq 4 16 dJ0_charAt_5068e_4 (by decide) (fun c => absurd c (show ¬ (1 : Int32) = 0 by decide)) (fun _ => ?_)
  refine fx_aload_n 7 dJ0_charAt_5068e_7 rfl 0 rfl ?_
  refine fx_strv 8 hi dJ0_charAt_5068e_8 lfJ0_9 ?_
  refine fx_iload_n 11 dJ0_charAt_5068e_11 rfl 1 rfl ?_
  refine fx_callSi 12 (mt' := mJ1_charAt_3b067) (As := [.ref (2000 + i), .int k]) oksJ1_charAt_3b067 lmJ0_495 (by decide) rfl rfl (Nat.le_of_ble_eq_true rfl) dJ0_charAt_5068e_12 (tJ_charAt1 G hi hk M) ?_
  exact fx_iret 15 dJ0_charAt_5068e_15 rfl (sc_nar _) ⟨rfl, rfl⟩
theorem tJ_canEnc (G : fxG) (c : Int32) (M : fxMem) : fx_T G mJ1_canEncode_9a6ad [.int c] M (fx_ri (if c < 0 then 0 else if 255 < c then 0 else 1, M)) := by
  refine fx_enter [(0, .int c)] (by decide) (fun _ => rfl) (fun _ => Nat.le_of_ble_eq_true rfl) ?_
  refine fx_iload_n 0 dJ1_canEncode_9a6ad_0 rfl 0 rfl ?_
  refine fx_if_lt 1 15 dJ1_canEncode_9a6ad_1 (by decide) (fun h => ?_) (fun h => ?_)
  · rw [if_pos h]
    refine fx_iconst 15 (x := 0) dJ1_canEncode_9a6ad_15 (by decide) ?_
    exact fx_iret 16 dJ1_canEncode_9a6ad_16 rfl rfl ⟨rfl, rfl⟩
  · rw [if_neg h]
    refine fx_iload_n 4 dJ1_canEncode_9a6ad_4 rfl 0 rfl ?_
    refine fx_sipush 5 (x := 255) dJ1_canEncode_9a6ad_5 (by decide) ?_
    refine fx_icmp_gt 8 15 dJ1_canEncode_9a6ad_8 (by decide) (fun h => ?_) (fun h => ?_)
    · rw [if_pos h]
      refine fx_iconst 15 (x := 0) dJ1_canEncode_9a6ad_15 (by decide) ?_
      exact fx_iret 16 dJ1_canEncode_9a6ad_16 rfl rfl ⟨rfl, rfl⟩
    · rw [if_neg h]
      refine fx_iconst 11 (x := 1) dJ1_canEncode_9a6ad_11 (by decide) ?_
      refine fx_goto 12 16 dJ1_canEncode_9a6ad_12 (by decide) ?_
      exact fx_iret 16 dJ1_canEncode_9a6ad_16 rfl rfl ⟨rfl, rfl⟩
theorem vJ_ixc (G : fxG) {i : Nat} {b c x2 : Int32} (hi : i < 23) (M : fxMem) : ∀ (l : List Int32) (k : Nat), (kx_b i).drop k = l → k ≤ (kx_b i).length → fx_V G mJ1_indexOfChar_4cfef (fx_ri (kx_ix b l k, M)) 7 [(5, .int (nI k)), (4, .int b), (0, .ref (2000 + i)), (1, .int c), (2, .int x2), (3, .int (nI (kx_b i).length))] [] M := by
  have hL := kx_len i hi
  intro l
  induction l with
  | nil =>
    intro k e hk
    have q : (kx_b i).length ≤ k := List.drop_eq_nil_iff.mp e
    refine fx_iload 7 dJ1_indexOfChar_4cfef_7 0 rfl ?_
    refine fx_iload_n 9 dJ1_indexOfChar_4cfef_9 rfl 5 rfl ?_
    refine fx_icmp_ge 10 31 dJ1_indexOfChar_4cfef_10 (by decide) (fun _ => ?_) (fun z => absurd (nI_le q (by omega)) z)
    refine fx_iconst 31 (x := -1) dJ1_indexOfChar_4cfef_31 (by decide) ?_
    exact fx_iret 32 dJ1_indexOfChar_4cfef_32 rfl rfl ⟨rfl, rfl⟩
  | cons a l ih =>
    intro k e hk
    obtain ⟨h1, h2, h3, -⟩ := sc_dropC e
    have hin : fx_in (nI k) (kx_b i).length = true := by
      simp only [fx_in, Bool.and_eq_true, decide_eq_true_eq]
      exact ⟨nI_pos' (by omega), by rw [nI_clamp (by omega)]; exact h1⟩
    refine fx_iload 7 dJ1_indexOfChar_4cfef_7 0 rfl ?_
    refine fx_iload_n 9 dJ1_indexOfChar_4cfef_9 rfl 5 rfl ?_
    refine fx_icmp_ge 10 31 dJ1_indexOfChar_4cfef_10 (by decide) (fun z => absurd z (nI_ge h1 (by omega))) (fun _ => ?_)
    refine fx_aload_n 13 dJ1_indexOfChar_4cfef_13 rfl 2 rfl ?_
    refine fx_iload 14 dJ1_indexOfChar_4cfef_14 0 rfl ?_
    refine fx_strb 16 hi hin dJ1_indexOfChar_4cfef_16 ?_
    rw [nI_clamp (by omega), h2]
    refine fx_iload 17 dJ1_indexOfChar_4cfef_17 1 rfl ?_
    refine fx_icmp_ne 19 25 dJ1_indexOfChar_4cfef_19 (by decide) (fun z => ?_) (fun z => ?_)
    · rw [kx_ix, if_neg z]
      refine fx_iinc 25 (lv' := [(5, .int (nI (k + 1))), (4, .int b), (0, .ref (2000 + i)), (1, .int c), (2, .int x2), (3, .int (nI (kx_b i).length))]) (y := nI (k + 1)) dJ1_indexOfChar_4cfef_25 0 rfl (by rw [nI_succ]; rfl) (by decide) rfl ?_
      refine fx_goto 28 7 dJ1_indexOfChar_4cfef_28 (by decide) ?_
      exact ih (k + 1) h3 (by omega)
    · rw [kx_ix, if_pos z]
      refine fx_iload 22 dJ1_indexOfChar_4cfef_22 0 rfl ?_
      exact fx_iret 24 dJ1_indexOfChar_4cfef_24 rfl rfl ⟨rfl, rfl⟩
theorem tJ_ixc (G : fxG) {i : Nat} {c : Int32} (hi : i < 23) (M : fxMem) : fx_T G mJ1_indexOfChar_4cfef [.ref (2000 + i), .int c, .int 0, .int (nI (kx_b i).length)] M (fx_ri (kx_ix c.toInt8.toInt32 (kx_b i) 0, M)) := by
  refine fx_enter [(0, .ref (2000 + i)), (1, .int c), (2, .int 0), (3, .int (nI (kx_b i).length))] (by decide) (fun _ => rfl) (fun _ => Nat.le_of_ble_eq_true rfl) ?_
  refine fx_iload_n 0 dJ1_indexOfChar_4cfef_0 rfl 1 rfl ?_
  refine fx_i2b 1 dJ1_indexOfChar_4cfef_1 ?_
  refine fx_istore 2 (lv' := [(4, .int c.toInt8.toInt32), (0, .ref (2000 + i)), (1, .int c), (2, .int 0), (3, .int (nI (kx_b i).length))]) dJ1_indexOfChar_4cfef_2 (by decide) rfl ?_
  refine fx_iload_n 4 dJ1_indexOfChar_4cfef_4 rfl 3 rfl ?_
  refine fx_istore 5 (lv' := [(5, .int 0), (4, .int c.toInt8.toInt32), (0, .ref (2000 + i)), (1, .int c), (2, .int 0), (3, .int (nI (kx_b i).length))]) dJ1_indexOfChar_4cfef_5 (by decide) rfl ?_
  exact vJ_ixc G hi M _ 0 rfl (Nat.zero_le _)
theorem tJ_ix1 (G : fxG) {i : Nat} {c : Int32} (hi : i < 23) (M : fxMem) : fx_T G mJ1_indexOf_4cfef [.ref (2000 + i), .int c, .int 0, .int (nI (kx_b i).length)] M (fx_ri (kx_i (1000 + i) c, M)) := by
  have hL := kx_len i hi
  have e0 : 1000 + i - 1000 = i := by omega
  refine fx_enter [(0, .ref (2000 + i)), (1, .int c), (2, .int 0), (3, .int (nI (kx_b i).length))] (by decide) (fun _ => rfl) (fun _ => Nat.le_of_ble_eq_true rfl) ?_
  refine fx_iload_n 0 dJ1_indexOf_4cfef_0 rfl 1 rfl ?_
  refine fx_callSi 1 (mt' := mJ1_canEncode_9a6ad) (As := [.int c]) oksJ1_canEncode_9a6ad lmJ1_88 (by decide) rfl rfl (Nat.le_of_ble_eq_true rfl) dJ1_indexOf_4cfef_1 (tJ_canEnc G c M) ?_
  rw [kx_i, e0]
  by_cases h0 : c < 0
  · rw [if_pos h0, if_pos h0]
    refine fx_if_ne 4 9 dJ1_indexOf_4cfef_4 (by decide) (fun z => absurd rfl z) (fun _ => ?_)
    refine fx_iconst 7 (x := -1) dJ1_indexOf_4cfef_7 (by decide) ?_
    exact fx_iret 8 dJ1_indexOf_4cfef_8 rfl rfl ⟨rfl, rfl⟩
  · rw [if_neg h0, if_neg h0]
    by_cases h1 : 255 < c
    · rw [if_pos h1, if_pos h1]
      refine fx_if_ne 4 9 dJ1_indexOf_4cfef_4 (by decide) (fun z => absurd rfl z) (fun _ => ?_)
      refine fx_iconst 7 (x := -1) dJ1_indexOf_4cfef_7 (by decide) ?_
      exact fx_iret 8 dJ1_indexOf_4cfef_8 rfl rfl ⟨rfl, rfl⟩
    · rw [if_neg h1, if_neg h1]
      refine fx_if_ne 4 9 dJ1_indexOf_4cfef_4 (by decide) (fun _ => ?_) (fun z => absurd z (show ¬ (1 : Int32) = 0 by decide))
      refine fx_iload_n 9 dJ1_indexOf_4cfef_9 rfl 2 rfl ?_
      refine fx_iconst 10 (x := 0) dJ1_indexOf_4cfef_10 (by decide) ?_
      refine fx_mmax 11 dJ1_indexOf_4cfef_11 lmJ1_92 (by decide) (Nat.le_of_ble_eq_true rfl) ?_
      rw [if_neg (by decide)]
      refine fx_istore_n 14 (lv' := [(2, .int 0), (0, .ref (2000 + i)), (1, .int c), (3, .int (nI (kx_b i).length))]) dJ1_indexOf_4cfef_14 rfl (by decide) rfl ?_
      refine fx_iload_n 15 dJ1_indexOf_4cfef_15 rfl 3 rfl ?_
      refine fx_aload_n 16 dJ1_indexOf_4cfef_16 rfl 1 rfl ?_
      refine fx_stral 17 hi dJ1_indexOf_4cfef_17 ?_
      refine fx_mmin 18 dJ1_indexOf_4cfef_18 lmJ1_38 (by decide) (Nat.le_of_ble_eq_true rfl) ?_
      rw [ite_self]
      refine fx_istore_n 21 (lv' := [(3, .int (nI (kx_b i).length)), (2, .int 0), (0, .ref (2000 + i)), (1, .int c)]) dJ1_indexOf_4cfef_21 rfl (by decide) rfl ?_
      refine fx_iload_n 22 dJ1_indexOf_4cfef_22 rfl 1 rfl ?_
      refine fx_iload_n 23 dJ1_indexOf_4cfef_23 rfl 0 rfl ?_
      refine fx_icmp_lt 24 29 dJ1_indexOf_4cfef_24 (by decide) (fun _ => ?_) (fun z => ?_)
      · refine fx_aload_n 29 dJ1_indexOf_4cfef_29 rfl 2 rfl ?_
        refine fx_iload_n 30 dJ1_indexOf_4cfef_30 rfl 3 rfl ?_
        refine fx_iload_n 31 dJ1_indexOf_4cfef_31 rfl 1 rfl ?_
        refine fx_iload_n 32 dJ1_indexOf_4cfef_32 rfl 0 rfl ?_
        refine fx_callSi 33 (mt' := mJ1_indexOfChar_4cfef) (As := [.ref (2000 + i), .int c, .int 0, .int (nI (kx_b i).length)]) oksJ1_indexOfChar_4cfef lmJ1_95 (by decide) rfl rfl (Nat.le_of_ble_eq_true rfl) dJ1_indexOf_4cfef_33 (tJ_ixc G hi M) ?_
        exact fx_iret 36 dJ1_indexOf_4cfef_36 rfl rfl ⟨rfl, rfl⟩
      · have e : kx_b i = [] := by
          cases hb : kx_b i with
          | nil => rfl
          | cons a l =>
            rw [hb] at z hL
            exact absurd (nI_lt (a := 0) (b := (a :: l).length) (by simp) (by omega)) z
        refine fx_iconst 27 (x := -1) dJ1_indexOf_4cfef_27 (by decide) ?_
        rw [e]
        exact fx_iret 28 dJ1_indexOf_4cfef_28 rfl rfl ⟨rfl, rfl⟩
theorem tJ_ix2 (G : fxG) {i : Nat} {c : Int32} (hi : i < 23) (M : fxMem) : fx_T G mJ0_indexOf_7cf53 [.ref (1000 + i), .int c, .int 0] M (fx_ri (kx_i (1000 + i) c, M)) := by
  refine fx_enter [(0, .ref (1000 + i)), (1, .int c), (2, .int 0)] (by decide) (fun _ => rfl) (fun _ => Nat.le_of_ble_eq_true rfl) ?_
  refine fx_aload_n 0 dJ0_indexOf_7cf53_0 rfl 0 rfl ?_
  refine fx_callSti 1 (mt' := mJ0_isLatin1_aae02) (As := []) hi rfl okvJ0_isLatin1_aae02 lmJ0_492 (by decide) rfl rfl (Nat.le_of_ble_eq_true rfl) dJ0_indexOf_7cf53_1 (tJ_latin G hi M) ?_
  refine fx_if_eq 4 23 dJ0_indexOf_7cf53_4 (by decide) (fun c => absurd c (show ¬ (1 : Int32) = 0 by decide)) (fun _ => ?_)
  refine fx_aload_n 7 dJ0_indexOf_7cf53_7 rfl 0 rfl ?_
  refine fx_strv 8 hi dJ0_indexOf_7cf53_8 lfJ0_9 ?_
  refine fx_iload_n 11 dJ0_indexOf_7cf53_11 rfl 1 rfl ?_
  refine fx_iload_n 12 dJ0_indexOf_7cf53_12 rfl 2 rfl ?_
  refine fx_aload_n 13 dJ0_indexOf_7cf53_13 rfl 0 rfl ?_
  refine fx_callSti 14 (mt' := mJ0_length_8abf5) (As := []) hi rfl okvJ0_length_8abf5 lmJ0_505 (by decide) rfl rfl (Nat.le_of_ble_eq_true rfl) dJ0_indexOf_7cf53_14 (tJ_length G hi M) ?_
  refine fx_callSi 17 (mt' := mJ1_indexOf_4cfef) (As := [.ref (2000 + i), .int c, .int 0, .int (nI (kx_b i).length)]) oksJ1_indexOf_4cfef lmJ0_637 (by decide) rfl rfl (Nat.le_of_ble_eq_true rfl) dJ0_indexOf_7cf53_17 (tJ_ix1 G hi M) ?_
  refine fx_goto 20 36 dJ0_indexOf_7cf53_20 (by decide) ?_
  exact fx_iret 36 dJ0_indexOf_7cf53_36 rfl rfl ⟨rfl, rfl⟩
theorem tJ_ix (G : fxG) {i : Nat} {c : Int32} (hi : i < 23) (M : fxMem) : fx_T G mJ0_indexOf_0f7a4 [.ref (1000 + i), .int c] M (fx_ri (kx_i (1000 + i) c, M)) := by
  refine fx_enter [(0, .ref (1000 + i)), (1, .int c)] (by decide) (fun _ => rfl) (fun _ => Nat.le_of_ble_eq_true rfl) ?_
  refine fx_aload_n 0 dJ0_indexOf_0f7a4_0 rfl 0 rfl ?_
  refine fx_iload_n 1 dJ0_indexOf_0f7a4_1 rfl 1 rfl ?_
  refine fx_iconst 2 (x := 0) dJ0_indexOf_0f7a4_2 (by decide) ?_
  refine fx_callSti 3 (mt' := mJ0_indexOf_7cf53) (As := [.int c, .int 0]) hi rfl okvJ0_indexOf_7cf53 lmJ0_633 (by decide) rfl rfl (Nat.le_of_ble_eq_true rfl) dJ0_indexOf_0f7a4_3 (tJ_ix2 G hi M) ?_
  exact fx_iret 6 dJ0_indexOf_0f7a4_6 rfl rfl ⟨rfl, rfl⟩
section FXT
variable {G : fxG} {mt : fxM} {Q : Option Value → fxMem → Prop} {lv : List (Nat × Value)} {st : List Value} {M : fxMem} {idx : Nat}
theorem fx_slen (pc : Nat) {k : Nat} (hk : fx_isS k = true) (hd : decode mt.2.1 pc = .ok (.invokevirtual idx, 3)) (hlink : Cond.methodLink mt.1.cls idx yJ0_length_8abf5 ∈ wsL_law) (hR : 3 ≤ mt.2.2.2.2.1 ∧ 100 ≤ mt.2.2.2.2.2) (hw : (st.map fun v => v.category).sum ≤ 8) (kk : fx_V G mt Q (pc + 3) lv (.int (kx_l k) :: st) M) : fx_V G mt Q pc lv (.ref k :: st) M := by
  obtain ⟨i, hi, rfl⟩ := fx_isS_ok hk
  have e0 : 1000 + i - 1000 = i := by omega
  refine fx_callSti pc (mt' := mJ0_length_8abf5) (As := []) hi rfl okvJ0_length_8abf5 hlink ⟨hR.1, by show 8 + (1 + 11) + 80 ≤ _; exact hR.2⟩ rfl rfl hw hd (tJ_length G hi M) ?_
  rw [kx_l, e0] at kk
  exact kk
theorem fx_schar (pc : Nat) {k : Nat} {x : Int32} (hk : fx_isS k = true) (hx : fx_in x (kx_b (k - 1000)).length = true) (hd : decode mt.2.1 pc = .ok (.invokevirtual idx, 3)) (hlink : Cond.methodLink mt.1.cls idx yJ0_charAt_5068e ∈ wsL_law) (hR : 5 ≤ mt.2.2.2.2.1 ∧ 181 ≤ mt.2.2.2.2.2) (hw : (st.map fun v => v.category).sum ≤ 8) (kk : fx_V G mt Q (pc + 3) lv (.int (kx_c k x) :: st) M) : fx_V G mt Q pc lv (.int x :: .ref k :: st) M := by
  obtain ⟨i, hi, rfl⟩ := fx_isS_ok hk
  have e0 : 1000 + i - 1000 = i := by omega
  rw [e0] at hx
  refine fx_callSti pc (mt' := mJ0_charAt_5068e) (As := [.int x]) hi rfl okvJ0_charAt_5068e hlink ⟨hR.1, by show 8 + (2 + 11) + 160 ≤ _; exact hR.2⟩ rfl rfl hw hd (tJ_charAt G hi hx M) ?_
  rw [kx_c, e0] at kk
  exact kk
theorem fx_sidx (pc : Nat) {k : Nat} {x : Int32} (hk : fx_isS k = true) (hd : decode mt.2.1 pc = .ok (.invokevirtual idx, 3)) (hlink : Cond.methodLink mt.1.cls idx yJ0_indexOf_0f7a4 ∈ wsL_law) (hR : 5 ≤ mt.2.2.2.2.1 ∧ 181 ≤ mt.2.2.2.2.2) (hw : (st.map fun v => v.category).sum ≤ 8) (kk : fx_V G mt Q (pc + 3) lv (.int (kx_i k x) :: st) M) : fx_V G mt Q pc lv (.int x :: .ref k :: st) M := by
  obtain ⟨i, hi, rfl⟩ := fx_isS_ok hk
  exact fx_callSti pc (mt' := mJ0_indexOf_0f7a4) (As := [.int x]) hi rfl okvJ0_indexOf_0f7a4 hlink ⟨hR.1, by show 8 + (2 + 11) + 160 ≤ _; exact hR.2⟩ rfl rfl hw hd (tJ_ix G hi M) kk
def fx_fit (M : fxMem) (k n : Nat) : Bool := (List.range n).all (fun i => fits .byte (.int (M k i)))
theorem fx_fit_ok {k n : Nat} (h : fx_fit M k n = true) : ∀ i, i < n → fits .byte (.int (M k i)) = true := fun i hi => List.all_eq_true.mp h i (List.mem_range.mpr hi)
theorem fx_copyz (pc nn : Nat) {k0 k1 t : Nat} {x : Int32} (ty : FieldType) (ok0 : fx_arr G k0 t nn) (ok1 : fx_arr G k1 t nn) (ht : ∀ E : fxE, (fx_tys E)[t]? = some (E.2.2.2.1 t, ty)) (hprim : refKind ty = false) (hx : x.toNatClampNeg = nn) (hx0 : ¬ x < 0) (h0 : ¬ (0 : Int32) < 0) (hfit : ∀ i, i < nn → fits ty (.int (M k0 i)) = true)
    (hd : decode mt.2.1 pc = .ok (.invokestatic idx, 3)) (hlink : Cond.methodLink mt.1.cls idx arraycopyName ∈ wsL_law) (hf : 1 ≤ mt.2.2.2.2.1) (hlo : (st.map fun v => v.category).sum + (nativeFrameWords "java/lang/System" "arraycopy" 5 + 11) ≤ mt.2.2.2.2.2)
    (kk : fx_V G mt Q (pc + 3) lv st (fx_cp M k0 k1 nn)) : fx_V G mt Q pc lv (.int x :: .int 0 :: .ref k1 :: .int 0 :: .ref k0 :: st) M := by
  have z0 : (0 : Int32).toNatClampNeg = 0 := rfl
  refine fx_copy pc ty ok0 ok1 ht hprim h0 h0 hx0 (by rw [z0, hx]; omega) (by rw [z0, hx]; omega) (fun i hi => by rw [z0, Nat.zero_add]; exact hfit i (by omega)) hd hlink hf hlo ?_
  rw [z0, hx]
  exact kk
end FXT
end
section
def mX6_isBelow : fxM := (yX6_isBelow, cX6_isBelow, 2, (some .boolean), 2, 80)
theorem oksX6_isBelow (f l : Nat) : fx_okS (yX6_isBelow, cX6_isBelow, 2, (some .boolean), f, l) 2 := ⟨⟨rin18 _ (List.mem_of_getElem? (i := 4) rfl), rin1 _ (List.mem_of_getElem? (i := 2) rfl), by show yX6_isBelow.cls ≠ _; decide +kernel, by show yX6_isBelow.cls ≠ _; decide +kernel, by show (parseMethodDescriptor yX6_isBelow.desc).map _ = _; decide +kernel⟩, rin18 _ (List.mem_of_getElem? (i := 3) rfl)⟩
def CX6_isBelow (x0 : Int32) (x1 : Int32) (M : fxMem) : Option (Int32 × fxMem) := some ((if x0 < (0 : Int32) then (0 : Int32) else (if x1 ≤ x0 then (0 : Int32) else (1 : Int32))), M)
set_option maxRecDepth 100000 in
set_option maxHeartbeats 4000000 in
theorem tX6_isBelow {x0 : Int32} {x1 : Int32} {M : fxMem} {R : Int32 × fxMem} (h : CX6_isBelow x0 x1 M = some R) : fx_T gC mX6_isBelow [.int x0, .int x1] M (fx_ri R) := by
  rw [CX6_isBelow] at h
  refine fx_enter [(0, .int x0), (1, .int x1)] (by decide) (fun _ => rfl) (fun _ => Nat.le_of_ble_eq_true rfl) ?_
  refine fx_iload_n 0 dX6_isBelow_0 rfl 0 rfl ?_
  have J : fx_V gC mX6_isBelow (fx_ri R) 14 [(0, .int x0), (1, .int x1)] [.int (if x0 < (0 : Int32) then (0 : Int32) else (if x1 ≤ x0 then (0 : Int32) else (1 : Int32)))] M := by
    cases h
    exact fx_iret 14 dX6_isBelow_14 rfl (by (repeat' split) <;> rfl) ⟨rfl, rfl⟩
  refine fx_if_lt 1 13 dX6_isBelow_1 (by decide) (fun c1 => ?_) (fun c1 => ?_)
  · refine fx_iconst 13 (x := (0 : Int32)) dX6_isBelow_13 (by decide) ?_
    have J2 := J
    try simp only [if_pos c1] at J2
    exact fx_sub [0, 1] rfl J2
  · refine fx_iload_n 4 dX6_isBelow_4 rfl 0 rfl ?_
    refine fx_iload_n 5 dX6_isBelow_5 rfl 1 rfl ?_
    refine fx_icmp_ge 6 13 dX6_isBelow_6 (by decide) (fun c6 => ?_) (fun c6 => ?_)
    · refine fx_iconst 13 (x := (0 : Int32)) dX6_isBelow_13 (by decide) ?_
      have J2 := J
      try simp only [if_neg c1, if_pos c6] at J2
      exact fx_sub [0, 1] rfl J2
    · refine fx_iconst 9 (x := (1 : Int32)) dX6_isBelow_9 (by decide) ?_
      refine fx_goto 10 14 dX6_isBelow_10 (by decide) ?_
      have J2 := J
      try simp only [if_neg c1, if_neg c6] at J2
      exact fx_sub [0, 1] rfl J2
def mX6_rowOf : fxM := (yX6_rowOf, cX6_rowOf, 1, (some .int), 2, 80)
theorem oksX6_rowOf (f l : Nat) : fx_okS (yX6_rowOf, cX6_rowOf, 1, (some .int), f, l) 1 := ⟨⟨rin20 _ (List.mem_of_getElem? (i := 8) rfl), rin1 _ (List.mem_of_getElem? (i := 2) rfl), by show yX6_rowOf.cls ≠ _; decide +kernel, by show yX6_rowOf.cls ≠ _; decide +kernel, by show (parseMethodDescriptor yX6_rowOf.desc).map _ = _; decide +kernel⟩, rin20 _ (List.mem_of_getElem? (i := 7) rfl)⟩
def CX6_rowOf (x0 : Int32) (M : fxMem) : Option (Int32 × fxMem) := some (x0 >>> ((3 : Int32) &&& 31), M)
set_option maxRecDepth 100000 in
set_option maxHeartbeats 4000000 in
theorem tX6_rowOf {x0 : Int32} {M : fxMem} {R : Int32 × fxMem} (h : CX6_rowOf x0 M = some R) : fx_T gC mX6_rowOf [.int x0] M (fx_ri R) := by
  rw [CX6_rowOf] at h
  refine fx_enter [(0, .int x0)] (by decide) (fun _ => rfl) (fun _ => Nat.le_of_ble_eq_true rfl) ?_
  refine fx_iload_n 0 dX6_rowOf_0 rfl 0 rfl ?_
  refine fx_iconst 1 (x := (3 : Int32)) dX6_rowOf_1 (by decide) ?_
  refine fx_ishr 2 dX6_rowOf_2 ?_
  cases h
  exact fx_iret 3 dX6_rowOf_3 rfl rfl ⟨rfl, rfl⟩
def mX6_columnOf : fxM := (yX6_columnOf, cX6_columnOf, 1, (some .int), 2, 80)
theorem oksX6_columnOf (f l : Nat) : fx_okS (yX6_columnOf, cX6_columnOf, 1, (some .int), f, l) 1 := ⟨⟨rin20 _ (List.mem_of_getElem? (i := 10) rfl), rin1 _ (List.mem_of_getElem? (i := 2) rfl), by show yX6_columnOf.cls ≠ _; decide +kernel, by show yX6_columnOf.cls ≠ _; decide +kernel, by show (parseMethodDescriptor yX6_columnOf.desc).map _ = _; decide +kernel⟩, rin20 _ (List.mem_of_getElem? (i := 9) rfl)⟩
def CX6_columnOf (x0 : Int32) (M : fxMem) : Option (Int32 × fxMem) := some (x0 &&& (7 : Int32), M)
set_option maxRecDepth 100000 in
set_option maxHeartbeats 4000000 in
theorem tX6_columnOf {x0 : Int32} {M : fxMem} {R : Int32 × fxMem} (h : CX6_columnOf x0 M = some R) : fx_T gC mX6_columnOf [.int x0] M (fx_ri R) := by
  rw [CX6_columnOf] at h
  refine fx_enter [(0, .int x0)] (by decide) (fun _ => rfl) (fun _ => Nat.le_of_ble_eq_true rfl) ?_
  refine fx_iload_n 0 dX6_columnOf_0 rfl 0 rfl ?_
  refine fx_bipush 1 (x := (7 : Int32)) dX6_columnOf_1 (by decide) ?_
  refine fx_iand 3 dX6_columnOf_3 ?_
  cases h
  exact fx_iret 4 dX6_columnOf_4 rfl rfl ⟨rfl, rfl⟩
def mX6_far : fxM := (yX6_far, cX6_far, 2, (some .int), 3, 120)
theorem oksX6_far (f l : Nat) : fx_okS (yX6_far, cX6_far, 2, (some .int), f, l) 2 := ⟨⟨rin22 _ (List.mem_of_getElem? (i := 3) rfl), rin1 _ (List.mem_of_getElem? (i := 2) rfl), by show yX6_far.cls ≠ _; decide +kernel, by show yX6_far.cls ≠ _; decide +kernel, by show (parseMethodDescriptor yX6_far.desc).map _ = _; decide +kernel⟩, rin22 _ (List.mem_of_getElem? (i := 2) rfl)⟩
def CX6_far (x0 : Int32) (x1 : Int32) (M : fxMem) : Option (Int32 × fxMem) := Option.bind (CX6_rowOf x0 M) fun q1 => Option.bind (CX6_rowOf x1 q1.2) fun q5 => Option.bind (CX6_columnOf x0 q5.2) fun q13 => Option.bind (CX6_columnOf x1 q13.2) fun q17 => some ((if (if (0 : Int32) ≤ q1.1 - q5.1 then q1.1 - q5.1 else (0 : Int32) - (q1.1 - q5.1)) < (if (0 : Int32) ≤ q13.1 - q17.1 then q13.1 - q17.1 else (0 : Int32) - (q13.1 - q17.1)) then (if (0 : Int32) ≤ q13.1 - q17.1 then q13.1 - q17.1 else (0 : Int32) - (q13.1 - q17.1)) else (if (0 : Int32) ≤ q1.1 - q5.1 then q1.1 - q5.1 else (0 : Int32) - (q1.1 - q5.1))), q17.2)
set_option maxRecDepth 100000 in
set_option maxHeartbeats 4000000 in
theorem tX6_far {x0 : Int32} {x1 : Int32} {M : fxMem} {R : Int32 × fxMem} (h : CX6_far x0 x1 M = some R) : fx_T gC mX6_far [.int x0, .int x1] M (fx_ri R) := by
  rw [CX6_far] at h
  refine fx_enter [(0, .int x0), (1, .int x1)] (by decide) (fun _ => rfl) (fun _ => Nat.le_of_ble_eq_true rfl) ?_
  refine fx_iload_n 0 dX6_far_0 rfl 0 rfl ?_
  obtain ⟨q1, e1, h⟩ := fx_bd h
  refine fx_callSi 1 (mt' := mX6_rowOf) (As := [.int x0]) (oksX6_rowOf _ _) lmX6_229 (by decide) rfl rfl (Nat.le_of_ble_eq_true rfl) dX6_far_1 (tX6_rowOf e1) ?_
  refine fx_iload_n 4 dX6_far_4 rfl 1 rfl ?_
  obtain ⟨q5, e5, h⟩ := fx_bd h
  refine fx_callSi 5 (mt' := mX6_rowOf) (As := [.int x1]) (oksX6_rowOf _ _) lmX6_229 (by decide) rfl rfl (Nat.le_of_ble_eq_true rfl) dX6_far_5 (tX6_rowOf e5) ?_
  refine fx_isub 8 dX6_far_8 ?_
  refine fx_mabs 9 dX6_far_9 lmX6_232 (by decide) (Nat.le_of_ble_eq_true rfl) ?_
  refine fx_iload_n 12 dX6_far_12 rfl 0 rfl ?_
  obtain ⟨q13, e13, h⟩ := fx_bd h
  refine fx_callSi 13 (mt' := mX6_columnOf) (As := [.int x0]) (oksX6_columnOf _ _) lmX6_235 (by decide) rfl rfl (Nat.le_of_ble_eq_true rfl) dX6_far_13 (tX6_columnOf e13) ?_
  refine fx_iload_n 16 dX6_far_16 rfl 1 rfl ?_
  obtain ⟨q17, e17, h⟩ := fx_bd h
  refine fx_callSi 17 (mt' := mX6_columnOf) (As := [.int x1]) (oksX6_columnOf _ _) lmX6_235 (by decide) rfl rfl (Nat.le_of_ble_eq_true rfl) dX6_far_17 (tX6_columnOf e17) ?_
  refine fx_isub 20 dX6_far_20 ?_
  refine fx_mabs 21 dX6_far_21 lmX6_232 (by decide) (Nat.le_of_ble_eq_true rfl) ?_
  refine fx_mmax 24 dX6_far_24 lmX6_149 (by decide) (Nat.le_of_ble_eq_true rfl) ?_
  cases h
  exact fx_iret 27 dX6_far_27 rfl rfl ⟨rfl, rfl⟩
def mX1_playerOn : fxM := (yX1_playerOn, cX1_playerOn, 3, (some .int), 2, 80)
theorem okvX1_playerOn (f l : Nat) : fx_okV (yX1_playerOn, cX1_playerOn, 3, (some .int), f, l) 1 := ⟨⟨rin18 _ (List.mem_of_getElem? (i := 8) rfl), rin1 _ (List.mem_of_getElem? (i := 15) rfl), by show yX1_playerOn.cls ≠ _; decide +kernel, by show yX1_playerOn.cls ≠ _; decide +kernel, by show (parseMethodDescriptor yX1_playerOn.desc).map _ = _; decide +kernel⟩, rin18 _ (List.mem_of_getElem? (i := 6) rfl), rin18 _ (List.mem_of_getElem? (i := 7) rfl)⟩
def CX1_playerOn_L2 (x1 : Int32) : Nat → Int32 → fxMem → (Int32 → fxMem → Option (Int32 × fxMem)) → Option (Int32 × fxMem)
  | 0, _, _, _ => none
  | n + 1, x2, M, k => if M 1 0 ≤ x2 then k x2 M else if fx_in x2 10 = true then if M 4 x2.toNatClampNeg = x1 then some (x2, M) else CX1_playerOn_L2 x1 n (x2 + (1 : Int32)) M k else none
set_option maxRecDepth 100000 in
set_option maxHeartbeats 4000000 in
theorem vX1_playerOn_L2 {x1 : Int32} {R : Int32 × fxMem} {k : Int32 → fxMem → Option (Int32 × fxMem)} (hk : ∀ (x2 : Int32) (M : fxMem), k x2 M = some R → fx_V gC mX1_playerOn (fx_ri R) 28 [(0, .ref 1), (1, .int x1), (2, .int x2)] [] M) : ∀ (n : Nat) (x2 : Int32) (M : fxMem), CX1_playerOn_L2 x1 n x2 M k = some R → fx_V gC mX1_playerOn (fx_ri R) 2 [(0, .ref 1), (1, .int x1), (2, .int x2)] [] M := by
  intro n
  induction n with
  | zero => intro x2 M h; rw [CX1_playerOn_L2] at h; cases h
  | succ n ih =>
    intro x2 M h
    rw [CX1_playerOn_L2] at h
    refine fx_iload_n 2 dX1_playerOn_2 rfl 2 rfl ?_
    refine fx_aload_n 3 dX1_playerOn_3 rfl 0 rfl ?_
    refine fx_get 4 (j := 0) (v := .int (M 1 0)) okc1 dX1_playerOn_4 lfX1_9 (by decide) (fun _ => rfl) ?_
    refine fx_icmp_ge 7 28 dX1_playerOn_7 (by decide) (fun c7 => ?_) (fun c7 => ?_)
    · replace h := fx_ip c7 h
      refine fx_sub [0, 1, 2] rfl ?_
      exact hk _ _ h
    · replace h := fx_ne c7 h
      refine fx_aload_n 10 dX1_playerOn_10 rfl 0 rfl ?_
      refine fx_get 11 (j := 3) (v := .ref 4) okc1 dX1_playerOn_11 lfX1_22 (by decide) (fun _ => rfl) ?_
      refine fx_iload_n 14 dX1_playerOn_14 rfl 2 rfl ?_
      obtain ⟨g15, h⟩ := fx_gt h
      refine fx_iald 15 oka4 dX1_playerOn_15 g15 ?_
      refine fx_iload_n 16 dX1_playerOn_16 rfl 1 rfl ?_
      refine fx_icmp_ne 17 22 dX1_playerOn_17 (by decide) (fun c17 => ?_) (fun c17 => ?_)
      · replace h := fx_ne c17 h
        refine fx_iinc 22 (lv' := [(2, .int (x2 + (1 : Int32))), (0, .ref 1), (1, .int x1)]) (y := x2 + (1 : Int32)) dX1_playerOn_22 2 rfl (by rfl) (by decide) rfl ?_
        refine fx_goto 25 2 dX1_playerOn_25 (by decide) ?_
        refine fx_sub [1, 2, 0] rfl ?_
        exact ih _ _ h
      · replace h := fx_ip c17 h
        refine fx_iload_n 20 dX1_playerOn_20 rfl 2 rfl ?_
        cases h
        exact fx_iret 21 dX1_playerOn_21 rfl rfl ⟨rfl, rfl⟩
def CX1_playerOn (x1 : Int32) (M : fxMem) : Option (Int32 × fxMem) := CX1_playerOn_L2 x1 1000 (0 : Int32) M (fun y2_2 M2 => some ((-1 : Int32), M2))
set_option maxRecDepth 100000 in
set_option maxHeartbeats 4000000 in
theorem tX1_playerOn {x1 : Int32} {M : fxMem} {R : Int32 × fxMem} (h : CX1_playerOn x1 M = some R) : fx_T gC mX1_playerOn [.ref 1, .int x1] M (fx_ri R) := by
  rw [CX1_playerOn] at h
  refine fx_enter [(0, .ref 1), (1, .int x1)] (by decide) (fun _ => rfl) (fun _ => Nat.le_of_ble_eq_true rfl) ?_
  refine fx_iconst 0 (x := (0 : Int32)) dX1_playerOn_0 (by decide) ?_
  refine fx_istore_n 1 (lv' := [(2, .int (0 : Int32)), (0, .ref 1), (1, .int x1)]) dX1_playerOn_1 rfl (by decide) rfl ?_
  refine fx_sub [1, 2, 0] rfl ?_
  refine vX1_playerOn_L2 (fun y2_2 M2 h => ?_) 1000 _ _ h
  refine fx_iconst 28 (x := (-1 : Int32)) dX1_playerOn_28 (by decide) ?_
  cases h
  exact fx_iret 29 dX1_playerOn_29 rfl rfl ⟨rfl, rfl⟩
def mX6_isUnder : fxM := (yX6_isUnder, cX6_isUnder, 4, (some .boolean), 2, 80)
theorem oksX6_isUnder (f l : Nat) : fx_okS (yX6_isUnder, cX6_isUnder, 4, (some .boolean), f, l) 2 := ⟨⟨rin21 _ (List.mem_of_getElem? (i := 11) rfl), rin1 _ (List.mem_of_getElem? (i := 2) rfl), by show yX6_isUnder.cls ≠ _; decide +kernel, by show yX6_isUnder.cls ≠ _; decide +kernel, by show (parseMethodDescriptor yX6_isUnder.desc).map _ = _; decide +kernel⟩, rin21 _ (List.mem_of_getElem? (i := 10) rfl)⟩
def CX6_isUnder_L4 (x0 : Int32) (x1 : Int32) : Nat → Int32 → Int32 → fxMem → (Int32 → Int32 → fxMem → Option (Int32 × fxMem)) → Option (Int32 × fxMem)
  | 0, _, _, _, _ => none
  | n + 1, x2, x3, M, k => if (7 : Int32) ≤ x3 then k x2 x3 M else if x2 = (-1 : Int32) then k x2 x3 M else if x2 = x1 then some ((1 : Int32), M) else if fx_in x2 7 = true then CX6_isUnder_L4 x0 x1 n ((kx_a 0).2.2.getD x2.toNatClampNeg 0) (x3 + (1 : Int32)) M k else none
set_option maxRecDepth 100000 in
set_option maxHeartbeats 4000000 in
theorem vX6_isUnder_L4 {x0 : Int32} {x1 : Int32} {R : Int32 × fxMem} {k : Int32 → Int32 → fxMem → Option (Int32 × fxMem)} (hk : ∀ (x2 : Int32) (x3 : Int32) (M : fxMem), k x2 x3 M = some R → fx_V gC mX6_isUnder (fx_ri R) 34 [(0, .int x0), (1, .int x1), (2, .int x2), (3, .int x3)] [] M) : ∀ (n : Nat) (x2 : Int32) (x3 : Int32) (M : fxMem), CX6_isUnder_L4 x0 x1 n x2 x3 M k = some R → fx_V gC mX6_isUnder (fx_ri R) 4 [(0, .int x0), (1, .int x1), (2, .int x2), (3, .int x3)] [] M := by
  intro n
  induction n with
  | zero => intro x2 x3 M h; rw [CX6_isUnder_L4] at h; cases h
  | succ n ih =>
    intro x2 x3 M h
    rw [CX6_isUnder_L4] at h
    refine fx_iload_n 4 dX6_isUnder_4 rfl 3 rfl ?_
    refine fx_bipush 5 (x := (7 : Int32)) dX6_isUnder_5 (by decide) ?_
    refine fx_icmp_ge 7 34 dX6_isUnder_7 (by decide) (fun c7 => ?_) (fun c7 => ?_)
    · replace h := fx_ip c7 h
      refine fx_sub [0, 1, 2, 3] rfl ?_
      exact hk _ _ _ h
    · replace h := fx_ne c7 h
      refine fx_iload_n 10 dX6_isUnder_10 rfl 2 rfl ?_
      refine fx_iconst 11 (x := (-1 : Int32)) dX6_isUnder_11 (by decide) ?_
      refine fx_icmp_eq 12 34 dX6_isUnder_12 (by decide) (fun c12 => ?_) (fun c12 => ?_)
      · replace h := fx_ip c12 h
        refine fx_sub [0, 1, 2, 3] rfl ?_
        exact hk _ _ _ h
      · replace h := fx_ne c12 h
        refine fx_iload_n 15 dX6_isUnder_15 rfl 2 rfl ?_
        refine fx_iload_n 16 dX6_isUnder_16 rfl 1 rfl ?_
        refine fx_icmp_ne 17 22 dX6_isUnder_17 (by decide) (fun c17 => ?_) (fun c17 => ?_)
        · replace h := fx_ne c17 h
          refine fx_gets 22 0 (by decide) dX6_isUnder_22 lfX6_238 ?_
          refine fx_iload_n 25 dX6_isUnder_25 rfl 2 rfl ?_
          obtain ⟨g26, h⟩ := fx_gt h
          refine fx_sald 26 0 (by decide) dX6_isUnder_26 g26 ?_
          refine fx_istore_n 27 (lv' := [(2, .int ((kx_a 0).2.2.getD x2.toNatClampNeg 0)), (0, .int x0), (1, .int x1), (3, .int x3)]) dX6_isUnder_27 rfl (by decide) rfl ?_
          refine fx_iinc 28 (lv' := [(3, .int (x3 + (1 : Int32))), (2, .int ((kx_a 0).2.2.getD x2.toNatClampNeg 0)), (0, .int x0), (1, .int x1)]) (y := x3 + (1 : Int32)) dX6_isUnder_28 3 rfl (by rfl) (by decide) rfl ?_
          refine fx_goto 31 4 dX6_isUnder_31 (by decide) ?_
          refine fx_sub [2, 3, 1, 0] rfl ?_
          exact ih _ _ _ h
        · replace h := fx_ip c17 h
          refine fx_iconst 20 (x := (1 : Int32)) dX6_isUnder_20 (by decide) ?_
          cases h
          exact fx_iret 21 dX6_isUnder_21 rfl rfl ⟨rfl, rfl⟩
def CX6_isUnder (x0 : Int32) (x1 : Int32) (M : fxMem) : Option (Int32 × fxMem) := CX6_isUnder_L4 x0 x1 1000 x0 (0 : Int32) M (fun y2_4 y3_4 M4 => some ((0 : Int32), M4))
set_option maxRecDepth 100000 in
set_option maxHeartbeats 4000000 in
theorem tX6_isUnder {x0 : Int32} {x1 : Int32} {M : fxMem} {R : Int32 × fxMem} (h : CX6_isUnder x0 x1 M = some R) : fx_T gC mX6_isUnder [.int x0, .int x1] M (fx_ri R) := by
  rw [CX6_isUnder] at h
  refine fx_enter [(0, .int x0), (1, .int x1)] (by decide) (fun _ => rfl) (fun _ => Nat.le_of_ble_eq_true rfl) ?_
  refine fx_iload_n 0 dX6_isUnder_0 rfl 0 rfl ?_
  refine fx_istore_n 1 (lv' := [(2, .int x0), (0, .int x0), (1, .int x1)]) dX6_isUnder_1 rfl (by decide) rfl ?_
  refine fx_iconst 2 (x := (0 : Int32)) dX6_isUnder_2 (by decide) ?_
  refine fx_istore_n 3 (lv' := [(3, .int (0 : Int32)), (2, .int x0), (0, .int x0), (1, .int x1)]) dX6_isUnder_3 rfl (by decide) rfl ?_
  refine fx_sub [2, 3, 1, 0] rfl ?_
  refine vX6_isUnder_L4 (fun y2_4 y3_4 M4 h => ?_) 1000 _ _ _ h
  refine fx_iconst 34 (x := (0 : Int32)) dX6_isUnder_34 (by decide) ?_
  cases h
  exact fx_iret 35 dX6_isUnder_35 rfl rfl ⟨rfl, rfl⟩
end
