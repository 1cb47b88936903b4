-- ===== PART A: goes FIRST, ahead of the names: the tables' words, and 'selects' of the private methods out of them =====
/-- a private method of a class that the tables say can be made, by its rows of tables_1 -/
def lw_okq (q : MethodName × Nat) : Prop := (q.1.cls ≠ "java/lang/invoke/MethodHandle" ∧ q.1.cls ≠ "java/lang/invoke/VarHandle") ∧ Cond.instantiable q.1.cls q.2 ∈ tables_1 ∧ Cond.privateMethod q.1 ∈ tables_1 ∧ Cond.instanceMethod q.1 ∈ tables_1
theorem lw_p0 : lw_okq (⟨"FieldBand$Reader", "readEither", "(I)Z"⟩, 3) := ⟨⟨by decide +kernel, by decide +kernel⟩, List.mem_of_getElem? (i := 187) (by decide +kernel), List.mem_of_getElem? (i := 424) (by decide +kernel), List.mem_of_getElem? (i := 425) (by decide +kernel)⟩
theorem lw_p1 : lw_okq (⟨"FieldBand$Reader", "readBoth", "(I)Z"⟩, 3) := ⟨⟨by decide +kernel, by decide +kernel⟩, List.mem_of_getElem? (i := 187) (by decide +kernel), List.mem_of_getElem? (i := 428) (by decide +kernel), List.mem_of_getElem? (i := 429) (by decide +kernel)⟩
theorem lw_p2 : lw_okq (⟨"FieldBand$Reader", "readFactor", "(I)Z"⟩, 3) := ⟨⟨by decide +kernel, by decide +kernel⟩, List.mem_of_getElem? (i := 187) (by decide +kernel), List.mem_of_getElem? (i := 432) (by decide +kernel), List.mem_of_getElem? (i := 433) (by decide +kernel)⟩
theorem lw_p3 : lw_okq (⟨"FieldBand", "held", "()LFieldBand$Show;"⟩, 8) := ⟨⟨by decide +kernel, by decide +kernel⟩, List.mem_of_getElem? (i := 17) (by decide +kernel), List.mem_of_getElem? (i := 464) (by decide +kernel), List.mem_of_getElem? (i := 465) (by decide +kernel)⟩
theorem lw_p4 : lw_okq (⟨"FieldBand", "isPlayer", "(I)Z"⟩, 8) := ⟨⟨by decide +kernel, by decide +kernel⟩, List.mem_of_getElem? (i := 17) (by decide +kernel), List.mem_of_getElem? (i := 483) (by decide +kernel), List.mem_of_getElem? (i := 484) (by decide +kernel)⟩
theorem lw_p5 : lw_okq (⟨"FieldBand", "listen", "()LFieldBand$Sound;"⟩, 8) := ⟨⟨by decide +kernel, by decide +kernel⟩, List.mem_of_getElem? (i := 17) (by decide +kernel), List.mem_of_getElem? (i := 487) (by decide +kernel), List.mem_of_getElem? (i := 488) (by decide +kernel)⟩
theorem lw_p6 : lw_okq (⟨"FieldBand", "findWay", "()I"⟩, 8) := ⟨⟨by decide +kernel, by decide +kernel⟩, List.mem_of_getElem? (i := 17) (by decide +kernel), List.mem_of_getElem? (i := 648) (by decide +kernel), List.mem_of_getElem? (i := 649) (by decide +kernel)⟩
theorem lw_p7 : lw_okq (⟨"FieldBand$Ways", "tryPlaces", "(IIII)V"⟩, 5) := ⟨⟨by decide +kernel, by decide +kernel⟩, List.mem_of_getElem? (i := 94) (by decide +kernel), List.mem_of_getElem? (i := 661) (by decide +kernel), List.mem_of_getElem? (i := 662) (by decide +kernel)⟩
theorem lw_p8 : lw_okq (⟨"FieldBand$Deed", "runFrom", "(IIII)I"⟩, 5) := ⟨⟨by decide +kernel, by decide +kernel⟩, List.mem_of_getElem? (i := 119) (by decide +kernel), List.mem_of_getElem? (i := 723) (by decide +kernel), List.mem_of_getElem? (i := 724) (by decide +kernel)⟩
theorem lw_p9 : lw_okq (⟨"FieldBand$Deed", "runBody", "(IIII)I"⟩, 5) := ⟨⟨by decide +kernel, by decide +kernel⟩, List.mem_of_getElem? (i := 119) (by decide +kernel), List.mem_of_getElem? (i := 741) (by decide +kernel), List.mem_of_getElem? (i := 742) (by decide +kernel)⟩
theorem lw_p10 : lw_okq (⟨"FieldBandModel", "clauseHere", "()V"⟩, 24) := ⟨⟨by decide +kernel, by decide +kernel⟩, List.mem_of_getElem? (i := 772) (by decide +kernel), List.mem_of_getElem? (i := 863) (by decide +kernel), List.mem_of_getElem? (i := 864) (by decide +kernel)⟩
theorem lw_p11 : lw_okq (⟨"FieldBandModel", "here", "()I"⟩, 24) := ⟨⟨by decide +kernel, by decide +kernel⟩, List.mem_of_getElem? (i := 772) (by decide +kernel), List.mem_of_getElem? (i := 867) (by decide +kernel), List.mem_of_getElem? (i := 868) (by decide +kernel)⟩
theorem lw_p12 : lw_okq (⟨"FieldBandModel", "must", "(I)V"⟩, 24) := ⟨⟨by decide +kernel, by decide +kernel⟩, List.mem_of_getElem? (i := 772) (by decide +kernel), List.mem_of_getElem? (i := 871) (by decide +kernel), List.mem_of_getElem? (i := 872) (by decide +kernel)⟩
theorem lw_p13 : lw_okq (⟨"FieldBandModel", "much", "(ILjava/lang/String;)V"⟩, 24) := ⟨⟨by decide +kernel, by decide +kernel⟩, List.mem_of_getElem? (i := 772) (by decide +kernel), List.mem_of_getElem? (i := 876) (by decide +kernel), List.mem_of_getElem? (i := 877) (by decide +kernel)⟩
theorem lw_p14 : lw_okq (⟨"FieldBandModel", "spells", "(Ljava/lang/String;)V"⟩, 24) := ⟨⟨by decide +kernel, by decide +kernel⟩, List.mem_of_getElem? (i := 772) (by decide +kernel), List.mem_of_getElem? (i := 880) (by decide +kernel), List.mem_of_getElem? (i := 881) (by decide +kernel)⟩
theorem lw_p15 : lw_okq (⟨"FieldBandModel", "figures", "()I"⟩, 24) := ⟨⟨by decide +kernel, by decide +kernel⟩, List.mem_of_getElem? (i := 772) (by decide +kernel), List.mem_of_getElem? (i := 886) (by decide +kernel), List.mem_of_getElem? (i := 887) (by decide +kernel)⟩
def lw_privs_1 : List (MethodName × Nat) := [(⟨"FieldBand$Reader", "readEither", "(I)Z"⟩, 3), (⟨"FieldBand$Reader", "readBoth", "(I)Z"⟩, 3), (⟨"FieldBand$Reader", "readFactor", "(I)Z"⟩, 3), (⟨"FieldBand", "held", "()LFieldBand$Show;"⟩, 8), (⟨"FieldBand", "isPlayer", "(I)Z"⟩, 8), (⟨"FieldBand", "listen", "()LFieldBand$Sound;"⟩, 8), (⟨"FieldBand", "findWay", "()I"⟩, 8), (⟨"FieldBand$Ways", "tryPlaces", "(IIII)V"⟩, 5), (⟨"FieldBand$Deed", "runFrom", "(IIII)I"⟩, 5), (⟨"FieldBand$Deed", "runBody", "(IIII)I"⟩, 5), (⟨"FieldBandModel", "clauseHere", "()V"⟩, 24), (⟨"FieldBandModel", "here", "()I"⟩, 24), (⟨"FieldBandModel", "must", "(I)V"⟩, 24), (⟨"FieldBandModel", "much", "(ILjava/lang/String;)V"⟩, 24), (⟨"FieldBandModel", "spells", "(Ljava/lang/String;)V"⟩, 24), (⟨"FieldBandModel", "figures", "()I"⟩, 24)]
theorem lw_r1 : ∀ q ∈ lw_privs_1, lw_okq q := List.forall_mem_cons.mpr ⟨lw_p0, List.forall_mem_cons.mpr ⟨lw_p1, List.forall_mem_cons.mpr ⟨lw_p2, List.forall_mem_cons.mpr ⟨lw_p3, List.forall_mem_cons.mpr ⟨lw_p4, List.forall_mem_cons.mpr ⟨lw_p5, List.forall_mem_cons.mpr ⟨lw_p6, List.forall_mem_cons.mpr ⟨lw_p7, List.forall_mem_cons.mpr ⟨lw_p8, List.forall_mem_cons.mpr ⟨lw_p9, List.forall_mem_cons.mpr ⟨lw_p10, List.forall_mem_cons.mpr ⟨lw_p11, List.forall_mem_cons.mpr ⟨lw_p12, List.forall_mem_cons.mpr ⟨lw_p13, List.forall_mem_cons.mpr ⟨lw_p14, List.forall_mem_cons.mpr ⟨lw_p15, fun _ h => absurd h List.not_mem_nil⟩⟩⟩⟩⟩⟩⟩⟩⟩⟩⟩⟩⟩⟩⟩⟩
theorem lw_p16 : lw_okq (⟨"FieldBandModel", "some", "()V"⟩, 24) := ⟨⟨by decide +kernel, by decide +kernel⟩, List.mem_of_getElem? (i := 772) (by decide +kernel), List.mem_of_getElem? (i := 890) (by decide +kernel), List.mem_of_getElem? (i := 891) (by decide +kernel)⟩
theorem lw_p17 : lw_okq (⟨"FieldBandModel", "every", "()V"⟩, 24) := ⟨⟨by decide +kernel, by decide +kernel⟩, List.mem_of_getElem? (i := 772) (by decide +kernel), List.mem_of_getElem? (i := 894) (by decide +kernel), List.mem_of_getElem? (i := 895) (by decide +kernel)⟩
theorem lw_p18 : lw_okq (⟨"FieldBandModel", "factor", "()V"⟩, 24) := ⟨⟨by decide +kernel, by decide +kernel⟩, List.mem_of_getElem? (i := 772) (by decide +kernel), List.mem_of_getElem? (i := 898) (by decide +kernel), List.mem_of_getElem? (i := 899) (by decide +kernel)⟩
theorem lw_p19 : lw_okq (⟨"FieldBandModel", "emits", "(I)V"⟩, 24) := ⟨⟨by decide +kernel, by decide +kernel⟩, List.mem_of_getElem? (i := 772) (by decide +kernel), List.mem_of_getElem? (i := 902) (by decide +kernel), List.mem_of_getElem? (i := 903) (by decide +kernel)⟩
theorem lw_p20 : lw_okq (⟨"FieldBandModel", "among", "(Ljava/lang/String;)I"⟩, 24) := ⟨⟨by decide +kernel, by decide +kernel⟩, List.mem_of_getElem? (i := 772) (by decide +kernel), List.mem_of_getElem? (i := 907) (by decide +kernel), List.mem_of_getElem? (i := 908) (by decide +kernel)⟩
theorem lw_p21 : lw_okq (⟨"FieldBandModel", "tellsHere", "(ILjava/lang/String;)V"⟩, 24) := ⟨⟨by decide +kernel, by decide +kernel⟩, List.mem_of_getElem? (i := 772) (by decide +kernel), List.mem_of_getElem? (i := 914) (by decide +kernel), List.mem_of_getElem? (i := 915) (by decide +kernel)⟩
theorem lw_p22 : lw_okq (⟨"FieldBandModel", "speed", "()I"⟩, 24) := ⟨⟨by decide +kernel, by decide +kernel⟩, List.mem_of_getElem? (i := 772) (by decide +kernel), List.mem_of_getElem? (i := 924) (by decide +kernel), List.mem_of_getElem? (i := 925) (by decide +kernel)⟩
theorem lw_p23 : lw_okq (⟨"FieldBandModel", "tellsOf", "(II)I"⟩, 24) := ⟨⟨by decide +kernel, by decide +kernel⟩, List.mem_of_getElem? (i := 772) (by decide +kernel), List.mem_of_getElem? (i := 928) (by decide +kernel), List.mem_of_getElem? (i := 929) (by decide +kernel)⟩
theorem lw_p24 : lw_okq (⟨"FieldBandModel", "atLeastOne", "(I)I"⟩, 24) := ⟨⟨by decide +kernel, by decide +kernel⟩, List.mem_of_getElem? (i := 772) (by decide +kernel), List.mem_of_getElem? (i := 932) (by decide +kernel), List.mem_of_getElem? (i := 933) (by decide +kernel)⟩
theorem lw_p25 : lw_okq (⟨"FieldBandModel", "playerOn", "(I)I"⟩, 24) := ⟨⟨by decide +kernel, by decide +kernel⟩, List.mem_of_getElem? (i := 772) (by decide +kernel), List.mem_of_getElem? (i := 943) (by decide +kernel), List.mem_of_getElem? (i := 944) (by decide +kernel)⟩
theorem lw_p26 : lw_okq (⟨"FieldBandModel", "isPlayer", "(I)Z"⟩, 24) := ⟨⟨by decide +kernel, by decide +kernel⟩, List.mem_of_getElem? (i := 772) (by decide +kernel), List.mem_of_getElem? (i := 955) (by decide +kernel), List.mem_of_getElem? (i := 956) (by decide +kernel)⟩
theorem lw_p27 : lw_okq (⟨"FieldBandModel", "looks", "(II)V"⟩, 24) := ⟨⟨by decide +kernel, by decide +kernel⟩, List.mem_of_getElem? (i := 772) (by decide +kernel), List.mem_of_getElem? (i := 963) (by decide +kernel), List.mem_of_getElem? (i := 964) (by decide +kernel)⟩
theorem lw_p28 : lw_okq (⟨"FieldBandModel", "playsOf", "(I)I"⟩, 24) := ⟨⟨by decide +kernel, by decide +kernel⟩, List.mem_of_getElem? (i := 772) (by decide +kernel), List.mem_of_getElem? (i := 967) (by decide +kernel), List.mem_of_getElem? (i := 968) (by decide +kernel)⟩
theorem lw_p29 : lw_okq (⟨"FieldBandModel", "playsAs", "(II)I"⟩, 24) := ⟨⟨by decide +kernel, by decide +kernel⟩, List.mem_of_getElem? (i := 772) (by decide +kernel), List.mem_of_getElem? (i := 971) (by decide +kernel), List.mem_of_getElem? (i := 972) (by decide +kernel)⟩
theorem lw_p30 : lw_okq (⟨"FieldBandModel", "listening", "(I)I"⟩, 24) := ⟨⟨by decide +kernel, by decide +kernel⟩, List.mem_of_getElem? (i := 772) (by decide +kernel), List.mem_of_getElem? (i := 975) (by decide +kernel), List.mem_of_getElem? (i := 976) (by decide +kernel)⟩
theorem lw_p31 : lw_okq (⟨"FieldBandModel", "backward", "(I)I"⟩, 24) := ⟨⟨by decide +kernel, by decide +kernel⟩, List.mem_of_getElem? (i := 772) (by decide +kernel), List.mem_of_getElem? (i := 985) (by decide +kernel), List.mem_of_getElem? (i := 986) (by decide +kernel)⟩
def lw_privs_2 : List (MethodName × Nat) := [(⟨"FieldBandModel", "some", "()V"⟩, 24), (⟨"FieldBandModel", "every", "()V"⟩, 24), (⟨"FieldBandModel", "factor", "()V"⟩, 24), (⟨"FieldBandModel", "emits", "(I)V"⟩, 24), (⟨"FieldBandModel", "among", "(Ljava/lang/String;)I"⟩, 24), (⟨"FieldBandModel", "tellsHere", "(ILjava/lang/String;)V"⟩, 24), (⟨"FieldBandModel", "speed", "()I"⟩, 24), (⟨"FieldBandModel", "tellsOf", "(II)I"⟩, 24), (⟨"FieldBandModel", "atLeastOne", "(I)I"⟩, 24), (⟨"FieldBandModel", "playerOn", "(I)I"⟩, 24), (⟨"FieldBandModel", "isPlayer", "(I)Z"⟩, 24), (⟨"FieldBandModel", "looks", "(II)V"⟩, 24), (⟨"FieldBandModel", "playsOf", "(I)I"⟩, 24), (⟨"FieldBandModel", "playsAs", "(II)I"⟩, 24), (⟨"FieldBandModel", "listening", "(I)I"⟩, 24), (⟨"FieldBandModel", "backward", "(I)I"⟩, 24)]
theorem lw_r2 : ∀ q ∈ lw_privs_2, lw_okq q := List.forall_mem_cons.mpr ⟨lw_p16, List.forall_mem_cons.mpr ⟨lw_p17, List.forall_mem_cons.mpr ⟨lw_p18, List.forall_mem_cons.mpr ⟨lw_p19, List.forall_mem_cons.mpr ⟨lw_p20, List.forall_mem_cons.mpr ⟨lw_p21, List.forall_mem_cons.mpr ⟨lw_p22, List.forall_mem_cons.mpr ⟨lw_p23, List.forall_mem_cons.mpr ⟨lw_p24, List.forall_mem_cons.mpr ⟨lw_p25, List.forall_mem_cons.mpr ⟨lw_p26, List.forall_mem_cons.mpr ⟨lw_p27, List.forall_mem_cons.mpr ⟨lw_p28, List.forall_mem_cons.mpr ⟨lw_p29, List.forall_mem_cons.mpr ⟨lw_p30, List.forall_mem_cons.mpr ⟨lw_p31, fun _ h => absurd h List.not_mem_nil⟩⟩⟩⟩⟩⟩⟩⟩⟩⟩⟩⟩⟩⟩⟩⟩
theorem lw_p32 : lw_okq (⟨"FieldBandModel", "nearestInColumn", "(IZ)I"⟩, 24) := ⟨⟨by decide +kernel, by decide +kernel⟩, List.mem_of_getElem? (i := 772) (by decide +kernel), List.mem_of_getElem? (i := 989) (by decide +kernel), List.mem_of_getElem? (i := 990) (by decide +kernel)⟩
theorem lw_p33 : lw_okq (⟨"FieldBandModel", "heardFrom", "(II)I"⟩, 24) := ⟨⟨by decide +kernel, by decide +kernel⟩, List.mem_of_getElem? (i := 772) (by decide +kernel), List.mem_of_getElem? (i := 993) (by decide +kernel), List.mem_of_getElem? (i := 994) (by decide +kernel)⟩
theorem lw_p34 : lw_okq (⟨"FieldBandModel", "forward", "(I)I"⟩, 24) := ⟨⟨by decide +kernel, by decide +kernel⟩, List.mem_of_getElem? (i := 772) (by decide +kernel), List.mem_of_getElem? (i := 997) (by decide +kernel), List.mem_of_getElem? (i := 998) (by decide +kernel)⟩
theorem lw_p35 : lw_okq (⟨"FieldBandModel", "heardAt", "(II)I"⟩, 24) := ⟨⟨by decide +kernel, by decide +kernel⟩, List.mem_of_getElem? (i := 772) (by decide +kernel), List.mem_of_getElem? (i := 1008) (by decide +kernel), List.mem_of_getElem? (i := 1009) (by decide +kernel)⟩
theorem lw_p36 : lw_okq (⟨"FieldBandModel", "spreadAt", "(I)I"⟩, 24) := ⟨⟨by decide +kernel, by decide +kernel⟩, List.mem_of_getElem? (i := 772) (by decide +kernel), List.mem_of_getElem? (i := 1016) (by decide +kernel), List.mem_of_getElem? (i := 1017) (by decide +kernel)⟩
theorem lw_p37 : lw_okq (⟨"FieldBandModel", "together", "(II)I"⟩, 24) := ⟨⟨by decide +kernel, by decide +kernel⟩, List.mem_of_getElem? (i := 772) (by decide +kernel), List.mem_of_getElem? (i := 1020) (by decide +kernel), List.mem_of_getElem? (i := 1021) (by decide +kernel)⟩
theorem lw_p38 : lw_okq (⟨"FieldBandModel", "loudOf", "(I)I"⟩, 24) := ⟨⟨by decide +kernel, by decide +kernel⟩, List.mem_of_getElem? (i := 772) (by decide +kernel), List.mem_of_getElem? (i := 1024) (by decide +kernel), List.mem_of_getElem? (i := 1025) (by decide +kernel)⟩
theorem lw_p39 : lw_okq (⟨"FieldBandModel", "allSpreads", "()I"⟩, 24) := ⟨⟨by decide +kernel, by decide +kernel⟩, List.mem_of_getElem? (i := 772) (by decide +kernel), List.mem_of_getElem? (i := 1036) (by decide +kernel), List.mem_of_getElem? (i := 1037) (by decide +kernel)⟩
theorem lw_p40 : lw_okq (⟨"FieldBandModel", "looksForWay", "()I"⟩, 24) := ⟨⟨by decide +kernel, by decide +kernel⟩, List.mem_of_getElem? (i := 772) (by decide +kernel), List.mem_of_getElem? (i := 1057) (by decide +kernel), List.mem_of_getElem? (i := 1058) (by decide +kernel)⟩
theorem lw_p41 : lw_okq (⟨"FieldBandModel", "isTooFew", "()Z"⟩, 24) := ⟨⟨by decide +kernel, by decide +kernel⟩, List.mem_of_getElem? (i := 772) (by decide +kernel), List.mem_of_getElem? (i := 1061) (by decide +kernel), List.mem_of_getElem? (i := 1062) (by decide +kernel)⟩
theorem lw_p42 : lw_okq (⟨"FieldBandModel", "rowsFrom", "(IIII)V"⟩, 24) := ⟨⟨by decide +kernel, by decide +kernel⟩, List.mem_of_getElem? (i := 772) (by decide +kernel), List.mem_of_getElem? (i := 1065) (by decide +kernel), List.mem_of_getElem? (i := 1066) (by decide +kernel)⟩
theorem lw_p43 : lw_okq (⟨"FieldBandModel", "farTo", "(II)I"⟩, 24) := ⟨⟨by decide +kernel, by decide +kernel⟩, List.mem_of_getElem? (i := 772) (by decide +kernel), List.mem_of_getElem? (i := 1069) (by decide +kernel), List.mem_of_getElem? (i := 1070) (by decide +kernel)⟩
theorem lw_p44 : lw_okq (⟨"FieldBandModel", "goesActs", "(I)I"⟩, 24) := ⟨⟨by decide +kernel, by decide +kernel⟩, List.mem_of_getElem? (i := 772) (by decide +kernel), List.mem_of_getElem? (i := 1109) (by decide +kernel), List.mem_of_getElem? (i := 1110) (by decide +kernel)⟩
theorem lw_p45 : lw_okq (⟨"FieldBandModel", "runs", "(I)V"⟩, 24) := ⟨⟨by decide +kernel, by decide +kernel⟩, List.mem_of_getElem? (i := 772) (by decide +kernel), List.mem_of_getElem? (i := 1116) (by decide +kernel), List.mem_of_getElem? (i := 1117) (by decide +kernel)⟩
theorem lw_p46 : lw_okq (⟨"FieldBandModel", "plainGoes", "(I)I"⟩, 24) := ⟨⟨by decide +kernel, by decide +kernel⟩, List.mem_of_getElem? (i := 772) (by decide +kernel), List.mem_of_getElem? (i := 1120) (by decide +kernel), List.mem_of_getElem? (i := 1121) (by decide +kernel)⟩
theorem lw_p47 : lw_okq (⟨"FieldBandModel", "playsActs", "(I)I"⟩, 24) := ⟨⟨by decide +kernel, by decide +kernel⟩, List.mem_of_getElem? (i := 772) (by decide +kernel), List.mem_of_getElem? (i := 1124) (by decide +kernel), List.mem_of_getElem? (i := 1125) (by decide +kernel)⟩
def lw_privs_3 : List (MethodName × Nat) := [(⟨"FieldBandModel", "nearestInColumn", "(IZ)I"⟩, 24), (⟨"FieldBandModel", "heardFrom", "(II)I"⟩, 24), (⟨"FieldBandModel", "forward", "(I)I"⟩, 24), (⟨"FieldBandModel", "heardAt", "(II)I"⟩, 24), (⟨"FieldBandModel", "spreadAt", "(I)I"⟩, 24), (⟨"FieldBandModel", "together", "(II)I"⟩, 24), (⟨"FieldBandModel", "loudOf", "(I)I"⟩, 24), (⟨"FieldBandModel", "allSpreads", "()I"⟩, 24), (⟨"FieldBandModel", "looksForWay", "()I"⟩, 24), (⟨"FieldBandModel", "isTooFew", "()Z"⟩, 24), (⟨"FieldBandModel", "rowsFrom", "(IIII)V"⟩, 24), (⟨"FieldBandModel", "farTo", "(II)I"⟩, 24), (⟨"FieldBandModel", "goesActs", "(I)I"⟩, 24), (⟨"FieldBandModel", "runs", "(I)V"⟩, 24), (⟨"FieldBandModel", "plainGoes", "(I)I"⟩, 24), (⟨"FieldBandModel", "playsActs", "(I)I"⟩, 24)]
theorem lw_r3 : ∀ q ∈ lw_privs_3, lw_okq q := List.forall_mem_cons.mpr ⟨lw_p32, List.forall_mem_cons.mpr ⟨lw_p33, List.forall_mem_cons.mpr ⟨lw_p34, List.forall_mem_cons.mpr ⟨lw_p35, List.forall_mem_cons.mpr ⟨lw_p36, List.forall_mem_cons.mpr ⟨lw_p37, List.forall_mem_cons.mpr ⟨lw_p38, List.forall_mem_cons.mpr ⟨lw_p39, List.forall_mem_cons.mpr ⟨lw_p40, List.forall_mem_cons.mpr ⟨lw_p41, List.forall_mem_cons.mpr ⟨lw_p42, List.forall_mem_cons.mpr ⟨lw_p43, List.forall_mem_cons.mpr ⟨lw_p44, List.forall_mem_cons.mpr ⟨lw_p45, List.forall_mem_cons.mpr ⟨lw_p46, List.forall_mem_cons.mpr ⟨lw_p47, fun _ h => absurd h List.not_mem_nil⟩⟩⟩⟩⟩⟩⟩⟩⟩⟩⟩⟩⟩⟩⟩⟩
theorem lw_p48 : lw_okq (⟨"FieldBandModel", "plainPlays", "(I)I"⟩, 24) := ⟨⟨by decide +kernel, by decide +kernel⟩, List.mem_of_getElem? (i := 772) (by decide +kernel), List.mem_of_getElem? (i := 1128) (by decide +kernel), List.mem_of_getElem? (i := 1129) (by decide +kernel)⟩
theorem lw_p49 : lw_okq (⟨"FieldBandModel", "fitsActs", "(I)I"⟩, 24) := ⟨⟨by decide +kernel, by decide +kernel⟩, List.mem_of_getElem? (i := 772) (by decide +kernel), List.mem_of_getElem? (i := 1132) (by decide +kernel), List.mem_of_getElem? (i := 1133) (by decide +kernel)⟩
theorem lw_p50 : lw_okq (⟨"FieldBandModel", "plainFits", "(I)I"⟩, 24) := ⟨⟨by decide +kernel, by decide +kernel⟩, List.mem_of_getElem? (i := 772) (by decide +kernel), List.mem_of_getElem? (i := 1136) (by decide +kernel), List.mem_of_getElem? (i := 1137) (by decide +kernel)⟩
def lw_privs_4 : List (MethodName × Nat) := [(⟨"FieldBandModel", "plainPlays", "(I)I"⟩, 24), (⟨"FieldBandModel", "fitsActs", "(I)I"⟩, 24), (⟨"FieldBandModel", "plainFits", "(I)I"⟩, 24)]
theorem lw_r4 : ∀ q ∈ lw_privs_4, lw_okq q := List.forall_mem_cons.mpr ⟨lw_p48, List.forall_mem_cons.mpr ⟨lw_p49, List.forall_mem_cons.mpr ⟨lw_p50, fun _ h => absurd h List.not_mem_nil⟩⟩⟩
def lw_privs : List (MethodName × Nat) := lw_privs_1 ++ (lw_privs_2 ++ (lw_privs_3 ++ (lw_privs_4)))
def lw_tbl : List Cond := k2_sels lw_privs ++ tables_1
theorem lw_privs_ok : ∀ q ∈ lw_privs, lw_okq q := by
  show ∀ q ∈ lw_privs_1 ++ (lw_privs_2 ++ (lw_privs_3 ++ (lw_privs_4))), lw_okq q
  exact List.forall_mem_append.mpr ⟨lw_r1, List.forall_mem_append.mpr ⟨lw_r2, List.forall_mem_append.mpr ⟨lw_r3, lw_r4⟩⟩⟩
theorem goodIn_r {big : List Cond} (ws : List Cond) (ps : List Nat) (hp : ws = ps.filterMap (fun i => big[i]?)) (h : ws.all goodWord = true) : GoodIn big ws := by
  intro w hw
  have h1 := List.all_eq_true.mp h w hw
  rw [hp] at hw
  obtain ⟨i, -, hi⟩ := List.mem_filterMap.mp hw
  have hm : w ∈ big := by first | exact List.mem_of_getElem? hi | exact List.getElem?_mem hi
  exact ⟨hm, good_of_word h1⟩
theorem goodIn_app {big a b : List Cond} (ha : GoodIn big a) (hb : GoodIn big b) : GoodIn big (a ++ b) := fun w h => (List.mem_append.mp h).elim (ha w) (hb w)
theorem goodIn_ca {big a b : List Cond} {c : Cond} (ha : GoodIn big (c :: a)) (hb : GoodIn big b) : GoodIn big (c :: (a ++ b)) := fun w h => (List.mem_cons.mp h).elim (fun e => ha w (List.mem_cons.mpr (Or.inl e))) (fun h => (List.mem_append.mp h).elim (fun h => ha w (List.mem_cons.mpr (Or.inr h))) (hb w))
theorem goodIn_sub {big ws : List Cond} (hm : ∀ w ∈ ws, w ∈ big) (h : ws.all goodWord = true) : GoodIn big ws := fun w hw => ⟨hm w hw, good_of_word (List.all_eq_true.mp h w hw)⟩
def RX0 : String := "FieldBand$Deed"
def TX0 : u_T := fun k => match k with
  | 0 => ("FieldBand$Deed", "kind", "I", false)
  | 1 => ("FieldBand$Deed", "number", "I", false)
  | 2 => ("FieldBand$Deed", "v", "I", false)
  | 3 => ("FieldBand$Deed", "ran", "I", false)
  | _ => ("FieldBand$Deed", "bodies", "[I", true)
def tyX0 : Nat → FieldType := fun k => match k with
  | 0 => .int
  | 1 => .int
  | 2 => .int
  | 3 => .int
  | _ => .array .int
abbrev wsX00 : List Cond := u_ws RX0 TX0 5
theorem nmX0 : ∀ a, a < 5 → ∀ b, b < 5 → a ≠ b → (TX0 a).2.1 ≠ (TX0 b).2.1 := by decide +kernel
theorem tyX0_ok : ∀ k, k < 5 → parseFieldDescriptor (TX0 k).2.2.1 = some (tyX0 k) := by decide +kernel
abbrev cX0_init : ByteArray := prog_2_method_1_code
def yX0_init : MethodName := ⟨RX0, "<init>", "()V"⟩
abbrev cX0_runFrom : ByteArray := prog_2_method_2_code
def yX0_runFrom : MethodName := ⟨RX0, "runFrom", "(IIII)I"⟩
abbrev cX0_bodyOf : ByteArray := prog_2_method_3_code
def yX0_bodyOf : MethodName := ⟨RX0, "bodyOf", "(II)I"⟩
abbrev cX0_begin : ByteArray := prog_2_method_4_code
def yX0_begin : MethodName := ⟨RX0, "begin", "(I)V"⟩
abbrev cX0_runBody : ByteArray := prog_2_method_5_code
def yX0_runBody : MethodName := ⟨RX0, "runBody", "(IIII)I"⟩
def RX1 : String := "FieldBand$Field"
def TX1 : u_T := fun k => match k with
  | 0 => ("FieldBand$Field", "players", "I", false)
  | 1 => ("FieldBand$Field", "kind", "[I", true)
  | 2 => ("FieldBand$Field", "v", "[I", true)
  | 3 => ("FieldBand$Field", "dot", "[I", true)
  | 4 => ("FieldBand$Field", "drum", "I", false)
  | 5 => ("FieldBand$Field", "formed", "I", false)
  | 6 => ("FieldBand$Field", "form", "[I", true)
  | 7 => ("FieldBand$Field", "filmed", "I", false)
  | 8 => ("FieldBand$Field", "film", "[I", true)
  | 9 => ("FieldBand$Field", "bytes", "I", false)
  | 10 => ("FieldBand$Field", "tape", "[B", true)
  | _ => ("FieldBand$Field", "shows", "I", false)
def tyX1 : Nat → FieldType := fun k => match k with
  | 0 => .int
  | 1 => .array .int
  | 2 => .array .int
  | 3 => .array .int
  | 4 => .int
  | 5 => .int
  | 6 => .array .int
  | 7 => .int
  | 8 => .array .int
  | 9 => .int
  | 10 => .array .byte
  | _ => .int
abbrev wsX10 : List Cond := u_ws RX1 TX1 12
theorem nmX1 : ∀ a, a < 12 → ∀ b, b < 12 → a ≠ b → (TX1 a).2.1 ≠ (TX1 b).2.1 := by decide +kernel
theorem tyX1_ok : ∀ k, k < 12 → parseFieldDescriptor (TX1 k).2.2.1 = some (tyX1 k) := by decide +kernel
abbrev cX1_init : ByteArray := prog_3_method_1_code
def yX1_init : MethodName := ⟨RX1, "<init>", "()V"⟩
abbrev cX1_takeOver : ByteArray := prog_3_method_2_code
def yX1_takeOver : MethodName := ⟨RX1, "takeOver", "(LFieldBand$Field;)V"⟩
abbrev cX1_playerOn : ByteArray := prog_3_method_3_code
def yX1_playerOn : MethodName := ⟨RX1, "playerOn", "(I)I"⟩
abbrev cX1_isInForm : ByteArray := prog_3_method_4_code
def yX1_isInForm : MethodName := ⟨RX1, "isInForm", "(I)Z"⟩
abbrev cX1_hasTooFewDots : ByteArray := prog_3_method_5_code
def yX1_hasTooFewDots : MethodName := ⟨RX1, "hasTooFewDots", "()Z"⟩
abbrev cX1_meetHalfWay : ByteArray := prog_3_method_6_code
def yX1_meetHalfWay : MethodName := ⟨RX1, "meetHalfWay", "(II)Z"⟩
def RX2 : String := "FieldBand$Reader"
def TX2 : u_T := fun k => match k with
  | 0 => ("FieldBand$Reader", "field", "LFieldBand$Field;", true)
  | 1 => ("FieldBand$Reader", "show", "LFieldBand$Show;", false)
  | _ => ("FieldBand$Reader", "at", "I", false)
def tyX2 : Nat → FieldType := fun k => match k with
  | 0 => .object "FieldBand$Field"
  | 1 => .object "FieldBand$Show"
  | _ => .int
abbrev wsX20 : List Cond := u_ws RX2 TX2 3
theorem nmX2 : ∀ a, a < 3 → ∀ b, b < 3 → a ≠ b → (TX2 a).2.1 ≠ (TX2 b).2.1 := by decide +kernel
theorem tyX2_ok : ∀ k, k < 3 → parseFieldDescriptor (TX2 k).2.2.1 = some (tyX2 k) := by decide +kernel
abbrev cX2_init : ByteArray := prog_4_method_1_code
def yX2_init : MethodName := ⟨RX2, "<init>", "(LFieldBand$Field;LFieldBand$Show;)V"⟩
abbrev cX2_readInto : ByteArray := prog_4_method_2_code
def yX2_readInto : MethodName := ⟨RX2, "readInto", "(LFieldBand$Show;)I"⟩
abbrev cX2_readClause : ByteArray := prog_4_method_3_code
def yX2_readClause : MethodName := ⟨RX2, "readClause", "()Z"⟩
abbrev cX2_readWord : ByteArray := prog_4_method_4_code
def yX2_readWord : MethodName := ⟨RX2, "readWord", "()I"⟩
abbrev cX2_textOf : ByteArray := prog_4_method_5_code
def yX2_textOf : MethodName := ⟨RX2, "textOf", "(I)Ljava/lang/String;"⟩
abbrev cX2_sameSigns : ByteArray := prog_4_method_6_code
def yX2_sameSigns : MethodName := ⟨RX2, "sameSigns", "(Ljava/lang/String;)I"⟩
abbrev cX2_readEither : ByteArray := prog_4_method_7_code
def yX2_readEither : MethodName := ⟨RX2, "readEither", "(I)Z"⟩
abbrev cX2_readBoth : ByteArray := prog_4_method_8_code
def yX2_readBoth : MethodName := ⟨RX2, "readBoth", "(I)Z"⟩
abbrev cX2_readFactor : ByteArray := prog_4_method_9_code
def yX2_readFactor : MethodName := ⟨RX2, "readFactor", "(I)Z"⟩
abbrev cX2_readTest : ByteArray := prog_4_method_10_code
def yX2_readTest : MethodName := ⟨RX2, "readTest", "()Z"⟩
abbrev cX2_readNumber : ByteArray := prog_4_method_11_code
def yX2_readNumber : MethodName := ⟨RX2, "readNumber", "()I"⟩
abbrev cX2_take : ByteArray := prog_4_method_12_code
def yX2_take : MethodName := ⟨RX2, "take", "(Ljava/lang/String;)Z"⟩
abbrev cX2_takeOneOf : ByteArray := prog_4_method_13_code
def yX2_takeOneOf : MethodName := ⟨RX2, "takeOneOf", "(Ljava/lang/String;)I"⟩
def RX3 : String := "FieldBand$Show"
def TX3 : u_T := fun k => match k with
  | 0 => ("FieldBand$Show", "speed", "I", false)
  | 1 => ("FieldBand$Show", "beat", "I", false)
  | 2 => ("FieldBand$Show", "step", "I", false)
  | 3 => ("FieldBand$Show", "clauses", "I", false)
  | 4 => ("FieldBand$Show", "word", "[I", true)
  | 5 => ("FieldBand$Show", "amount", "[I", true)
  | 6 => ("FieldBand$Show", "start", "[I", true)
  | 7 => ("FieldBand$Show", "end", "[I", true)
  | 8 => ("FieldBand$Show", "used", "I", false)
  | _ => ("FieldBand$Show", "code", "[I", true)
def tyX3 : Nat → FieldType := fun k => match k with
  | 0 => .int
  | 1 => .int
  | 2 => .int
  | 3 => .int
  | 4 => .array .int
  | 5 => .array .int
  | 6 => .array .int
  | 7 => .array .int
  | 8 => .int
  | _ => .array .int
abbrev wsX30 : List Cond := u_ws RX3 TX3 10
theorem nmX3 : ∀ a, a < 10 → ∀ b, b < 10 → a ≠ b → (TX3 a).2.1 ≠ (TX3 b).2.1 := by decide +kernel
theorem tyX3_ok : ∀ k, k < 10 → parseFieldDescriptor (TX3 k).2.2.1 = some (tyX3 k) := by decide +kernel
abbrev cX3_init : ByteArray := prog_5_method_1_code
def yX3_init : MethodName := ⟨RX3, "<init>", "()V"⟩
abbrev cX3_clear : ByteArray := prog_5_method_2_code
def yX3_clear : MethodName := ⟨RX3, "clear", "()V"⟩
abbrev cX3_write : ByteArray := prog_5_method_3_code
def yX3_write : MethodName := ⟨RX3, "write", "(I)V"⟩
abbrev cX3_addClause : ByteArray := prog_5_method_4_code
def yX3_addClause : MethodName := ⟨RX3, "addClause", "(III)V"⟩
abbrev cX3_sumOf : ByteArray := prog_5_method_5_code
def yX3_sumOf : MethodName := ⟨RX3, "sumOf", "(I[I)I"⟩
abbrev cX3_holds : ByteArray := prog_5_method_6_code
def yX3_holds : MethodName := ⟨RX3, "holds", "(II[I)Z"⟩
abbrev cX3_codeOfTest : ByteArray := prog_5_method_7_code
def yX3_codeOfTest : MethodName := ⟨RX3, "codeOfTest", "(III)I"⟩
abbrev cX3_passes : ByteArray := prog_5_method_8_code
def yX3_passes : MethodName := ⟨RX3, "passes", "(I[I)Z"⟩
def RX4 : String := "FieldBand$Sound"
def TX4 : u_T := fun k => match k with
  | 0 => ("FieldBand$Sound", "field", "LFieldBand$Field;", true)
  | 1 => ("FieldBand$Sound", "show", "LFieldBand$Show;", false)
  | 2 => ("FieldBand$Sound", "drum", "I", false)
  | 3 => ("FieldBand$Sound", "absent", "I", false)
  | 4 => ("FieldBand$Sound", "kind", "[I", true)
  | 5 => ("FieldBand$Sound", "slip", "[I", true)
  | 6 => ("FieldBand$Sound", "source", "[I", true)
  | 7 => ("FieldBand$Sound", "plays", "[I", true)
  | _ => ("FieldBand$Sound", "about", "[I", true)
def tyX4 : Nat → FieldType := fun k => match k with
  | 0 => .object "FieldBand$Field"
  | 1 => .object "FieldBand$Show"
  | 2 => .int
  | 3 => .int
  | 4 => .array .int
  | 5 => .array .int
  | 6 => .array .int
  | 7 => .array .int
  | _ => .array .int
abbrev wsX40 : List Cond := u_ws RX4 TX4 9
theorem nmX4 : ∀ a, a < 9 → ∀ b, b < 9 → a ≠ b → (TX4 a).2.1 ≠ (TX4 b).2.1 := by decide +kernel
theorem tyX4_ok : ∀ k, k < 9 → parseFieldDescriptor (TX4 k).2.2.1 = some (tyX4 k) := by decide +kernel
abbrev cX4_init : ByteArray := prog_6_method_1_code
def yX4_init : MethodName := ⟨RX4, "<init>", "(LFieldBand$Field;LFieldBand$Show;)V"⟩
abbrev cX4_hearAll : ByteArray := prog_6_method_2_code
def yX4_hearAll : MethodName := ⟨RX4, "hearAll", "(LFieldBand$Show;)V"⟩
abbrev cX4_slipAll : ByteArray := prog_6_method_3_code
def yX4_slipAll : MethodName := ⟨RX4, "slipAll", "()V"⟩
abbrev cX4_arrange : ByteArray := prog_6_method_4_code
def yX4_arrange : MethodName := ⟨RX4, "arrange", "()V"⟩
abbrev cX4_playAll : ByteArray := prog_6_method_5_code
def yX4_playAll : MethodName := ⟨RX4, "playAll", "()V"⟩
abbrev cX4_loudness : ByteArray := prog_6_method_6_code
def yX4_loudness : MethodName := ⟨RX4, "loudness", "(I)I"⟩
abbrev cX4_sumFor : ByteArray := prog_6_method_7_code
def yX4_sumFor : MethodName := ⟨RX4, "sumFor", "(II)I"⟩
abbrev cX4_sourceOf : ByteArray := prog_6_method_8_code
def yX4_sourceOf : MethodName := ⟨RX4, "sourceOf", "(I)I"⟩
abbrev cX4_nearestInColumn : ByteArray := prog_6_method_9_code
def yX4_nearestInColumn : MethodName := ⟨RX4, "nearestInColumn", "(II)I"⟩
abbrev cX4_playedBy : ByteArray := prog_6_method_10_code
def yX4_playedBy : MethodName := ⟨RX4, "playedBy", "(I)I"⟩
abbrev cX4_ownMore : ByteArray := prog_6_method_11_code
def yX4_ownMore : MethodName := ⟨RX4, "ownMore", "(I)I"⟩
abbrev cX4_arrival : ByteArray := prog_6_method_12_code
def yX4_arrival : MethodName := ⟨RX4, "arrival", "(II)I"⟩
abbrev cX4_earliest : ByteArray := prog_6_method_13_code
def yX4_earliest : MethodName := ⟨RX4, "earliest", "(I)I"⟩
abbrev cX4_spreadAt : ByteArray := prog_6_method_14_code
def yX4_spreadAt : MethodName := ⟨RX4, "spreadAt", "(I)I"⟩
abbrev cX4_sumOfSpreads : ByteArray := prog_6_method_15_code
def yX4_sumOfSpreads : MethodName := ⟨RX4, "sumOfSpreads", "()I"⟩
abbrev cX4_sumWithDrumOn : ByteArray := prog_6_method_16_code
def yX4_sumWithDrumOn : MethodName := ⟨RX4, "sumWithDrumOn", "(I)I"⟩
abbrev cX4_sumWithout : ByteArray := prog_6_method_17_code
def yX4_sumWithout : MethodName := ⟨RX4, "sumWithout", "(I)I"⟩
abbrev cX4_arrivalAsKind : ByteArray := prog_6_method_18_code
def yX4_arrivalAsKind : MethodName := ⟨RX4, "arrivalAsKind", "(III)I"⟩
abbrev cX4_loudTogether : ByteArray := prog_6_method_19_code
def yX4_loudTogether : MethodName := ⟨RX4, "loudTogether", "(II)I"⟩
abbrev cX4_likeDrum : ByteArray := prog_6_method_20_code
def yX4_likeDrum : MethodName := ⟨RX4, "likeDrum", "(II)I"⟩
def RX5 : String := "FieldBand$Ways"
def TX5 : u_T := fun k => match k with
  | 0 => ("FieldBand$Ways", "field", "LFieldBand$Field;", true)
  | 1 => ("FieldBand$Ways", "row", "[I", true)
  | 2 => ("FieldBand$Ways", "best", "[I", true)
  | 3 => ("FieldBand$Ways", "greatest", "I", false)
  | _ => ("FieldBand$Ways", "sum", "I", false)
def tyX5 : Nat → FieldType := fun k => match k with
  | 0 => .object "FieldBand$Field"
  | 1 => .array .int
  | 2 => .array .int
  | 3 => .int
  | _ => .int
abbrev wsX50 : List Cond := u_ws RX5 TX5 5
theorem nmX5 : ∀ a, a < 5 → ∀ b, b < 5 → a ≠ b → (TX5 a).2.1 ≠ (TX5 b).2.1 := by decide +kernel
theorem tyX5_ok : ∀ k, k < 5 → parseFieldDescriptor (TX5 k).2.2.1 = some (tyX5 k) := by decide +kernel
abbrev cX5_init : ByteArray := prog_7_method_1_code
def yX5_init : MethodName := ⟨RX5, "<init>", "(LFieldBand$Field;)V"⟩
abbrev cX5_find : ByteArray := prog_7_method_2_code
def yX5_find : MethodName := ⟨RX5, "find", "()V"⟩
abbrev cX5_tryPlaces : ByteArray := prog_7_method_3_code
def yX5_tryPlaces : MethodName := ⟨RX5, "tryPlaces", "(IIII)V"⟩
abbrev cX5_isBetter : ByteArray := prog_7_method_4_code
def yX5_isBetter : MethodName := ⟨RX5, "isBetter", "(II)Z"⟩
def RX6 : String := "FieldBand"
def TX6 : u_T := fun k => match k with
  | 0 => ("FieldBand", "now", "LFieldBand$Field;", true)
  | 1 => ("FieldBand", "kept", "LFieldBand$Field;", true)
  | 2 => ("FieldBand", "isKept", "Z", false)
  | 3 => ("FieldBand", "shows", "[LFieldBand$Show;", true)
  | 4 => ("FieldBand", "reader", "LFieldBand$Reader;", true)
  | 5 => ("FieldBand", "sound", "LFieldBand$Sound;", true)
  | 6 => ("FieldBand", "ways", "LFieldBand$Ways;", true)
  | _ => ("FieldBand", "deed", "LFieldBand$Deed;", true)
def tyX6 : Nat → FieldType := fun k => match k with
  | 0 => .object "FieldBand$Field"
  | 1 => .object "FieldBand$Field"
  | 2 => .boolean
  | 3 => .array (.object "FieldBand$Show")
  | 4 => .object "FieldBand$Reader"
  | 5 => .object "FieldBand$Sound"
  | 6 => .object "FieldBand$Ways"
  | _ => .object "FieldBand$Deed"
abbrev wsX60 : List Cond := u_ws RX6 TX6 8
theorem nmX6 : ∀ a, a < 8 → ∀ b, b < 8 → a ≠ b → (TX6 a).2.1 ≠ (TX6 b).2.1 := by decide +kernel
theorem tyX6_ok : ∀ k, k < 8 → parseFieldDescriptor (TX6 k).2.2.1 = some (tyX6 k) := by decide +kernel
abbrev cX6_init : ByteArray := prog_1_method_1_code
def yX6_init : MethodName := ⟨RX6, "<init>", "()V"⟩
abbrev cX6_feed : ByteArray := prog_1_method_2_code
def yX6_feed : MethodName := ⟨RX6, "feed", "(JI)I"⟩
abbrev cX6_show : ByteArray := prog_1_method_3_code
def yX6_show : MethodName := ⟨RX6, "show", "()I"⟩
abbrev cX6_told : ByteArray := prog_1_method_4_code
def yX6_told : MethodName := ⟨RX6, "told", "(I)I"⟩
abbrev cX6_player : ByteArray := prog_1_method_5_code
def yX6_player : MethodName := ⟨RX6, "player", "(III)I"⟩
abbrev cX6_of : ByteArray := prog_1_method_6_code
def yX6_of : MethodName := ⟨RX6, "of", "(II)I"⟩
abbrev cX6_drum : ByteArray := prog_1_method_7_code
def yX6_drum : MethodName := ⟨RX6, "drum", "(I)I"⟩
abbrev cX6_put : ByteArray := prog_1_method_8_code
def yX6_put : MethodName := ⟨RX6, "put", "(II)I"⟩
abbrev cX6_heard : ByteArray := prog_1_method_9_code
def yX6_heard : MethodName := ⟨RX6, "heard", "(II)I"⟩
abbrev cX6_spread : ByteArray := prog_1_method_10_code
def yX6_spread : MethodName := ⟨RX6, "spread", "(II)I"⟩
abbrev cX6_back : ByteArray := prog_1_method_11_code
def yX6_back : MethodName := ⟨RX6, "back", "(II)I"⟩
abbrev cX6_best : ByteArray := prog_1_method_12_code
def yX6_best : MethodName := ⟨RX6, "best", "(I)I"⟩
abbrev cX6_early : ByteArray := prog_1_method_13_code
def yX6_early : MethodName := ⟨RX6, "early", "(II)I"⟩
abbrev cX6_beats : ByteArray := prog_1_method_14_code
def yX6_beats : MethodName := ⟨RX6, "beats", "(I)I"⟩
abbrev cX6_form : ByteArray := prog_1_method_15_code
def yX6_form : MethodName := ⟨RX6, "form", "(I)I"⟩
abbrev cX6_way : ByteArray := prog_1_method_16_code
def yX6_way : MethodName := ⟨RX6, "way", "(I)I"⟩
abbrev cX6_counts : ByteArray := prog_1_method_17_code
def yX6_counts : MethodName := ⟨RX6, "counts", "()I"⟩
abbrev cX6_meet : ByteArray := prog_1_method_18_code
def yX6_meet : MethodName := ⟨RX6, "meet", "()I"⟩
abbrev cX6_hard : ByteArray := prog_1_method_19_code
def yX6_hard : MethodName := ⟨RX6, "hard", "(I)I"⟩
abbrev cX6_march : ByteArray := prog_1_method_20_code
def yX6_march : MethodName := ⟨RX6, "march", "()I"⟩
abbrev cX6_seen : ByteArray := prog_1_method_21_code
def yX6_seen : MethodName := ⟨RX6, "seen", "(I)I"⟩
abbrev cX6_off : ByteArray := prog_1_method_22_code
def yX6_off : MethodName := ⟨RX6, "off", "(I)I"⟩
abbrev cX6_whom : ByteArray := prog_1_method_23_code
def yX6_whom : MethodName := ⟨RX6, "whom", "(III)I"⟩
abbrev cX6_out : ByteArray := prog_1_method_24_code
def yX6_out : MethodName := ⟨RX6, "out", "()I"⟩
abbrev cX6_act : ByteArray := prog_1_method_25_code
def yX6_act : MethodName := ⟨RX6, "act", "(III)I"⟩
abbrev cX6_trace : ByteArray := prog_1_method_26_code
def yX6_trace : MethodName := ⟨RX6, "trace", "(I)I"⟩
abbrev cX6_as : ByteArray := prog_1_method_27_code
def yX6_as : MethodName := ⟨RX6, "as", "(II)I"⟩
abbrev cX6_image : ByteArray := prog_1_method_28_code
def yX6_image : MethodName := ⟨RX6, "image", "()I"⟩
abbrev cX6_undo : ByteArray := prog_1_method_29_code
def yX6_undo : MethodName := ⟨RX6, "undo", "()I"⟩
abbrev cX6_count : ByteArray := prog_1_method_30_code
def yX6_count : MethodName := ⟨RX6, "count", "(I)I"⟩
abbrev cX6_isPlayer : ByteArray := prog_1_method_31_code
def yX6_isPlayer : MethodName := ⟨RX6, "isPlayer", "(I)Z"⟩
abbrev cX6_held : ByteArray := prog_1_method_32_code
def yX6_held : MethodName := ⟨RX6, "held", "()LFieldBand$Show;"⟩
abbrev cX6_listen : ByteArray := prog_1_method_33_code
def yX6_listen : MethodName := ⟨RX6, "listen", "()LFieldBand$Sound;"⟩
abbrev cX6_findWay : ByteArray := prog_1_method_34_code
def yX6_findWay : MethodName := ⟨RX6, "findWay", "()I"⟩
abbrev cX6_isBelow : ByteArray := prog_1_method_35_code
def yX6_isBelow : MethodName := ⟨RX6, "isBelow", "(II)Z"⟩
abbrev cX6_rowOf : ByteArray := prog_1_method_36_code
def yX6_rowOf : MethodName := ⟨RX6, "rowOf", "(I)I"⟩
abbrev cX6_columnOf : ByteArray := prog_1_method_37_code
def yX6_columnOf : MethodName := ⟨RX6, "columnOf", "(I)I"⟩
abbrev cX6_placeOfSeat : ByteArray := prog_1_method_38_code
def yX6_placeOfSeat : MethodName := ⟨RX6, "placeOfSeat", "(I)I"⟩
abbrev cX6_far : ByteArray := prog_1_method_39_code
def yX6_far : MethodName := ⟨RX6, "far", "(II)I"⟩
abbrev cX6_isUnder : ByteArray := prog_1_method_40_code
def yX6_isUnder : MethodName := ⟨RX6, "isUnder", "(II)Z"⟩
def RX7 : String := "FieldBandModel"
def TX7 : u_T := fun k => match k with
  | 0 => ("FieldBandModel", "thrown", "I", false)
  | 1 => ("FieldBandModel", "s", "[I", true)
  | 2 => ("FieldBandModel", "image", "[I", true)
  | 3 => ("FieldBandModel", "hasImage", "Z", false)
  | 4 => ("FieldBandModel", "act", "I", false)
  | 5 => ("FieldBandModel", "spot", "I", false)
  | 6 => ("FieldBandModel", "end", "I", false)
  | 7 => ("FieldBandModel", "isWrong", "Z", false)
  | 8 => ("FieldBandModel", "open", "I", false)
  | 9 => ("FieldBandModel", "by", "[I", true)
  | 10 => ("FieldBandModel", "truths", "[Z", true)
  | 11 => ("FieldBandModel", "loud", "I", false)
  | 12 => ("FieldBandModel", "slip", "I", false)
  | 13 => ("FieldBandModel", "without", "I", false)
  | 14 => ("FieldBandModel", "earliest", "I", false)
  | 15 => ("FieldBandModel", "goes", "[I", true)
  | 16 => ("FieldBandModel", "bestGoes", "[I", true)
  | 17 => ("FieldBandModel", "greatest", "I", false)
  | 18 => ("FieldBandModel", "sum", "I", false)
  | 19 => ("FieldBandModel", "bodies", "[I", true)
  | 20 => ("FieldBandModel", "ran", "I", false)
  | 21 => ("FieldBandModel", "kindNow", "I", false)
  | 22 => ("FieldBandModel", "number", "I", false)
  | _ => ("FieldBandModel", "tellsV", "I", false)
def tyX7 : Nat → FieldType := fun k => match k with
  | 0 => .int
  | 1 => .array .int
  | 2 => .array .int
  | 3 => .boolean
  | 4 => .int
  | 5 => .int
  | 6 => .int
  | 7 => .boolean
  | 8 => .int
  | 9 => .array .int
  | 10 => .array .boolean
  | 11 => .int
  | 12 => .int
  | 13 => .int
  | 14 => .int
  | 15 => .array .int
  | 16 => .array .int
  | 17 => .int
  | 18 => .int
  | 19 => .array .int
  | 20 => .int
  | 21 => .int
  | 22 => .int
  | _ => .int
abbrev wsX70 : List Cond := u_ws RX7 TX7 24
theorem nmX7 : ∀ a, a < 24 → ∀ b, b < 24 → a ≠ b → (TX7 a).2.1 ≠ (TX7 b).2.1 := by decide +kernel
theorem tyX7_ok : ∀ k, k < 24 → parseFieldDescriptor (TX7 k).2.2.1 = some (tyX7 k) := by decide +kernel
abbrev cX7_init : ByteArray := prog_9_method_1_code
def yX7_init : MethodName := ⟨RX7, "<init>", "()V"⟩
abbrev cX7_in : ByteArray := prog_9_method_3_code
def yX7_in : MethodName := ⟨RX7, "in", "(III)Z"⟩
abbrev cX7_size : ByteArray := prog_9_method_4_code
def yX7_size : MethodName := ⟨RX7, "size", "(I)I"⟩
abbrev cX7_isDot : ByteArray := prog_9_method_5_code
def yX7_isDot : MethodName := ⟨RX7, "isDot", "(I)Z"⟩
abbrev cX7_isSeat : ByteArray := prog_9_method_6_code
def yX7_isSeat : MethodName := ⟨RX7, "isSeat", "(I)Z"⟩
abbrev cX7_isPlayer : ByteArray := prog_9_method_7_code
def yX7_isPlayer : MethodName := ⟨RX7, "isPlayer", "(I)Z"⟩
abbrev cX7_far : ByteArray := prog_9_method_8_code
def yX7_far : MethodName := ⟨RX7, "far", "(II)I"⟩
abbrev cX7_feed : ByteArray := prog_9_method_9_code
def yX7_feed : MethodName := ⟨RX7, "feed", "(JI)I"⟩
abbrev cX7_here : ByteArray := prog_9_method_10_code
def yX7_here : MethodName := ⟨RX7, "here", "()I"⟩
abbrev cX7_must : ByteArray := prog_9_method_11_code
def yX7_must : MethodName := ⟨RX7, "must", "(I)V"⟩
abbrev cX7_spells : ByteArray := prog_9_method_12_code
def yX7_spells : MethodName := ⟨RX7, "spells", "(Ljava/lang/String;)V"⟩
abbrev cX7_figures : ByteArray := prog_9_method_13_code
def yX7_figures : MethodName := ⟨RX7, "figures", "()I"⟩
abbrev cX7_among : ByteArray := prog_9_method_14_code
def yX7_among : MethodName := ⟨RX7, "among", "(Ljava/lang/String;)I"⟩
abbrev cX7_emits : ByteArray := prog_9_method_15_code
def yX7_emits : MethodName := ⟨RX7, "emits", "(I)V"⟩
abbrev cX7_factor : ByteArray := prog_9_method_16_code
def yX7_factor : MethodName := ⟨RX7, "factor", "()V"⟩
abbrev cX7_every : ByteArray := prog_9_method_17_code
def yX7_every : MethodName := ⟨RX7, "every", "()V"⟩
abbrev cX7_some : ByteArray := prog_9_method_18_code
def yX7_some : MethodName := ⟨RX7, "some", "()V"⟩
abbrev cX7_much : ByteArray := prog_9_method_19_code
def yX7_much : MethodName := ⟨RX7, "much", "(ILjava/lang/String;)V"⟩
abbrev cX7_tellsHere : ByteArray := prog_9_method_20_code
def yX7_tellsHere : MethodName := ⟨RX7, "tellsHere", "(ILjava/lang/String;)V"⟩
abbrev cX7_clauseHere : ByteArray := prog_9_method_21_code
def yX7_clauseHere : MethodName := ⟨RX7, "clauseHere", "()V"⟩
abbrev cX7_show : ByteArray := prog_9_method_22_code
def yX7_show : MethodName := ⟨RX7, "show", "()I"⟩
abbrev cX7_tellsOf : ByteArray := prog_9_method_23_code
def yX7_tellsOf : MethodName := ⟨RX7, "tellsOf", "(II)I"⟩
abbrev cX7_atLeastOne : ByteArray := prog_9_method_24_code
def yX7_atLeastOne : MethodName := ⟨RX7, "atLeastOne", "(I)I"⟩
abbrev cX7_speed : ByteArray := prog_9_method_25_code
def yX7_speed : MethodName := ⟨RX7, "speed", "()I"⟩
abbrev cX7_told : ByteArray := prog_9_method_26_code
def yX7_told : MethodName := ⟨RX7, "told", "(I)I"⟩
abbrev cX7_looks : ByteArray := prog_9_method_27_code
def yX7_looks : MethodName := ⟨RX7, "looks", "(II)V"⟩
abbrev cX7_playerOn : ByteArray := prog_9_method_28_code
def yX7_playerOn : MethodName := ⟨RX7, "playerOn", "(I)I"⟩
abbrev cX7_player : ByteArray := prog_9_method_29_code
def yX7_player : MethodName := ⟨RX7, "player", "(III)I"⟩
abbrev cX7_drum : ByteArray := prog_9_method_30_code
def yX7_drum : MethodName := ⟨RX7, "drum", "(I)I"⟩
abbrev cX7_put : ByteArray := prog_9_method_31_code
def yX7_put : MethodName := ⟨RX7, "put", "(II)I"⟩
abbrev cX7_nearestInColumn : ByteArray := prog_9_method_32_code
def yX7_nearestInColumn : MethodName := ⟨RX7, "nearestInColumn", "(IZ)I"⟩
abbrev cX7_listening : ByteArray := prog_9_method_33_code
def yX7_listening : MethodName := ⟨RX7, "listening", "(I)I"⟩
abbrev cX7_heardFrom : ByteArray := prog_9_method_34_code
def yX7_heardFrom : MethodName := ⟨RX7, "heardFrom", "(II)I"⟩
abbrev cX7_backward : ByteArray := prog_9_method_35_code
def yX7_backward : MethodName := ⟨RX7, "backward", "(I)I"⟩
abbrev cX7_forward : ByteArray := prog_9_method_36_code
def yX7_forward : MethodName := ⟨RX7, "forward", "(I)I"⟩
abbrev cX7_playsAs : ByteArray := prog_9_method_37_code
def yX7_playsAs : MethodName := ⟨RX7, "playsAs", "(II)I"⟩
abbrev cX7_playsOf : ByteArray := prog_9_method_38_code
def yX7_playsOf : MethodName := ⟨RX7, "playsOf", "(I)I"⟩
abbrev cX7_loudOf : ByteArray := prog_9_method_39_code
def yX7_loudOf : MethodName := ⟨RX7, "loudOf", "(I)I"⟩
abbrev cX7_of : ByteArray := prog_9_method_40_code
def yX7_of : MethodName := ⟨RX7, "of", "(II)I"⟩
abbrev cX7_heardAt : ByteArray := prog_9_method_41_code
def yX7_heardAt : MethodName := ⟨RX7, "heardAt", "(II)I"⟩
abbrev cX7_heard : ByteArray := prog_9_method_42_code
def yX7_heard : MethodName := ⟨RX7, "heard", "(II)I"⟩
abbrev cX7_spreadAt : ByteArray := prog_9_method_43_code
def yX7_spreadAt : MethodName := ⟨RX7, "spreadAt", "(I)I"⟩
abbrev cX7_allSpreads : ByteArray := prog_9_method_44_code
def yX7_allSpreads : MethodName := ⟨RX7, "allSpreads", "()I"⟩
abbrev cX7_together : ByteArray := prog_9_method_45_code
def yX7_together : MethodName := ⟨RX7, "together", "(II)I"⟩
abbrev cX7_spread : ByteArray := prog_9_method_46_code
def yX7_spread : MethodName := ⟨RX7, "spread", "(II)I"⟩
abbrev cX7_back : ByteArray := prog_9_method_47_code
def yX7_back : MethodName := ⟨RX7, "back", "(II)I"⟩
abbrev cX7_best : ByteArray := prog_9_method_48_code
def yX7_best : MethodName := ⟨RX7, "best", "(I)I"⟩
abbrev cX7_early : ByteArray := prog_9_method_49_code
def yX7_early : MethodName := ⟨RX7, "early", "(II)I"⟩
abbrev cX7_beats : ByteArray := prog_9_method_50_code
def yX7_beats : MethodName := ⟨RX7, "beats", "(I)I"⟩
abbrev cX7_form : ByteArray := prog_9_method_51_code
def yX7_form : MethodName := ⟨RX7, "form", "(I)I"⟩
abbrev cX7_isTooFew : ByteArray := prog_9_method_52_code
def yX7_isTooFew : MethodName := ⟨RX7, "isTooFew", "()Z"⟩
abbrev cX7_farTo : ByteArray := prog_9_method_53_code
def yX7_farTo : MethodName := ⟨RX7, "farTo", "(II)I"⟩
abbrev cX7_rowsFrom : ByteArray := prog_9_method_54_code
def yX7_rowsFrom : MethodName := ⟨RX7, "rowsFrom", "(IIII)V"⟩
abbrev cX7_looksForWay : ByteArray := prog_9_method_55_code
def yX7_looksForWay : MethodName := ⟨RX7, "looksForWay", "()I"⟩
abbrev cX7_way : ByteArray := prog_9_method_56_code
def yX7_way : MethodName := ⟨RX7, "way", "(I)I"⟩
abbrev cX7_counts : ByteArray := prog_9_method_57_code
def yX7_counts : MethodName := ⟨RX7, "counts", "()I"⟩
abbrev cX7_meet : ByteArray := prog_9_method_58_code
def yX7_meet : MethodName := ⟨RX7, "meet", "()I"⟩
abbrev cX7_hard : ByteArray := prog_9_method_59_code
def yX7_hard : MethodName := ⟨RX7, "hard", "(I)I"⟩
abbrev cX7_march : ByteArray := prog_9_method_60_code
def yX7_march : MethodName := ⟨RX7, "march", "()I"⟩
abbrev cX7_seen : ByteArray := prog_9_method_61_code
def yX7_seen : MethodName := ⟨RX7, "seen", "(I)I"⟩
abbrev cX7_off : ByteArray := prog_9_method_62_code
def yX7_off : MethodName := ⟨RX7, "off", "(I)I"⟩
abbrev cX7_whom : ByteArray := prog_9_method_63_code
def yX7_whom : MethodName := ⟨RX7, "whom", "(III)I"⟩
abbrev cX7_out : ByteArray := prog_9_method_64_code
def yX7_out : MethodName := ⟨RX7, "out", "()I"⟩
abbrev cX7_runs : ByteArray := prog_9_method_65_code
def yX7_runs : MethodName := ⟨RX7, "runs", "(I)V"⟩
abbrev cX7_isUnder : ByteArray := prog_9_method_66_code
def yX7_isUnder : MethodName := ⟨RX7, "isUnder", "(II)Z"⟩
abbrev cX7_plainGoes : ByteArray := prog_9_method_67_code
def yX7_plainGoes : MethodName := ⟨RX7, "plainGoes", "(I)I"⟩
abbrev cX7_goesActs : ByteArray := prog_9_method_68_code
def yX7_goesActs : MethodName := ⟨RX7, "goesActs", "(I)I"⟩
abbrev cX7_plainPlays : ByteArray := prog_9_method_69_code
def yX7_plainPlays : MethodName := ⟨RX7, "plainPlays", "(I)I"⟩
abbrev cX7_playsActs : ByteArray := prog_9_method_70_code
def yX7_playsActs : MethodName := ⟨RX7, "playsActs", "(I)I"⟩
abbrev cX7_plainFits : ByteArray := prog_9_method_71_code
def yX7_plainFits : MethodName := ⟨RX7, "plainFits", "(I)I"⟩
abbrev cX7_fitsActs : ByteArray := prog_9_method_72_code
def yX7_fitsActs : MethodName := ⟨RX7, "fitsActs", "(I)I"⟩
abbrev cX7_act : ByteArray := prog_9_method_73_code
def yX7_act : MethodName := ⟨RX7, "act", "(III)I"⟩
abbrev cX7_trace : ByteArray := prog_9_method_74_code
def yX7_trace : MethodName := ⟨RX7, "trace", "(I)I"⟩
abbrev cX7_as : ByteArray := prog_9_method_75_code
def yX7_as : MethodName := ⟨RX7, "as", "(II)I"⟩
abbrev cX7_image : ByteArray := prog_9_method_76_code
def yX7_image : MethodName := ⟨RX7, "image", "()I"⟩
abbrev cX7_undo : ByteArray := prog_9_method_77_code
def yX7_undo : MethodName := ⟨RX7, "undo", "()I"⟩
abbrev cX7_count : ByteArray := prog_9_method_78_code
def yX7_count : MethodName := ⟨RX7, "count", "(I)I"⟩
def RJ11 : String := "java/lang/Character"
def TJ11 : u_T := fun k => match k with
  | _ => ("", "", "", false)
def tyJ11 : Nat → FieldType := fun k => match k with
  | _ => .int
abbrev wsJ110 : List Cond := u_ws RJ11 TJ11 0
theorem nmJ11 : ∀ a, a < 0 → ∀ b, b < 0 → a ≠ b → (TJ11 a).2.1 ≠ (TJ11 b).2.1 := by decide +kernel
theorem tyJ11_ok : ∀ k, k < 0 → parseFieldDescriptor (TJ11 k).2.2.1 = some (tyJ11 k) := by decide +kernel
abbrev cJ11_isValidCodePoint_9a6ad : ByteArray := prog_10_method_11_code
def yJ11_isValidCodePoint_9a6ad : MethodName := ⟨RJ11, "isValidCodePoint", "(I)Z"⟩
abbrev cJ11_highSurrogate_5068e : ByteArray := prog_10_method_28_code
def yJ11_highSurrogate_5068e : MethodName := ⟨RJ11, "highSurrogate", "(I)C"⟩
abbrev cJ11_lowSurrogate_5068e : ByteArray := prog_10_method_29_code
def yJ11_lowSurrogate_5068e : MethodName := ⟨RJ11, "lowSurrogate", "(I)C"⟩
def RJ9 : String := "java/lang/Math"
def TJ9 : u_T := fun k => match k with
  | _ => ("", "", "", false)
def tyJ9 : Nat → FieldType := fun k => match k with
  | _ => .int
abbrev wsJ90 : List Cond := u_ws RJ9 TJ9 0
theorem nmJ9 : ∀ a, a < 0 → ∀ b, b < 0 → a ≠ b → (TJ9 a).2.1 ≠ (TJ9 b).2.1 := by decide +kernel
theorem tyJ9_ok : ∀ k, k < 0 → parseFieldDescriptor (TJ9 k).2.2.1 = some (tyJ9 k) := by decide +kernel
abbrev cJ9_abs_0f7a4 : ByteArray := prog_11_method_59_code
def yJ9_abs_0f7a4 : MethodName := ⟨RJ9, "abs", "(I)I"⟩
abbrev cJ9_max_7cf53 : ByteArray := prog_11_method_65_code
def yJ9_max_7cf53 : MethodName := ⟨RJ9, "max", "(II)I"⟩
abbrev cJ9_min_7cf53 : ByteArray := prog_11_method_69_code
def yJ9_min_7cf53 : MethodName := ⟨RJ9, "min", "(II)I"⟩
def RJ0 : String := "java/lang/String"
def TJ0 : u_T := fun k => match k with
  | _ => ("", "", "", false)
def tyJ0 : Nat → FieldType := fun k => match k with
  | _ => .int
abbrev wsJ00 : List Cond := u_ws RJ0 TJ0 0
theorem nmJ0 : ∀ a, a < 0 → ∀ b, b < 0 → a ≠ b → (TJ0 a).2.1 ≠ (TJ0 b).2.1 := by decide +kernel
theorem tyJ0_ok : ∀ k, k < 0 → parseFieldDescriptor (TJ0 k).2.2.1 = some (tyJ0 k) := by decide +kernel
abbrev cJ0_length_8abf5 : ByteArray := prog_12_method_54_code
def yJ0_length_8abf5 : MethodName := ⟨RJ0, "length", "()I"⟩
abbrev cJ0_charAt_5068e : ByteArray := prog_12_method_56_code
def yJ0_charAt_5068e : MethodName := ⟨RJ0, "charAt", "(I)C"⟩
abbrev cJ0_indexOf_0f7a4 : ByteArray := prog_12_method_79_code
def yJ0_indexOf_0f7a4 : MethodName := ⟨RJ0, "indexOf", "(I)I"⟩
abbrev cJ0_indexOf_7cf53 : ByteArray := prog_12_method_80_code
def yJ0_indexOf_7cf53 : MethodName := ⟨RJ0, "indexOf", "(II)I"⟩
abbrev cJ0_coder_7d493 : ByteArray := prog_12_method_152_code
def yJ0_coder_7d493 : MethodName := ⟨RJ0, "coder", "()B"⟩
abbrev cJ0_isLatin1_aae02 : ByteArray := prog_12_method_154_code
def yJ0_isLatin1_aae02 : MethodName := ⟨RJ0, "isLatin1", "()Z"⟩
abbrev cJ0_checkIndex_df160 : ByteArray := prog_12_method_155_code
def yJ0_checkIndex_df160 : MethodName := ⟨RJ0, "checkIndex", "(II)V"⟩
abbrev cJ0_checkBoundsBeginEnd_23922 : ByteArray := prog_12_method_158_code
def yJ0_checkBoundsBeginEnd_23922 : MethodName := ⟨RJ0, "checkBoundsBeginEnd", "(III)V"⟩
def RJ1 : String := "java/lang/StringLatin1"
def TJ1 : u_T := fun k => match k with
  | _ => ("", "", "", false)
def tyJ1 : Nat → FieldType := fun k => match k with
  | _ => .int
abbrev wsJ10 : List Cond := u_ws RJ1 TJ1 0
theorem nmJ1 : ∀ a, a < 0 → ∀ b, b < 0 → a ≠ b → (TJ1 a).2.1 ≠ (TJ1 b).2.1 := by decide +kernel
theorem tyJ1_ok : ∀ k, k < 0 → parseFieldDescriptor (TJ1 k).2.2.1 = some (tyJ1 k) := by decide +kernel
abbrev cJ1_charAt_3b067 : ByteArray := prog_13_method_2_code
def yJ1_charAt_3b067 : MethodName := ⟨RJ1, "charAt", "([BI)C"⟩
abbrev cJ1_canEncode_9a6ad : ByteArray := prog_13_method_4_code
def yJ1_canEncode_9a6ad : MethodName := ⟨RJ1, "canEncode", "(I)Z"⟩
abbrev cJ1_indexOf_4cfef : ByteArray := prog_13_method_22_code
def yJ1_indexOf_4cfef : MethodName := ⟨RJ1, "indexOf", "([BIII)I"⟩
abbrev cJ1_indexOfChar_4cfef : ByteArray := prog_13_method_23_code
def yJ1_indexOfChar_4cfef : MethodName := ⟨RJ1, "indexOfChar", "([BIII)I"⟩
def RJ2 : String := "java/lang/StringUTF16"
def TJ2 : u_T := fun k => match k with
  | _ => ("", "", "", false)
def tyJ2 : Nat → FieldType := fun k => match k with
  | _ => .int
abbrev wsJ20 : List Cond := u_ws RJ2 TJ2 0
theorem nmJ2 : ∀ a, a < 0 → ∀ b, b < 0 → a ≠ b → (TJ2 a).2.1 ≠ (TJ2 b).2.1 := by decide +kernel
theorem tyJ2_ok : ∀ k, k < 0 → parseFieldDescriptor (TJ2 k).2.2.1 = some (tyJ2 k) := by decide +kernel
abbrev cJ2_getChar_3b067 : ByteArray := prog_14_method_5_code
def yJ2_getChar_3b067 : MethodName := ⟨RJ2, "getChar", "([BI)C"⟩
abbrev cJ2_length_9d52b : ByteArray := prog_14_method_6_code
def yJ2_length_9d52b : MethodName := ⟨RJ2, "length", "([B)I"⟩
abbrev cJ2_indexOf_4cfef : ByteArray := prog_14_method_40_code
def yJ2_indexOf_4cfef : MethodName := ⟨RJ2, "indexOf", "([BIII)I"⟩
abbrev cJ2_indexOfChar_4cfef : ByteArray := prog_14_method_47_code
def yJ2_indexOfChar_4cfef : MethodName := ⟨RJ2, "indexOfChar", "([BIII)I"⟩
abbrev cJ2_indexOfCharUnsafe_4cfef : ByteArray := prog_14_method_48_code
def yJ2_indexOfCharUnsafe_4cfef : MethodName := ⟨RJ2, "indexOfCharUnsafe", "([BIII)I"⟩
abbrev cJ2_indexOfSupplementary_4cfef : ByteArray := prog_14_method_49_code
def yJ2_indexOfSupplementary_4cfef : MethodName := ⟨RJ2, "indexOfSupplementary", "([BIII)I"⟩
abbrev cJ2_charAt_3b067 : ByteArray := prog_14_method_83_code
def yJ2_charAt_3b067 : MethodName := ⟨RJ2, "charAt", "([BI)C"⟩
abbrev cJ2_checkIndex_2214a : ByteArray := prog_14_method_91_code
def yJ2_checkIndex_2214a : MethodName := ⟨RJ2, "checkIndex", "(I[B)V"⟩
abbrev cJ2_checkBoundsBeginEnd_d044e : ByteArray := prog_14_method_93_code
def yJ2_checkBoundsBeginEnd_d044e : MethodName := ⟨RJ2, "checkBoundsBeginEnd", "(II[B)V"⟩
def RJ10 : String := "java/lang/System"
def TJ10 : u_T := fun k => match k with
  | _ => ("", "", "", false)
def tyJ10 : Nat → FieldType := fun k => match k with
  | _ => .int
abbrev wsJ100 : List Cond := u_ws RJ10 TJ10 0
theorem nmJ10 : ∀ a, a < 0 → ∀ b, b < 0 → a ≠ b → (TJ10 a).2.1 ≠ (TJ10 b).2.1 := by decide +kernel
theorem tyJ10_ok : ∀ k, k < 0 → parseFieldDescriptor (TJ10 k).2.2.1 = some (tyJ10 k) := by decide +kernel
def RJ3 : String := "jdk/internal/util/Preconditions"
def TJ3 : u_T := fun k => match k with
  | _ => ("", "", "", false)
def tyJ3 : Nat → FieldType := fun k => match k with
  | _ => .int
abbrev wsJ30 : List Cond := u_ws RJ3 TJ3 0
theorem nmJ3 : ∀ a, a < 0 → ∀ b, b < 0 → a ≠ b → (TJ3 a).2.1 ≠ (TJ3 b).2.1 := by decide +kernel
theorem tyJ3_ok : ∀ k, k < 0 → parseFieldDescriptor (TJ3 k).2.2.1 = some (tyJ3 k) := by decide +kernel
abbrev cJ3_checkIndex_8e157 : ByteArray := prog_16_method_11_code
def yJ3_checkIndex_8e157 : MethodName := ⟨RJ3, "checkIndex", "(IILjava/util/function/BiFunction;)I"⟩
abbrev cJ3_checkFromToIndex_8c36e : ByteArray := prog_16_method_12_code
def yJ3_checkFromToIndex_8c36e : MethodName := ⟨RJ3, "checkFromToIndex", "(IIILjava/util/function/BiFunction;)I"⟩
def RL : String := "FieldBandLaw"
abbrev cL_law : ByteArray := code
def yL_law : MethodName := ⟨RL, "law", "([I)Z"⟩
def wsL_law_r1 : List Cond := [Cond.classLink RL 7 RX6, Cond.instantiable RX6 8, Cond.initialized RX6, Cond.classLink RL 10 RX7, Cond.instantiable RX7 24, Cond.initialized RX7, Cond.constantLong RL 13 (4294967295), Cond.methodLink RL 9 yX6_init, Cond.instanceMethod yX6_init, Cond.code yX6_init cX6_init 2 none, Cond.methodLink RX6 3 objectInit, Cond.instanceMethod objectInit, Cond.code objectInit ⟨#[0xb1]⟩ 1 none, Cond.classLink RX6 9 RX1, Cond.instantiable RX1 12, Cond.initialized RX1, Cond.fieldLink RX6 12 "FieldBand" "now" "LFieldBand$Field;", Cond.fieldLink RX6 16 "FieldBand" "kept" "LFieldBand$Field;", Cond.fieldLink RX6 19 "FieldBand" "isKept" "Z", Cond.classLink RX6 23 RX3, Cond.fieldLink RX6 25 "FieldBand" "shows" "[LFieldBand$Show;", Cond.classLink RX6 29 RX5, Cond.instantiable RX5 5, Cond.initialized RX5]
def wsL_law_r2 : List Cond := [Cond.fieldLink RX6 34 "FieldBand" "ways" "LFieldBand$Ways;", Cond.classLink RX6 38 RX0, Cond.instantiable RX0 5, Cond.initialized RX0, Cond.fieldLink RX6 41 "FieldBand" "deed" "LFieldBand$Deed;", Cond.instantiable RX3 10, Cond.initialized RX3, Cond.classLink RX6 46 RX2, Cond.instantiable RX2 3, Cond.initialized RX2, Cond.fieldLink RX6 51 "FieldBand" "reader" "LFieldBand$Reader;", Cond.classLink RX6 55 RX4, Cond.instantiable RX4 9, Cond.initialized RX4, Cond.fieldLink RX6 58 "FieldBand" "sound" "LFieldBand$Sound;", Cond.instanceMethod yX1_init, Cond.code yX1_init cX1_init 1 none, Cond.methodLink RX1 3 objectInit, Cond.fieldLink RX1 9 "FieldBand$Field" "players" "I", Cond.arrayClass .int, Cond.fieldLink RX1 15 "FieldBand$Field" "kind" "[I", Cond.fieldLink RX1 19 "FieldBand$Field" "v" "[I", Cond.fieldLink RX1 22 "FieldBand$Field" "dot" "[I", Cond.fieldLink RX1 25 "FieldBand$Field" "drum" "I"]
def wsL_law_r3 : List Cond := [Cond.fieldLink RX1 28 "FieldBand$Field" "formed" "I", Cond.fieldLink RX1 31 "FieldBand$Field" "form" "[I", Cond.fieldLink RX1 34 "FieldBand$Field" "filmed" "I", Cond.fieldLink RX1 37 "FieldBand$Field" "film" "[I", Cond.fieldLink RX1 40 "FieldBand$Field" "bytes" "I", Cond.arrayClass .byte, Cond.fieldLink RX1 43 "FieldBand$Field" "tape" "[B", Cond.fieldLink RX1 47 "FieldBand$Field" "shows" "I", Cond.methodLink RX6 31 yX5_init, Cond.instanceMethod yX5_init, Cond.code yX5_init cX5_init 2 none, Cond.methodLink RX5 3 objectInit, Cond.fieldLink RX5 9 "FieldBand$Ways" "row" "[I", Cond.fieldLink RX5 15 "FieldBand$Ways" "best" "[I", Cond.fieldLink RX5 18 "FieldBand$Ways" "greatest" "I", Cond.fieldLink RX5 22 "FieldBand$Ways" "sum" "I", Cond.fieldLink RX5 25 "FieldBand$Ways" "field" "LFieldBand$Field;", Cond.instanceMethod yX0_init, Cond.code yX0_init cX0_init 1 none, Cond.methodLink RX0 3 objectInit, Cond.fieldLink RX0 9 "FieldBand$Deed" "kind" "I", Cond.fieldLink RX0 15 "FieldBand$Deed" "number" "I", Cond.fieldLink RX0 18 "FieldBand$Deed" "v" "I", Cond.fieldLink RX0 21 "FieldBand$Deed" "ran" "I"]
def wsL_law_r4 : List Cond := [Cond.fieldLink RX0 24 "FieldBand$Deed" "bodies" "[I", Cond.instanceMethod yX3_init, Cond.code yX3_init cX3_init 1 none, Cond.methodLink RX3 3 objectInit, Cond.fieldLink RX3 9 "FieldBand$Show" "speed" "I", Cond.fieldLink RX3 15 "FieldBand$Show" "beat" "I", Cond.fieldLink RX3 18 "FieldBand$Show" "step" "I", Cond.fieldLink RX3 21 "FieldBand$Show" "clauses" "I", Cond.fieldLink RX3 24 "FieldBand$Show" "word" "[I", Cond.fieldLink RX3 28 "FieldBand$Show" "amount" "[I", Cond.fieldLink RX3 31 "FieldBand$Show" "start" "[I", Cond.fieldLink RX3 34 "FieldBand$Show" "end" "[I", Cond.fieldLink RX3 37 "FieldBand$Show" "used" "I", Cond.fieldLink RX3 40 "FieldBand$Show" "code" "[I", Cond.methodLink RX6 48 yX2_init, Cond.instanceMethod yX2_init, Cond.code yX2_init cX2_init 3 none, Cond.methodLink RX2 3 objectInit, Cond.fieldLink RX2 9 "FieldBand$Reader" "at" "I", Cond.fieldLink RX2 15 "FieldBand$Reader" "field" "LFieldBand$Field;", Cond.fieldLink RX2 19 "FieldBand$Reader" "show" "LFieldBand$Show;", Cond.methodLink RX6 57 yX4_init, Cond.instanceMethod yX4_init, Cond.code yX4_init cX4_init 3 none]
def wsL_law_r5 : List Cond := [Cond.methodLink RX4 3 objectInit, Cond.fieldLink RX4 9 "FieldBand$Sound" "drum" "I", Cond.fieldLink RX4 15 "FieldBand$Sound" "absent" "I", Cond.fieldLink RX4 18 "FieldBand$Sound" "kind" "[I", Cond.fieldLink RX4 22 "FieldBand$Sound" "slip" "[I", Cond.fieldLink RX4 25 "FieldBand$Sound" "source" "[I", Cond.fieldLink RX4 28 "FieldBand$Sound" "plays" "[I", Cond.fieldLink RX4 39 "FieldBand$Sound" "about" "[I", Cond.fieldLink RX4 42 "FieldBand$Sound" "field" "LFieldBand$Field;", Cond.fieldLink RX4 46 "FieldBand$Sound" "show" "LFieldBand$Show;", Cond.methodLink RX4 33 yJ0_length_8abf5, Cond.instanceMethod yJ0_length_8abf5, Cond.selects RJ0 yJ0_length_8abf5 yJ0_length_8abf5, Cond.initialized RJ0, Cond.code yJ0_length_8abf5 cJ0_length_8abf5 1 (some .int), Cond.fieldLink RJ0 9 "java/lang/String" "value" "[B", Cond.methodLink RJ0 335 yJ0_coder_7d493, Cond.instanceMethod yJ0_coder_7d493, Cond.selects RJ0 yJ0_coder_7d493 yJ0_coder_7d493, Cond.code yJ0_coder_7d493 cJ0_coder_7d493 1 (some .byte), Cond.fieldLink RJ0 38 "java/lang/String" "COMPACT_STRINGS" "Z", Cond.fieldLink RJ0 15 "java/lang/String" "coder" "B", Cond.methodLink RL 12 yX7_init, Cond.instanceMethod yX7_init]
def wsL_law_r6 : List Cond := [Cond.code yX7_init cX7_init 1 none, Cond.methodLink RX7 1 objectInit, Cond.fieldLink RX7 7 "FieldBandModel" "s" "[I", Cond.fieldLink RX7 13 "FieldBandModel" "image" "[I", Cond.fieldLink RX7 16 "FieldBandModel" "by" "[I", Cond.arrayClass .boolean, Cond.fieldLink RX7 19 "FieldBandModel" "truths" "[Z", Cond.fieldLink RX7 23 "FieldBandModel" "without" "I", Cond.fieldLink RX7 27 "FieldBandModel" "goes" "[I", Cond.fieldLink RX7 30 "FieldBandModel" "bestGoes" "[I", Cond.fieldLink RX7 33 "FieldBandModel" "bodies" "[I", Cond.methodLink RL 15 yX6_feed, Cond.instanceMethod yX6_feed, Cond.selects RX6 yX6_feed yX6_feed, Cond.code yX6_feed cX6_feed 5 (some .int), Cond.fieldLink RX6 62 "FieldBand$Field" "bytes" "I", Cond.fieldLink RX6 66 "FieldBand$Field" "tape" "[B", Cond.methodLink RL 19 yX7_feed, Cond.instanceMethod yX7_feed, Cond.selects RX7 yX7_feed yX7_feed, Cond.code yX7_feed cX7_feed 5 (some .int), Cond.constantLong RX7 47 (255), Cond.methodLink RX7 39 yX7_in, Cond.static yX7_in]
def wsL_law_r7 : List Cond := [Cond.code yX7_in cX7_in 3 (some .boolean), Cond.methodLink RL 20 yX6_show, Cond.instanceMethod yX6_show, Cond.selects RX6 yX6_show yX6_show, Cond.code yX6_show cX6_show 2 (some .int), Cond.fieldLink RX6 70 "FieldBand$Field" "shows" "I", Cond.methodLink RX6 72 yX2_readInto, Cond.instanceMethod yX2_readInto, Cond.selects RX2 yX2_readInto yX2_readInto, Cond.code yX2_readInto cX2_readInto 3 (some .int), Cond.fieldLink RX2 32 "FieldBand$Field" "bytes" "I", Cond.methodLink RX2 23 yX3_clear, Cond.instanceMethod yX3_clear, Cond.selects RX3 yX3_clear yX3_clear, Cond.code yX3_clear cX3_clear 1 none, Cond.methodLink RX2 28 yX2_readClause, Cond.instanceMethod yX2_readClause, Cond.selects RX2 yX2_readClause yX2_readClause, Cond.code yX2_readClause cX2_readClause 4 (some .boolean), Cond.fieldLink RX2 52 "FieldBand$Show" "used" "I", Cond.methodLink RX2 43 yX2_readWord, Cond.instanceMethod yX2_readWord, Cond.selects RX2 yX2_readWord yX2_readWord, Cond.code yX2_readWord cX2_readWord 5 (some .int)]
def wsL_law_r8 : List Cond := [Cond.methodLink RX2 76 Lib.Math.max.name, Cond.static Lib.Math.max.name, Cond.initialized "java/lang/Math", Cond.code Lib.Math.max.name Lib.Math.max.code 2 (some .int), Cond.methodLink RX2 63 yX2_textOf, Cond.static yX2_textOf, Cond.code yX2_textOf cX2_textOf 1 (some (.object "java/lang/String")), Cond.methodLink RX2 67 yX2_sameSigns, Cond.instanceMethod yX2_sameSigns, Cond.selects RX2 yX2_sameSigns yX2_sameSigns, Cond.code yX2_sameSigns cX2_sameSigns 3 (some .int), Cond.fieldLink RX2 92 "FieldBand$Field" "tape" "[B", Cond.methodLink RX2 71 yJ0_length_8abf5, Cond.methodLink RX2 96 yJ0_charAt_5068e, Cond.instanceMethod yJ0_charAt_5068e, Cond.selects RJ0 yJ0_charAt_5068e yJ0_charAt_5068e, Cond.code yJ0_charAt_5068e cJ0_charAt_5068e 2 (some .char), Cond.methodLink RJ0 492 yJ0_isLatin1_aae02, Cond.instanceMethod yJ0_isLatin1_aae02, Cond.selects RJ0 yJ0_isLatin1_aae02 yJ0_isLatin1_aae02, Cond.code yJ0_isLatin1_aae02 cJ0_isLatin1_aae02 1 (some .boolean), Cond.methodLink RJ0 495 yJ1_charAt_3b067, Cond.static yJ1_charAt_3b067, Cond.initialized RJ1]
def wsL_law_r9 : List Cond := [Cond.code yJ1_charAt_3b067 cJ1_charAt_3b067 2 (some .char), Cond.methodLink RJ1 9 yJ0_checkIndex_df160, Cond.static yJ0_checkIndex_df160, Cond.code yJ0_checkIndex_df160 cJ0_checkIndex_df160 2 none, Cond.fieldLink RJ0 1053 "jdk/internal/util/Preconditions" "SIOOBE_FORMATTER" "Ljava/util/function/BiFunction;", Cond.methodLink RJ0 1059 yJ3_checkIndex_8e157, Cond.static yJ3_checkIndex_8e157, Cond.initialized RJ3, Cond.code yJ3_checkIndex_8e157 cJ3_checkIndex_8e157 3 (some .int), Cond.methodLink RJ0 498 yJ2_charAt_3b067, Cond.static yJ2_charAt_3b067, Cond.initialized RJ2, Cond.code yJ2_charAt_3b067 cJ2_charAt_3b067 2 (some .char), Cond.methodLink RJ2 67 yJ2_checkIndex_2214a, Cond.static yJ2_checkIndex_2214a, Cond.code yJ2_checkIndex_2214a cJ2_checkIndex_2214a 2 none, Cond.methodLink RJ2 48 yJ2_length_9d52b, Cond.static yJ2_length_9d52b, Cond.code yJ2_length_9d52b cJ2_length_9d52b 1 (some .int), Cond.methodLink RJ2 414 yJ0_checkIndex_df160, Cond.methodLink RJ2 71 yJ2_getChar_3b067, Cond.static yJ2_getChar_3b067, Cond.code yJ2_getChar_3b067 cJ2_getChar_3b067 2 (some .char), Cond.fieldLink RJ2 44 "java/lang/StringUTF16" "$assertionsDisabled" "Z"]
def wsL_law_r10 : List Cond := [Cond.fieldLink RJ2 59 "java/lang/StringUTF16" "HI_BYTE_SHIFT" "I", Cond.fieldLink RJ2 63 "java/lang/StringUTF16" "LO_BYTE_SHIFT" "I", Cond.methodLink RX2 39 yX2_take, Cond.instanceMethod yX2_take, Cond.selects RX2 yX2_take yX2_take, Cond.code yX2_take cX2_take 2 (some .boolean), Cond.methodLink RX2 125 yX2_takeOneOf, Cond.instanceMethod yX2_takeOneOf, Cond.selects RX2 yX2_takeOneOf yX2_takeOneOf, Cond.code yX2_takeOneOf cX2_takeOneOf 3 (some .int), Cond.methodLink RX2 136 yJ0_indexOf_0f7a4, Cond.instanceMethod yJ0_indexOf_0f7a4, Cond.selects RJ0 yJ0_indexOf_0f7a4 yJ0_indexOf_0f7a4, Cond.code yJ0_indexOf_0f7a4 cJ0_indexOf_0f7a4 2 (some .int), Cond.methodLink RJ0 633 yJ0_indexOf_7cf53, Cond.instanceMethod yJ0_indexOf_7cf53, Cond.selects RJ0 yJ0_indexOf_7cf53 yJ0_indexOf_7cf53, Cond.code yJ0_indexOf_7cf53 cJ0_indexOf_7cf53 3 (some .int), Cond.methodLink RJ0 505 yJ0_length_8abf5, Cond.methodLink RJ0 637 yJ1_indexOf_4cfef, Cond.static yJ1_indexOf_4cfef, Cond.code yJ1_indexOf_4cfef cJ1_indexOf_4cfef 4 (some .int), Cond.methodLink RJ1 92 Lib.Math.max.name, Cond.methodLink RJ1 38 Lib.Math.min.name]
def wsL_law_r11 : List Cond := [Cond.static Lib.Math.min.name, Cond.code Lib.Math.min.name Lib.Math.min.code 2 (some .int), Cond.methodLink RJ1 88 yJ1_canEncode_9a6ad, Cond.static yJ1_canEncode_9a6ad, Cond.code yJ1_canEncode_9a6ad cJ1_canEncode_9a6ad 1 (some .boolean), Cond.methodLink RJ1 95 yJ1_indexOfChar_4cfef, Cond.static yJ1_indexOfChar_4cfef, Cond.code yJ1_indexOfChar_4cfef cJ1_indexOfChar_4cfef 6 (some .int), Cond.methodLink RJ0 640 yJ2_indexOf_4cfef, Cond.static yJ2_indexOf_4cfef, Cond.code yJ2_indexOf_4cfef cJ2_indexOf_4cfef 4 (some .int), Cond.methodLink RJ2 224 Lib.Math.max.name, Cond.methodLink RJ2 183 Lib.Math.min.name, Cond.constant RJ2 227 (65536), Cond.methodLink RJ2 228 yJ2_indexOfChar_4cfef, Cond.static yJ2_indexOfChar_4cfef, Cond.code yJ2_indexOfChar_4cfef cJ2_indexOfChar_4cfef 4 (some .int), Cond.methodLink RJ2 96 yJ2_checkBoundsBeginEnd_d044e, Cond.static yJ2_checkBoundsBeginEnd_d044e, Cond.code yJ2_checkBoundsBeginEnd_d044e cJ2_checkBoundsBeginEnd_d044e 3 none, Cond.methodLink RJ2 241 yJ0_checkBoundsBeginEnd_23922, Cond.static yJ0_checkBoundsBeginEnd_23922, Cond.code yJ0_checkBoundsBeginEnd_23922 cJ0_checkBoundsBeginEnd_23922 3 none, Cond.methodLink RJ0 1062 yJ3_checkFromToIndex_8c36e]
def wsL_law_r12 : List Cond := [Cond.static yJ3_checkFromToIndex_8c36e, Cond.code yJ3_checkFromToIndex_8c36e cJ3_checkFromToIndex_8c36e 4 (some .int), Cond.methodLink RJ2 244 yJ2_indexOfCharUnsafe_4cfef, Cond.static yJ2_indexOfCharUnsafe_4cfef, Cond.code yJ2_indexOfCharUnsafe_4cfef cJ2_indexOfCharUnsafe_4cfef 5 (some .int), Cond.methodLink RJ2 232 yJ2_indexOfSupplementary_4cfef, Cond.static yJ2_indexOfSupplementary_4cfef, Cond.code yJ2_indexOfSupplementary_4cfef cJ2_indexOfSupplementary_4cfef 7 (some .int), Cond.methodLink RJ2 164 yJ11_isValidCodePoint_9a6ad, Cond.static yJ11_isValidCodePoint_9a6ad, Cond.initialized RJ11, Cond.code yJ11_isValidCodePoint_9a6ad cJ11_isValidCodePoint_9a6ad 2 (some .boolean), Cond.methodLink RJ2 157 yJ11_highSurrogate_5068e, Cond.static yJ11_highSurrogate_5068e, Cond.code yJ11_highSurrogate_5068e cJ11_highSurrogate_5068e 1 (some .char), Cond.constant RJ11 110 (55232), Cond.methodLink RJ2 161 yJ11_lowSurrogate_5068e, Cond.static yJ11_lowSurrogate_5068e, Cond.code yJ11_lowSurrogate_5068e cJ11_lowSurrogate_5068e 1 (some .char), Cond.constant RJ11 76 (56320), Cond.methodLink RX2 49 yX2_readNumber, Cond.instanceMethod yX2_readNumber, Cond.selects RX2 yX2_readNumber yX2_readNumber, Cond.code yX2_readNumber cX2_readNumber 3 (some .int)]
def wsL_law_r13 : List Cond := [Cond.methodLink RX2 55 yX2_readEither, Cond.instanceMethod yX2_readEither, Cond.selects RX2 yX2_readEither yX2_readEither, Cond.code yX2_readEither cX2_readEither 3 (some .boolean), Cond.methodLink RX2 100 yX2_readBoth, Cond.instanceMethod yX2_readBoth, Cond.selects RX2 yX2_readBoth yX2_readBoth, Cond.methodLink RX2 105 yX3_write, Cond.instanceMethod yX3_write, Cond.selects RX3 yX3_write yX3_write, Cond.code yX3_write cX3_write 2 none, Cond.code yX2_readBoth cX2_readBoth 3 (some .boolean), Cond.methodLink RX2 109 yX2_readFactor, Cond.instanceMethod yX2_readFactor, Cond.selects RX2 yX2_readFactor yX2_readFactor, Cond.code yX2_readFactor cX2_readFactor 2 (some .boolean), Cond.methodLink RX2 120 yX2_readTest, Cond.instanceMethod yX2_readTest, Cond.selects RX2 yX2_readTest yX2_readTest, Cond.code yX2_readTest cX2_readTest 4 (some .boolean), Cond.methodLink RX2 130 yX3_codeOfTest, Cond.static yX3_codeOfTest, Cond.code yX3_codeOfTest cX3_codeOfTest 3 (some .int), Cond.methodLink RX2 59 yX3_addClause]
def wsL_law_r14 : List Cond := [Cond.instanceMethod yX3_addClause, Cond.selects RX3 yX3_addClause yX3_addClause, Cond.code yX3_addClause cX3_addClause 4 none, Cond.methodLink RX3 43 Lib.Math.max.name, Cond.methodLink RL 24 yX7_show, Cond.instanceMethod yX7_show, Cond.selects RX7 yX7_show yX7_show, Cond.code yX7_show cX7_show 2 (some .int), Cond.fieldLink RX7 76 "FieldBandModel" "act" "I", Cond.fieldLink RX7 52 "FieldBandModel" "end" "I", Cond.fieldLink RX7 49 "FieldBandModel" "spot" "I", Cond.fieldLink RX7 55 "FieldBandModel" "isWrong" "Z", Cond.fieldLink RX7 79 "FieldBandModel" "open" "I", Cond.methodLink RX7 126 yX7_clauseHere, Cond.instanceMethod yX7_clauseHere, Cond.selects RX7 yX7_clauseHere yX7_clauseHere, Cond.code yX7_clauseHere cX7_clauseHere 1 none, Cond.methodLink RX7 59 yX7_here, Cond.instanceMethod yX7_here, Cond.selects RX7 yX7_here yX7_here, Cond.code yX7_here cX7_here 1 (some .int), Cond.methodLink RX7 72 yX7_must, Cond.instanceMethod yX7_must, Cond.selects RX7 yX7_must yX7_must]
def wsL_law_r15 : List Cond := [Cond.code yX7_must cX7_must 2 none, Cond.methodLink RX7 111 yX7_much, Cond.instanceMethod yX7_much, Cond.selects RX7 yX7_much yX7_much, Cond.code yX7_much cX7_much 4 none, Cond.methodLink RX7 105 yX7_spells, Cond.instanceMethod yX7_spells, Cond.selects RX7 yX7_spells yX7_spells, Cond.code yX7_spells cX7_spells 3 none, Cond.methodLink RX7 63 yJ0_length_8abf5, Cond.methodLink RX7 68 yJ0_charAt_5068e, Cond.methodLink RX7 99 yX7_figures, Cond.instanceMethod yX7_figures, Cond.selects RX7 yX7_figures yX7_figures, Cond.code yX7_figures cX7_figures 3 (some .int), Cond.methodLink RX7 88 yX7_some, Cond.instanceMethod yX7_some, Cond.selects RX7 yX7_some yX7_some, Cond.code yX7_some cX7_some 1 none, Cond.methodLink RX7 102 yX7_every, Cond.instanceMethod yX7_every, Cond.selects RX7 yX7_every yX7_every, Cond.methodLink RX7 85 yX7_emits, Cond.instanceMethod yX7_emits]
def wsL_law_r16 : List Cond := [Cond.selects RX7 yX7_emits yX7_emits, Cond.code yX7_emits cX7_emits 2 none, Cond.code yX7_every cX7_every 1 none, Cond.methodLink RX7 82 yX7_factor, Cond.instanceMethod yX7_factor, Cond.selects RX7 yX7_factor yX7_factor, Cond.code yX7_factor cX7_factor 5 none, Cond.methodLink RX7 93 yX7_among, Cond.instanceMethod yX7_among, Cond.selects RX7 yX7_among yX7_among, Cond.code yX7_among cX7_among 3 (some .int), Cond.methodLink RX7 119 yX7_tellsHere, Cond.instanceMethod yX7_tellsHere, Cond.selects RX7 yX7_tellsHere yX7_tellsHere, Cond.code yX7_tellsHere cX7_tellsHere 4 none, Cond.methodLink RL 25 yX6_told, Cond.instanceMethod yX6_told, Cond.selects RX6 yX6_told yX6_told, Cond.code yX6_told cX6_told 2 (some .int), Cond.fieldLink RX6 80 "FieldBand$Show" "speed" "I", Cond.fieldLink RX6 83 "FieldBand$Show" "beat" "I", Cond.fieldLink RX6 86 "FieldBand$Show" "step" "I", Cond.methodLink RX6 76 yX6_held, Cond.instanceMethod yX6_held]
def wsL_law_r17 : List Cond := [Cond.selects RX6 yX6_held yX6_held, Cond.code yX6_held cX6_held 1 (some (.object "FieldBand$Show")), Cond.methodLink RL 29 yX7_told, Cond.instanceMethod yX7_told, Cond.selects RX7 yX7_told yX7_told, Cond.code yX7_told cX7_told 2 (some .int), Cond.methodLink RX7 133 yX7_speed, Cond.instanceMethod yX7_speed, Cond.selects RX7 yX7_speed yX7_speed, Cond.code yX7_speed cX7_speed 1 (some .int), Cond.methodLink RX7 129 yX7_tellsOf, Cond.instanceMethod yX7_tellsOf, Cond.selects RX7 yX7_tellsOf yX7_tellsOf, Cond.code yX7_tellsOf cX7_tellsOf 3 (some .int), Cond.methodLink RX7 136 yX7_atLeastOne, Cond.instanceMethod yX7_atLeastOne, Cond.selects RX7 yX7_atLeastOne yX7_atLeastOne, Cond.code yX7_atLeastOne cX7_atLeastOne 2 (some .int), Cond.methodLink RL 30 yX6_player, Cond.instanceMethod yX6_player, Cond.selects RX6 yX6_player yX6_player, Cond.code yX6_player cX6_player 4 (some .int), Cond.fieldLink RX6 97 "FieldBand$Field" "players" "I", Cond.fieldLink RX6 100 "FieldBand$Field" "kind" "[I"]
def wsL_law_r18 : List Cond := [Cond.fieldLink RX6 104 "FieldBand$Field" "v" "[I", Cond.fieldLink RX6 107 "FieldBand$Field" "dot" "[I", Cond.methodLink RX6 89 yX6_isBelow, Cond.static yX6_isBelow, Cond.code yX6_isBelow cX6_isBelow 2 (some .boolean), Cond.methodLink RX6 93 yX1_playerOn, Cond.instanceMethod yX1_playerOn, Cond.selects RX1 yX1_playerOn yX1_playerOn, Cond.code yX1_playerOn cX1_playerOn 3 (some .int), Cond.methodLink RL 34 yX7_player, Cond.instanceMethod yX7_player, Cond.selects RX7 yX7_player yX7_player, Cond.code yX7_player cX7_player 5 (some .int), Cond.methodLink RX7 145 yX7_isDot, Cond.static yX7_isDot, Cond.code yX7_isDot cX7_isDot 1 (some .boolean), Cond.methodLink RX7 149 yX7_playerOn, Cond.instanceMethod yX7_playerOn, Cond.selects RX7 yX7_playerOn yX7_playerOn, Cond.code yX7_playerOn cX7_playerOn 4 (some .int), Cond.methodLink RL 35 yX6_of, Cond.instanceMethod yX6_of, Cond.selects RX6 yX6_of yX6_of, Cond.code yX6_of cX6_of 3 (some .int)]
def wsL_law_r19 : List Cond := [Cond.fieldLink RX6 121 "FieldBand$Sound" "slip" "[I", Cond.fieldLink RX6 124 "FieldBand$Sound" "plays" "[I", Cond.methodLink RX6 110 yX6_isPlayer, Cond.instanceMethod yX6_isPlayer, Cond.selects RX6 yX6_isPlayer yX6_isPlayer, Cond.code yX6_isPlayer cX6_isPlayer 2 (some .boolean), Cond.methodLink RX6 114 yX6_listen, Cond.instanceMethod yX6_listen, Cond.selects RX6 yX6_listen yX6_listen, Cond.code yX6_listen cX6_listen 1 (some (.object "FieldBand$Sound")), Cond.methodLink RX6 222 yX4_hearAll, Cond.instanceMethod yX4_hearAll, Cond.selects RX4 yX4_hearAll yX4_hearAll, Cond.code yX4_hearAll cX4_hearAll 2 none, Cond.fieldLink RX4 50 "FieldBand$Field" "drum" "I", Cond.fieldLink RX4 53 "FieldBand$Field" "kind" "[I", Cond.methodLink RX4 54 arraycopyName, Cond.native arraycopyName, Cond.static arraycopyName, Cond.initialized "java/lang/System", Cond.methodLink RX4 60 yX4_slipAll, Cond.instanceMethod yX4_slipAll, Cond.selects RX4 yX4_slipAll yX4_slipAll, Cond.code yX4_slipAll cX4_slipAll 2 none]
def wsL_law_r20 : List Cond := [Cond.fieldLink RX4 69 "FieldBand$Field" "players" "I", Cond.methodLink RX4 72 yX4_sumFor, Cond.instanceMethod yX4_sumFor, Cond.selects RX4 yX4_sumFor yX4_sumFor, Cond.code yX4_sumFor cX4_sumFor 3 (some .int), Cond.fieldLink RX4 83 "FieldBand$Field" "dot" "[I", Cond.fieldLink RX4 92 "FieldBand$Field" "v" "[I", Cond.static yX6_rowOf, Cond.code yX6_rowOf cX6_rowOf 1 (some .int), Cond.static yX6_columnOf, Cond.code yX6_columnOf cX6_columnOf 1 (some .int), Cond.methodLink RX4 95 yX3_sumOf, Cond.instanceMethod yX3_sumOf, Cond.selects RX3 yX3_sumOf yX3_sumOf, Cond.code yX3_sumOf cX3_sumOf 5 (some .int), Cond.methodLink RX3 49 yX3_holds, Cond.instanceMethod yX3_holds, Cond.selects RX3 yX3_holds yX3_holds, Cond.code yX3_holds cX3_holds 7 (some .boolean), Cond.methodLink RX3 53 yX3_passes, Cond.static yX3_passes, Cond.code yX3_passes cX3_passes 6 (some .boolean), Cond.methodLink RX4 63 yX4_arrange, Cond.instanceMethod yX4_arrange]
def wsL_law_r21 : List Cond := [Cond.selects RX4 yX4_arrange yX4_arrange, Cond.code yX4_arrange cX4_arrange 2 none, Cond.methodLink RX4 76 yX4_sourceOf, Cond.instanceMethod yX4_sourceOf, Cond.selects RX4 yX4_sourceOf yX4_sourceOf, Cond.code yX4_sourceOf cX4_sourceOf 4 (some .int), Cond.methodLink RX4 101 yX4_nearestInColumn, Cond.instanceMethod yX4_nearestInColumn, Cond.selects RX4 yX4_nearestInColumn yX4_nearestInColumn, Cond.code yX4_nearestInColumn cX4_nearestInColumn 8 (some .int), Cond.static yX6_isUnder, Cond.code yX6_isUnder cX6_isUnder 4 (some .boolean), Cond.fieldLink RX6 238 "FieldBand" "ABOVE" "[I", Cond.methodLink RX4 66 yX4_playAll, Cond.instanceMethod yX4_playAll, Cond.selects RX4 yX4_playAll yX4_playAll, Cond.code yX4_playAll cX4_playAll 2 none, Cond.methodLink RX4 80 yX4_playedBy, Cond.instanceMethod yX4_playedBy, Cond.selects RX4 yX4_playedBy yX4_playedBy, Cond.code yX4_playedBy cX4_playedBy 6 (some .int), Cond.fieldLink RX4 111 "FieldBand$Show" "speed" "I", Cond.methodLink RX4 108 yX4_ownMore, Cond.instanceMethod yX4_ownMore]
def wsL_law_r22 : List Cond := [Cond.selects RX4 yX4_ownMore yX4_ownMore, Cond.code yX4_ownMore cX4_ownMore 2 (some .int), Cond.static yX6_far, Cond.code yX6_far cX6_far 2 (some .int), Cond.methodLink RX6 232 Lib.Math.abs.name, Cond.static Lib.Math.abs.name, Cond.code Lib.Math.abs.name Lib.Math.abs.code 1 (some .int), Cond.methodLink RX6 149 Lib.Math.max.name, Cond.methodLink RX6 229 yX6_rowOf, Cond.methodLink RX6 235 yX6_columnOf, Cond.methodLink RX6 118 yX4_loudness, Cond.instanceMethod yX4_loudness, Cond.selects RX4 yX4_loudness yX4_loudness, Cond.code yX4_loudness cX4_loudness 2 (some .int), Cond.methodLink RL 39 yX7_of, Cond.instanceMethod yX7_of, Cond.selects RX7 yX7_of yX7_of, Cond.code yX7_of cX7_of 3 (some .int), Cond.fieldLink RX7 139 "FieldBandModel" "loud" "I", Cond.fieldLink RX7 142 "FieldBandModel" "slip" "I", Cond.methodLink RX7 152 yX7_isPlayer, Cond.instanceMethod yX7_isPlayer, Cond.selects RX7 yX7_isPlayer yX7_isPlayer, Cond.code yX7_isPlayer cX7_isPlayer 2 (some .boolean)]
def wsL_law_r23 : List Cond := [Cond.methodLink RX7 177 yX7_looks, Cond.instanceMethod yX7_looks, Cond.selects RX7 yX7_looks yX7_looks, Cond.code yX7_looks cX7_looks 11 none, Cond.methodLink RX7 181 yX7_playsOf, Cond.instanceMethod yX7_playsOf, Cond.selects RX7 yX7_playsOf yX7_playsOf, Cond.code yX7_playsOf cX7_playsOf 2 (some .int), Cond.methodLink RX7 158 yX7_playsAs, Cond.instanceMethod yX7_playsAs, Cond.selects RX7 yX7_playsAs yX7_playsAs, Cond.code yX7_playsAs cX7_playsAs 4 (some .int), Cond.methodLink RX7 165 yX7_listening, Cond.instanceMethod yX7_listening, Cond.selects RX7 yX7_listening yX7_listening, Cond.code yX7_listening cX7_listening 2 (some .int), Cond.methodLink RX7 155 yX7_far, Cond.static yX7_far, Cond.code yX7_far cX7_far 4 (some .int), Cond.methodLink RX7 43 yX7_size, Cond.static yX7_size, Cond.code yX7_size cX7_size 1 (some .int), Cond.methodLink RX7 171 yX7_backward, Cond.instanceMethod yX7_backward]
def wsL_law_r24 : List Cond := [Cond.selects RX7 yX7_backward yX7_backward, Cond.methodLink RX7 174 yX7_forward, Cond.instanceMethod yX7_forward, Cond.selects RX7 yX7_forward yX7_forward, Cond.code yX7_backward cX7_backward 3 (some .int), Cond.methodLink RX7 161 yX7_nearestInColumn, Cond.instanceMethod yX7_nearestInColumn, Cond.selects RX7 yX7_nearestInColumn yX7_nearestInColumn, Cond.code yX7_nearestInColumn cX7_nearestInColumn 7 (some .int), Cond.methodLink RX7 168 yX7_heardFrom, Cond.instanceMethod yX7_heardFrom, Cond.selects RX7 yX7_heardFrom yX7_heardFrom, Cond.code yX7_forward cX7_forward 3 (some .int), Cond.code yX7_heardFrom cX7_heardFrom 3 (some .int), Cond.methodLink RL 40 yX6_drum, Cond.instanceMethod yX6_drum, Cond.selects RX6 yX6_drum yX6_drum, Cond.code yX6_drum cX6_drum 3 (some .int), Cond.fieldLink RX6 127 "FieldBand$Field" "drum" "I", Cond.methodLink RL 43 yX7_drum, Cond.instanceMethod yX7_drum, Cond.selects RX7 yX7_drum yX7_drum, Cond.code yX7_drum cX7_drum 3 (some .int), Cond.methodLink RL 44 yX6_put]
def wsL_law_r25 : List Cond := [Cond.instanceMethod yX6_put, Cond.selects RX6 yX6_put yX6_put, Cond.code yX6_put cX6_put 5 (some .int), Cond.methodLink RL 47 yX7_put, Cond.instanceMethod yX7_put, Cond.selects RX7 yX7_put yX7_put, Cond.code yX7_put cX7_put 4 (some .int), Cond.methodLink RL 48 yX6_heard, Cond.instanceMethod yX6_heard, Cond.selects RX6 yX6_heard yX6_heard, Cond.code yX6_heard cX6_heard 3 (some .int), Cond.methodLink RX6 130 yX4_arrival, Cond.instanceMethod yX4_arrival, Cond.selects RX4 yX4_arrival yX4_arrival, Cond.code yX4_arrival cX4_arrival 3 (some .int), Cond.static yX6_placeOfSeat, Cond.code yX6_placeOfSeat cX6_placeOfSeat 1 (some .int), Cond.methodLink RL 51 yX7_heard, Cond.instanceMethod yX7_heard, Cond.selects RX7 yX7_heard yX7_heard, Cond.code yX7_heard cX7_heard 3 (some .int), Cond.methodLink RX7 184 yX7_isSeat, Cond.static yX7_isSeat, Cond.code yX7_isSeat cX7_isSeat 1 (some .boolean)]
def wsL_law_r26 : List Cond := [Cond.methodLink RX7 187 yX7_heardAt, Cond.instanceMethod yX7_heardAt, Cond.selects RX7 yX7_heardAt yX7_heardAt, Cond.code yX7_heardAt cX7_heardAt 3 (some .int), Cond.methodLink RL 52 yX6_spread, Cond.instanceMethod yX6_spread, Cond.selects RX6 yX6_spread yX6_spread, Cond.code yX6_spread cX6_spread 3 (some .int), Cond.methodLink RX6 134 yX4_spreadAt, Cond.instanceMethod yX4_spreadAt, Cond.selects RX4 yX4_spreadAt yX4_spreadAt, Cond.code yX4_spreadAt cX4_spreadAt 6 (some .int), Cond.constant RX4 122 (2147483647), Cond.constant RX4 131 (-2147483648), Cond.methodLink RX4 126 Lib.Math.min.name, Cond.methodLink RX4 132 Lib.Math.max.name, Cond.methodLink RX4 123 yX4_arrival, Cond.methodLink RX6 137 yX4_loudTogether, Cond.instanceMethod yX4_loudTogether, Cond.selects RX4 yX4_loudTogether yX4_loudTogether, Cond.code yX4_loudTogether cX4_loudTogether 7 (some .int), Cond.methodLink RX4 144 Lib.Math.abs.name, Cond.methodLink RX4 141 yX4_loudness, Cond.methodLink RL 55 yX7_spread]
def wsL_law_r27 : List Cond := [Cond.instanceMethod yX7_spread, Cond.selects RX7 yX7_spread yX7_spread, Cond.code yX7_spread cX7_spread 3 (some .int), Cond.methodLink RX7 193 yX7_spreadAt, Cond.instanceMethod yX7_spreadAt, Cond.selects RX7 yX7_spreadAt yX7_spreadAt, Cond.code yX7_spreadAt cX7_spreadAt 6 (some .int), Cond.fieldLink RX7 190 "FieldBandModel" "earliest" "I", Cond.methodLink RX7 199 yX7_together, Cond.instanceMethod yX7_together, Cond.selects RX7 yX7_together yX7_together, Cond.code yX7_together cX7_together 6 (some .int), Cond.methodLink RX7 196 yX7_loudOf, Cond.instanceMethod yX7_loudOf, Cond.selects RX7 yX7_loudOf yX7_loudOf, Cond.code yX7_loudOf cX7_loudOf 2 (some .int), Cond.methodLink RL 56 yX6_back, Cond.instanceMethod yX6_back, Cond.selects RX6 yX6_back yX6_back, Cond.code yX6_back cX6_back 3 (some .int), Cond.methodLink RX6 140 yX4_likeDrum, Cond.instanceMethod yX4_likeDrum, Cond.selects RX4 yX4_likeDrum yX4_likeDrum, Cond.code yX4_likeDrum cX4_likeDrum 6 (some .int)]
def wsL_law_r28 : List Cond := [Cond.methodLink RL 59 yX7_back, Cond.instanceMethod yX7_back, Cond.selects RX7 yX7_back yX7_back, Cond.code yX7_back cX7_back 7 (some .int), Cond.methodLink RL 60 yX6_best, Cond.instanceMethod yX6_best, Cond.selects RX6 yX6_best yX6_best, Cond.code yX6_best cX6_best 6 (some .int), Cond.methodLink RX6 143 yX4_sumWithDrumOn, Cond.instanceMethod yX4_sumWithDrumOn, Cond.selects RX4 yX4_sumWithDrumOn yX4_sumWithDrumOn, Cond.code yX4_sumWithDrumOn cX4_sumWithDrumOn 2 (some .int), Cond.methodLink RX4 138 yX4_sumOfSpreads, Cond.instanceMethod yX4_sumOfSpreads, Cond.selects RX4 yX4_sumOfSpreads yX4_sumOfSpreads, Cond.code yX4_sumOfSpreads cX4_sumOfSpreads 3 (some .int), Cond.methodLink RX4 135 yX4_spreadAt, Cond.methodLink RL 63 yX7_best, Cond.instanceMethod yX7_best, Cond.selects RX7 yX7_best yX7_best, Cond.code yX7_best cX7_best 8 (some .int), Cond.methodLink RX7 202 yX7_allSpreads, Cond.instanceMethod yX7_allSpreads, Cond.selects RX7 yX7_allSpreads yX7_allSpreads]
def wsL_law_r29 : List Cond := [Cond.code yX7_allSpreads cX7_allSpreads 3 (some .int), Cond.methodLink RL 64 yX6_early, Cond.instanceMethod yX6_early, Cond.selects RX6 yX6_early yX6_early, Cond.code yX6_early cX6_early 3 (some .int), Cond.methodLink RX6 146 yX4_earliest, Cond.instanceMethod yX4_earliest, Cond.selects RX4 yX4_earliest yX4_earliest, Cond.code yX4_earliest cX4_earliest 4 (some .int), Cond.methodLink RL 67 yX7_early, Cond.instanceMethod yX7_early, Cond.selects RX7 yX7_early yX7_early, Cond.code yX7_early cX7_early 4 (some .int), Cond.methodLink RL 68 yX6_beats, Cond.instanceMethod yX6_beats, Cond.selects RX6 yX6_beats yX6_beats, Cond.code yX6_beats cX6_beats 2 (some .int), Cond.methodLink RL 71 yX7_beats, Cond.instanceMethod yX7_beats, Cond.selects RX7 yX7_beats yX7_beats, Cond.code yX7_beats cX7_beats 2 (some .int), Cond.methodLink RX7 205 yX7_told, Cond.methodLink RL 72 yX6_form, Cond.instanceMethod yX6_form]
def wsL_law_r30 : List Cond := [Cond.selects RX6 yX6_form yX6_form, Cond.code yX6_form cX6_form 2 (some .int), Cond.fieldLink RX6 154 "FieldBand$Field" "formed" "I", Cond.fieldLink RX6 160 "FieldBand$Field" "form" "[I", Cond.methodLink RX6 157 yX1_isInForm, Cond.instanceMethod yX1_isInForm, Cond.selects RX1 yX1_isInForm yX1_isInForm, Cond.code yX1_isInForm cX1_isInForm 3 (some .boolean), Cond.methodLink RL 75 yX7_form, Cond.instanceMethod yX7_form, Cond.selects RX7 yX7_form yX7_form, Cond.code yX7_form cX7_form 3 (some .int), Cond.methodLink RL 76 yX6_way, Cond.instanceMethod yX6_way, Cond.selects RX6 yX6_way yX6_way, Cond.code yX6_way cX6_way 3 (some .int), Cond.fieldLink RX6 167 "FieldBand$Ways" "greatest" "I", Cond.fieldLink RX6 170 "FieldBand$Ways" "sum" "I", Cond.fieldLink RX6 173 "FieldBand$Ways" "best" "[I", Cond.methodLink RX6 163 yX6_findWay, Cond.instanceMethod yX6_findWay, Cond.selects RX6 yX6_findWay yX6_findWay, Cond.code yX6_findWay cX6_findWay 1 (some .int), Cond.methodLink RX6 176 yX1_hasTooFewDots]
def wsL_law_r31 : List Cond := [Cond.instanceMethod yX1_hasTooFewDots, Cond.selects RX1 yX1_hasTooFewDots yX1_hasTooFewDots, Cond.code yX1_hasTooFewDots cX1_hasTooFewDots 1 (some .boolean), Cond.methodLink RX6 226 yX5_find, Cond.instanceMethod yX5_find, Cond.selects RX5 yX5_find yX5_find, Cond.code yX5_find cX5_find 1 none, Cond.constant RX5 31 (2147483647), Cond.methodLink RX5 32 yX5_tryPlaces, Cond.instanceMethod yX5_tryPlaces, Cond.selects RX5 yX5_tryPlaces yX5_tryPlaces, Cond.code yX5_tryPlaces cX5_tryPlaces 7 none, Cond.fieldLink RX5 40 "FieldBand$Field" "players" "I", Cond.methodLink RX5 45 arraycopyName, Cond.fieldLink RX5 51 "FieldBand$Field" "dot" "[I", Cond.fieldLink RX5 54 "FieldBand$Field" "form" "[I", Cond.methodLink RX5 61 Lib.Math.max.name, Cond.methodLink RX5 36 yX5_isBetter, Cond.instanceMethod yX5_isBetter, Cond.selects RX5 yX5_isBetter yX5_isBetter, Cond.code yX5_isBetter cX5_isBetter 3 (some .boolean), Cond.methodLink RL 79 yX7_way, Cond.instanceMethod yX7_way, Cond.selects RX7 yX7_way yX7_way]
def wsL_law_r32 : List Cond := [Cond.code yX7_way cX7_way 3 (some .int), Cond.fieldLink RX7 208 "FieldBandModel" "greatest" "I", Cond.fieldLink RX7 211 "FieldBandModel" "sum" "I", Cond.methodLink RX7 225 yX7_looksForWay, Cond.instanceMethod yX7_looksForWay, Cond.selects RX7 yX7_looksForWay yX7_looksForWay, Cond.code yX7_looksForWay cX7_looksForWay 1 (some .int), Cond.methodLink RX7 221 yX7_isTooFew, Cond.instanceMethod yX7_isTooFew, Cond.selects RX7 yX7_isTooFew yX7_isTooFew, Cond.code yX7_isTooFew cX7_isTooFew 1 (some .boolean), Cond.methodLink RX7 217 yX7_rowsFrom, Cond.instanceMethod yX7_rowsFrom, Cond.selects RX7 yX7_rowsFrom yX7_rowsFrom, Cond.code yX7_rowsFrom cX7_rowsFrom 7 none, Cond.methodLink RX7 214 yX7_farTo, Cond.instanceMethod yX7_farTo, Cond.selects RX7 yX7_farTo yX7_farTo, Cond.code yX7_farTo cX7_farTo 3 (some .int), Cond.methodLink RL 80 yX6_counts, Cond.instanceMethod yX6_counts, Cond.selects RX6 yX6_counts yX6_counts, Cond.code yX6_counts cX6_counts 3 (some .int), Cond.methodLink RL 83 yX7_counts]
def wsL_law_r33 : List Cond := [Cond.instanceMethod yX7_counts, Cond.selects RX7 yX7_counts yX7_counts, Cond.code yX7_counts cX7_counts 2 (some .int), Cond.methodLink RL 84 yX6_meet, Cond.instanceMethod yX6_meet, Cond.selects RX6 yX6_meet yX6_meet, Cond.code yX6_meet cX6_meet 4 (some .int), Cond.methodLink RX6 180 yX1_meetHalfWay, Cond.instanceMethod yX1_meetHalfWay, Cond.selects RX1 yX1_meetHalfWay yX1_meetHalfWay, Cond.code yX1_meetHalfWay cX1_meetHalfWay 3 (some .boolean), Cond.methodLink RL 87 yX7_meet, Cond.instanceMethod yX7_meet, Cond.selects RX7 yX7_meet yX7_meet, Cond.code yX7_meet cX7_meet 6 (some .int), Cond.methodLink RL 88 yX6_hard, Cond.instanceMethod yX6_hard, Cond.selects RX6 yX6_hard yX6_hard, Cond.code yX6_hard cX6_hard 6 (some .int), Cond.methodLink RX6 183 yX6_far, Cond.methodLink RL 91 yX7_hard, Cond.instanceMethod yX7_hard, Cond.selects RX7 yX7_hard yX7_hard, Cond.code yX7_hard cX7_hard 5 (some .int)]
def wsL_law_r34 : List Cond := [Cond.methodLink RL 92 yX6_march, Cond.instanceMethod yX6_march, Cond.selects RX6 yX6_march yX6_march, Cond.code yX6_march cX6_march 3 (some .int), Cond.methodLink RL 95 yX7_march, Cond.instanceMethod yX7_march, Cond.selects RX7 yX7_march yX7_march, Cond.code yX7_march cX7_march 3 (some .int), Cond.methodLink RL 96 yX6_seen, Cond.instanceMethod yX6_seen, Cond.selects RX6 yX6_seen yX6_seen, Cond.code yX6_seen cX6_seen 2 (some .int), Cond.fieldLink RX6 186 "FieldBand$Field" "filmed" "I", Cond.fieldLink RX6 189 "FieldBand$Field" "film" "[I", Cond.methodLink RL 99 yX7_seen, Cond.instanceMethod yX7_seen, Cond.selects RX7 yX7_seen yX7_seen, Cond.code yX7_seen cX7_seen 2 (some .int), Cond.methodLink RL 100 yX6_off, Cond.instanceMethod yX6_off, Cond.selects RX6 yX6_off yX6_off, Cond.code yX6_off cX6_off 7 (some .int), Cond.methodLink RL 103 yX7_off, Cond.instanceMethod yX7_off]
def wsL_law_r35 : List Cond := [Cond.selects RX7 yX7_off yX7_off, Cond.code yX7_off cX7_off 7 (some .int), Cond.methodLink RL 104 yX6_whom, Cond.instanceMethod yX6_whom, Cond.selects RX6 yX6_whom yX6_whom, Cond.code yX6_whom cX6_whom 6 (some .int), Cond.methodLink RX6 192 yX4_arrivalAsKind, Cond.instanceMethod yX4_arrivalAsKind, Cond.selects RX4 yX4_arrivalAsKind yX4_arrivalAsKind, Cond.code yX4_arrivalAsKind cX4_arrivalAsKind 4 (some .int), Cond.methodLink RL 107 yX7_whom, Cond.instanceMethod yX7_whom, Cond.selects RX7 yX7_whom yX7_whom, Cond.code yX7_whom cX7_whom 7 (some .int), Cond.methodLink RL 108 yX6_out, Cond.instanceMethod yX6_out, Cond.selects RX6 yX6_out yX6_out, Cond.code yX6_out cX6_out 5 (some .int), Cond.methodLink RX6 196 yX4_sumWithout, Cond.instanceMethod yX4_sumWithout, Cond.selects RX4 yX4_sumWithout yX4_sumWithout, Cond.code yX4_sumWithout cX4_sumWithout 2 (some .int), Cond.methodLink RL 111 yX7_out, Cond.instanceMethod yX7_out]
def wsL_law_r36 : List Cond := [Cond.selects RX7 yX7_out yX7_out, Cond.code yX7_out cX7_out 6 (some .int), Cond.methodLink RL 112 yX6_act, Cond.instanceMethod yX6_act, Cond.selects RX6 yX6_act yX6_act, Cond.code yX6_act cX6_act 4 (some .int), Cond.fieldLink RX6 199 "FieldBand$Deed" "ran" "I", Cond.fieldLink RX6 202 "FieldBand$Deed" "kind" "I", Cond.fieldLink RX6 204 "FieldBand$Deed" "number" "I", Cond.fieldLink RX6 207 "FieldBand$Deed" "v" "I", Cond.instanceMethod yX0_runFrom, Cond.selects RX0 yX0_runFrom yX0_runFrom, Cond.code yX0_runFrom cX0_runFrom 7 (some .int), Cond.methodLink RX0 28 yX0_bodyOf, Cond.static yX0_bodyOf, Cond.code yX0_bodyOf cX0_bodyOf 2 (some .int), Cond.fieldLink RX0 43 "FieldBand$Deed" "GOES_BODIES" "[I", Cond.fieldLink RX0 46 "FieldBand$Deed" "PLAYS_BODIES" "[I", Cond.fieldLink RX0 49 "FieldBand$Deed" "FITS_BODIES" "[I", Cond.methodLink RX0 35 yX0_begin, Cond.instanceMethod yX0_begin, Cond.selects RX0 yX0_begin yX0_begin, Cond.code yX0_begin cX0_begin 2 none, Cond.methodLink RX0 39 yX0_runBody]
def wsL_law_r37 : List Cond := [Cond.instanceMethod yX0_runBody, Cond.selects RX0 yX0_runBody yX0_runBody, Cond.code yX0_runBody cX0_runBody 5 (some .int), Cond.methodLink RX0 52 yX0_runFrom, Cond.methodLink RL 115 yX7_act, Cond.instanceMethod yX7_act, Cond.selects RX7 yX7_act yX7_act, Cond.code yX7_act cX7_act 4 (some .int), Cond.fieldLink RX7 228 "FieldBandModel" "ran" "I", Cond.fieldLink RX7 237 "FieldBandModel" "kindNow" "I", Cond.fieldLink RX7 234 "FieldBandModel" "number" "I", Cond.fieldLink RX7 250 "FieldBandModel" "tellsV" "I", Cond.methodLink RX7 247 yX7_goesActs, Cond.instanceMethod yX7_goesActs, Cond.selects RX7 yX7_goesActs yX7_goesActs, Cond.code yX7_goesActs cX7_goesActs 2 (some .int), Cond.methodLink RX7 240 yX7_isUnder, Cond.static yX7_isUnder, Cond.code yX7_isUnder cX7_isUnder 2 (some .boolean), Cond.methodLink RX7 231 yX7_runs, Cond.instanceMethod yX7_runs, Cond.selects RX7 yX7_runs yX7_runs, Cond.code yX7_runs cX7_runs 2 none, Cond.methodLink RX7 244 yX7_plainGoes]
def wsL_law_r38 : List Cond := [Cond.instanceMethod yX7_plainGoes, Cond.selects RX7 yX7_plainGoes yX7_plainGoes, Cond.code yX7_plainGoes cX7_plainGoes 2 (some .int), Cond.methodLink RX7 256 yX7_playsActs, Cond.instanceMethod yX7_playsActs, Cond.selects RX7 yX7_playsActs yX7_playsActs, Cond.code yX7_playsActs cX7_playsActs 2 (some .int), Cond.methodLink RX7 253 yX7_plainPlays, Cond.instanceMethod yX7_plainPlays, Cond.selects RX7 yX7_plainPlays yX7_plainPlays, Cond.code yX7_plainPlays cX7_plainPlays 2 (some .int), Cond.methodLink RX7 262 yX7_fitsActs, Cond.instanceMethod yX7_fitsActs, Cond.selects RX7 yX7_fitsActs yX7_fitsActs, Cond.code yX7_fitsActs cX7_fitsActs 3 (some .int), Cond.methodLink RX7 259 yX7_plainFits, Cond.instanceMethod yX7_plainFits, Cond.selects RX7 yX7_plainFits yX7_plainFits, Cond.code yX7_plainFits cX7_plainFits 2 (some .int), Cond.methodLink RL 116 yX6_trace, Cond.instanceMethod yX6_trace, Cond.selects RX6 yX6_trace yX6_trace, Cond.code yX6_trace cX6_trace 2 (some .int), Cond.fieldLink RX6 213 "FieldBand$Deed" "bodies" "[I"]
def wsL_law_r39 : List Cond := [Cond.methodLink RL 119 yX7_trace, Cond.instanceMethod yX7_trace, Cond.selects RX7 yX7_trace yX7_trace, Cond.code yX7_trace cX7_trace 2 (some .int), Cond.methodLink RL 120 yX6_as, Cond.instanceMethod yX6_as, Cond.selects RX6 yX6_as yX6_as, Cond.code yX6_as cX6_as 3 (some .int), Cond.methodLink RX6 216 yX6_isUnder, Cond.methodLink RL 123 yX7_as, Cond.instanceMethod yX7_as, Cond.selects RX7 yX7_as yX7_as, Cond.code yX7_as cX7_as 3 (some .int), Cond.methodLink RL 124 yX6_image, Cond.instanceMethod yX6_image, Cond.selects RX6 yX6_image yX6_image, Cond.code yX6_image cX6_image 1 (some .int), Cond.methodLink RX6 219 yX1_takeOver, Cond.instanceMethod yX1_takeOver, Cond.selects RX1 yX1_takeOver yX1_takeOver, Cond.code yX1_takeOver cX1_takeOver 2 none, Cond.methodLink RX1 50 arraycopyName, Cond.methodLink RL 127 yX7_image, Cond.instanceMethod yX7_image]
def wsL_law_r40 : List Cond := [Cond.selects RX7 yX7_image yX7_image, Cond.code yX7_image cX7_image 2 (some .int), Cond.fieldLink RX7 265 "FieldBandModel" "hasImage" "Z", Cond.methodLink RL 128 yX6_undo, Cond.instanceMethod yX6_undo, Cond.selects RX6 yX6_undo yX6_undo, Cond.code yX6_undo cX6_undo 1 (some .int), Cond.methodLink RL 131 yX7_undo, Cond.instanceMethod yX7_undo, Cond.selects RX7 yX7_undo yX7_undo, Cond.code yX7_undo cX7_undo 2 (some .int), Cond.methodLink RL 132 yX6_count, Cond.instanceMethod yX6_count, Cond.selects RX6 yX6_count yX6_count, Cond.code yX6_count cX6_count 2 (some .int), Cond.methodLink RL 135 yX7_count, Cond.instanceMethod yX7_count, Cond.selects RX7 yX7_count yX7_count, Cond.code yX7_count cX7_count 2 (some .int)]
def wsL_law : List Cond := (wsL_law_r1 ++ (wsL_law_r2 ++ (wsL_law_r3 ++ (wsL_law_r4 ++ (wsL_law_r5 ++ (wsL_law_r6 ++ (wsL_law_r7 ++ (wsL_law_r8 ++ (wsL_law_r9 ++ (wsL_law_r10 ++ (wsL_law_r11 ++ (wsL_law_r12 ++ (wsL_law_r13 ++ (wsL_law_r14 ++ (wsL_law_r15 ++ (wsL_law_r16 ++ (wsL_law_r17 ++ (wsL_law_r18 ++ (wsL_law_r19 ++ (wsL_law_r20 ++ (wsL_law_r21 ++ (wsL_law_r22 ++ (wsL_law_r23 ++ (wsL_law_r24 ++ (wsL_law_r25 ++ (wsL_law_r26 ++ (wsL_law_r27 ++ (wsL_law_r28 ++ (wsL_law_r29 ++ (wsL_law_r30 ++ (wsL_law_r31 ++ (wsL_law_r32 ++ (wsL_law_r33 ++ (wsL_law_r34 ++ (wsL_law_r35 ++ (wsL_law_r36 ++ (wsL_law_r37 ++ (wsL_law_r38 ++ (wsL_law_r39 ++ wsL_law_r40))))))))))))))))))))))))))))))))))))))) ++ wsX60 ++ wsX70 ++ wsX10 ++ wsX50 ++ wsX00 ++ wsX30 ++ wsX20 ++ wsX40 ++ ([] : List Cond)
theorem inlX0 : ∀ w ∈ wsX00, w ∈ wsL_law := fun _ h => List.mem_append_left _ (List.mem_append_left _ (List.mem_append_left _ (List.mem_append_left _ (List.mem_append_right _ h))))
theorem inlX1 : ∀ w ∈ wsX10, w ∈ wsL_law := fun _ h => List.mem_append_left _ (List.mem_append_left _ (List.mem_append_left _ (List.mem_append_left _ (List.mem_append_left _ (List.mem_append_left _ (List.mem_append_right _ h))))))
theorem inlX2 : ∀ w ∈ wsX20, w ∈ wsL_law := fun _ h => List.mem_append_left _ (List.mem_append_left _ (List.mem_append_right _ h))
theorem inlX3 : ∀ w ∈ wsX30, w ∈ wsL_law := fun _ h => List.mem_append_left _ (List.mem_append_left _ (List.mem_append_left _ (List.mem_append_right _ h)))
theorem inlX4 : ∀ w ∈ wsX40, w ∈ wsL_law := fun _ h => List.mem_append_left _ (List.mem_append_right _ h)
theorem inlX5 : ∀ w ∈ wsX50, w ∈ wsL_law := fun _ h => List.mem_append_left _ (List.mem_append_left _ (List.mem_append_left _ (List.mem_append_left _ (List.mem_append_left _ (List.mem_append_right _ h)))))
theorem inlX6 : ∀ w ∈ wsX60, w ∈ wsL_law := fun _ h => List.mem_append_left _ (List.mem_append_left _ (List.mem_append_left _ (List.mem_append_left _ (List.mem_append_left _ (List.mem_append_left _ (List.mem_append_left _ (List.mem_append_left _ (List.mem_append_right _ h))))))))
theorem inlX7 : ∀ w ∈ wsX70, w ∈ wsL_law := fun _ h => List.mem_append_left _ (List.mem_append_left _ (List.mem_append_left _ (List.mem_append_left _ (List.mem_append_left _ (List.mem_append_left _ (List.mem_append_left _ (List.mem_append_right _ h)))))))
abbrev vwCl : List vw_C := [(RX0, TX0, 5), (RX1, TX1, 12), (RX2, TX2, 3), (RX3, TX3, 10), (RX4, TX4, 9), (RX5, TX5, 5), (RX6, TX6, 8), (RX7, TX7, 24)]
