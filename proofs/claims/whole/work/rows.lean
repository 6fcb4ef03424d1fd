section
-- ===== PART A: goes FIRST, ahead of the names: the tables' words, and 'selects' of the private methods out of them =====
/-- a private method of a class that the tables say can be made, by its rows of tables_1 -/
def lw_okq (q : MethodName × Nat) : Prop := (q.1.cls ≠ "java/lang/invoke/MethodHandle" ∧ q.1.cls ≠ "java/lang/invoke/VarHandle") ∧ Cond.instantiable q.1.cls q.2 ∈ tables_1 ∧ Cond.privateMethod q.1 ∈ tables_1 ∧ Cond.instanceMethod q.1 ∈ tables_1
theorem lw_p0 : lw_okq (⟨"ToldInKnots$Reader", "takes", "(C)Z"⟩, 5) := ⟨⟨by decide +kernel, by decide +kernel⟩, List.mem_of_getElem? (i := 24) (by decide +kernel), List.mem_of_getElem? (i := 183) (by decide +kernel), List.mem_of_getElem? (i := 184) (by decide +kernel)⟩
theorem lw_p1 : lw_okq (⟨"ToldInKnots$Reader", "opensGroup", "()Z"⟩, 5) := ⟨⟨by decide +kernel, by decide +kernel⟩, List.mem_of_getElem? (i := 24) (by decide +kernel), List.mem_of_getElem? (i := 187) (by decide +kernel), List.mem_of_getElem? (i := 188) (by decide +kernel)⟩
theorem lw_p2 : lw_okq (⟨"ToldInKnots$Reader", "opensCord", "(C)Z"⟩, 5) := ⟨⟨by decide +kernel, by decide +kernel⟩, List.mem_of_getElem? (i := 24) (by decide +kernel), List.mem_of_getElem? (i := 206) (by decide +kernel), List.mem_of_getElem? (i := 207) (by decide +kernel)⟩
theorem lw_p3 : lw_okq (⟨"ToldInKnots$Reader", "opensCluster", "(C)Z"⟩, 5) := ⟨⟨by decide +kernel, by decide +kernel⟩, List.mem_of_getElem? (i := 24) (by decide +kernel), List.mem_of_getElem? (i := 223) (by decide +kernel), List.mem_of_getElem? (i := 224) (by decide +kernel)⟩
theorem lw_p4 : lw_okq (⟨"ToldInKnots$Reader", "endsCluster", "(II)Z"⟩, 5) := ⟨⟨by decide +kernel, by decide +kernel⟩, List.mem_of_getElem? (i := 24) (by decide +kernel), List.mem_of_getElem? (i := 231) (by decide +kernel), List.mem_of_getElem? (i := 232) (by decide +kernel)⟩
theorem lw_p5 : lw_okq (⟨"ToldInKnots$Reader", "opensHanging", "(C)Z"⟩, 5) := ⟨⟨by decide +kernel, by decide +kernel⟩, List.mem_of_getElem? (i := 24) (by decide +kernel), List.mem_of_getElem? (i := 242) (by decide +kernel), List.mem_of_getElem? (i := 243) (by decide +kernel)⟩
theorem lw_p6 : lw_okq (⟨"ToldInKnots$Reader", "comesBehindCord", "(C)Z"⟩, 5) := ⟨⟨by decide +kernel, by decide +kernel⟩, List.mem_of_getElem? (i := 24) (by decide +kernel), List.mem_of_getElem? (i := 246) (by decide +kernel), List.mem_of_getElem? (i := 247) (by decide +kernel)⟩
theorem lw_p7 : lw_okq (⟨"ToldInKnots", "measureRoom", "(I)V"⟩, 11) := ⟨⟨by decide +kernel, by decide +kernel⟩, List.mem_of_getElem? (i := 16) (by decide +kernel), List.mem_of_getElem? (i := 524) (by decide +kernel), List.mem_of_getElem? (i := 525) (by decide +kernel)⟩
theorem lw_p8 : lw_okq (⟨"ToldInKnots", "slipAt", "(III)I"⟩, 11) := ⟨⟨by decide +kernel, by decide +kernel⟩, List.mem_of_getElem? (i := 16) (by decide +kernel), List.mem_of_getElem? (i := 548) (by decide +kernel), List.mem_of_getElem? (i := 549) (by decide +kernel)⟩
theorem lw_p9 : lw_okq (⟨"ToldInKnots$Sets", "spreadLow", "(I)V"⟩, 9) := ⟨⟨by decide +kernel, by decide +kernel⟩, List.mem_of_getElem? (i := 82) (by decide +kernel), List.mem_of_getElem? (i := 590) (by decide +kernel), List.mem_of_getElem? (i := 591) (by decide +kernel)⟩
theorem lw_p10 : lw_okq (⟨"ToldInKnots$Sets", "mergeWith", "(I)V"⟩, 9) := ⟨⟨by decide +kernel, by decide +kernel⟩, List.mem_of_getElem? (i := 82) (by decide +kernel), List.mem_of_getElem? (i := 595) (by decide +kernel), List.mem_of_getElem? (i := 596) (by decide +kernel)⟩
theorem lw_p11 : lw_okq (⟨"ToldInKnots$Sets", "spreadHigh", "()I"⟩, 9) := ⟨⟨by decide +kernel, by decide +kernel⟩, List.mem_of_getElem? (i := 82) (by decide +kernel), List.mem_of_getElem? (i := 599) (by decide +kernel), List.mem_of_getElem? (i := 600) (by decide +kernel)⟩
theorem lw_p12 : lw_okq (⟨"ToldInKnots$Sets", "firstFrom", "(I)I"⟩, 9) := ⟨⟨by decide +kernel, by decide +kernel⟩, List.mem_of_getElem? (i := 82) (by decide +kernel), List.mem_of_getElem? (i := 603) (by decide +kernel), List.mem_of_getElem? (i := 604) (by decide +kernel)⟩
theorem lw_p13 : lw_okq (⟨"ToldInKnots$Sets", "sumAt", "(I)I"⟩, 9) := ⟨⟨by decide +kernel, by decide +kernel⟩, List.mem_of_getElem? (i := 82) (by decide +kernel), List.mem_of_getElem? (i := 607) (by decide +kernel), List.mem_of_getElem? (i := 608) (by decide +kernel)⟩
theorem lw_p14 : lw_okq (⟨"ToldInKnots$Sets", "better", "(IIIII)I"⟩, 9) := ⟨⟨by decide +kernel, by decide +kernel⟩, List.mem_of_getElem? (i := 82) (by decide +kernel), List.mem_of_getElem? (i := 611) (by decide +kernel), List.mem_of_getElem? (i := 612) (by decide +kernel)⟩
theorem lw_p15 : lw_okq (⟨"ToldInKnots$Sets", "bitsAt", "(I)I"⟩, 9) := ⟨⟨by decide +kernel, by decide +kernel⟩, List.mem_of_getElem? (i := 82) (by decide +kernel), List.mem_of_getElem? (i := 616) (by decide +kernel), List.mem_of_getElem? (i := 617) (by decide +kernel)⟩
def lw_privs_1 : List (MethodName × Nat) := [(⟨"ToldInKnots$Reader", "takes", "(C)Z"⟩, 5), (⟨"ToldInKnots$Reader", "opensGroup", "()Z"⟩, 5), (⟨"ToldInKnots$Reader", "opensCord", "(C)Z"⟩, 5), (⟨"ToldInKnots$Reader", "opensCluster", "(C)Z"⟩, 5), (⟨"ToldInKnots$Reader", "endsCluster", "(II)Z"⟩, 5), (⟨"ToldInKnots$Reader", "opensHanging", "(C)Z"⟩, 5), (⟨"ToldInKnots$Reader", "comesBehindCord", "(C)Z"⟩, 5), (⟨"ToldInKnots", "measureRoom", "(I)V"⟩, 11), (⟨"ToldInKnots", "slipAt", "(III)I"⟩, 11), (⟨"ToldInKnots$Sets", "spreadLow", "(I)V"⟩, 9), (⟨"ToldInKnots$Sets", "mergeWith", "(I)V"⟩, 9), (⟨"ToldInKnots$Sets", "spreadHigh", "()I"⟩, 9), (⟨"ToldInKnots$Sets", "firstFrom", "(I)I"⟩, 9), (⟨"ToldInKnots$Sets", "sumAt", "(I)I"⟩, 9), (⟨"ToldInKnots$Sets", "better", "(IIIII)I"⟩, 9), (⟨"ToldInKnots$Sets", "bitsAt", "(I)I"⟩, 9)]
theorem lw_r1 : ∀ q ∈ lw_privs_1, lw_okq q := List.forall_mem_cons.mpr ⟨lw_p0, List.forall_mem_cons.mpr ⟨lw_p1, List.forall_mem_cons.mpr ⟨lw_p2, List.forall_mem_cons.mpr ⟨lw_p3, List.forall_mem_cons.mpr ⟨lw_p4, List.forall_mem_cons.mpr ⟨lw_p5, List.forall_mem_cons.mpr ⟨lw_p6, List.forall_mem_cons.mpr ⟨lw_p7, List.forall_mem_cons.mpr ⟨lw_p8, List.forall_mem_cons.mpr ⟨lw_p9, List.forall_mem_cons.mpr ⟨lw_p10, List.forall_mem_cons.mpr ⟨lw_p11, List.forall_mem_cons.mpr ⟨lw_p12, List.forall_mem_cons.mpr ⟨lw_p13, List.forall_mem_cons.mpr ⟨lw_p14, List.forall_mem_cons.mpr ⟨lw_p15, fun _ h => absurd h List.not_mem_nil⟩⟩⟩⟩⟩⟩⟩⟩⟩⟩⟩⟩⟩⟩⟩⟩
theorem lw_p16 : lw_okq (⟨"ToldInKnots$Sets", "asCords", "(I)I"⟩, 9) := ⟨⟨by decide +kernel, by decide +kernel⟩, List.mem_of_getElem? (i := 82) (by decide +kernel), List.mem_of_getElem? (i := 620) (by decide +kernel), List.mem_of_getElem? (i := 621) (by decide +kernel)⟩
theorem lw_p17 : lw_okq (⟨"ToldInKnotsModel", "first", "(IIIIII)V"⟩, 17) := ⟨⟨by decide +kernel, by decide +kernel⟩, List.mem_of_getElem? (i := 705) (by decide +kernel), List.mem_of_getElem? (i := 711) (by decide +kernel), List.mem_of_getElem? (i := 712) (by decide +kernel)⟩
theorem lw_p18 : lw_okq (⟨"ToldInKnotsModel", "knots", "(IIIII)V"⟩, 17) := ⟨⟨by decide +kernel, by decide +kernel⟩, List.mem_of_getElem? (i := 705) (by decide +kernel), List.mem_of_getElem? (i := 715) (by decide +kernel), List.mem_of_getElem? (i := 716) (by decide +kernel)⟩
theorem lw_p19 : lw_okq (⟨"ToldInKnotsModel", "begins", "()V"⟩, 17) := ⟨⟨by decide +kernel, by decide +kernel⟩, List.mem_of_getElem? (i := 705) (by decide +kernel), List.mem_of_getElem? (i := 719) (by decide +kernel), List.mem_of_getElem? (i := 720) (by decide +kernel)⟩
theorem lw_p20 : lw_okq (⟨"ToldInKnotsModel", "takes", "(I)Z"⟩, 17) := ⟨⟨by decide +kernel, by decide +kernel⟩, List.mem_of_getElem? (i := 705) (by decide +kernel), List.mem_of_getElem? (i := 795) (by decide +kernel), List.mem_of_getElem? (i := 796) (by decide +kernel)⟩
theorem lw_p21 : lw_okq (⟨"ToldInKnotsModel", "takesGroup", "(I)Z"⟩, 17) := ⟨⟨by decide +kernel, by decide +kernel⟩, List.mem_of_getElem? (i := 705) (by decide +kernel), List.mem_of_getElem? (i := 799) (by decide +kernel), List.mem_of_getElem? (i := 800) (by decide +kernel)⟩
theorem lw_p22 : lw_okq (⟨"ToldInKnotsModel", "goesTo", "(I)Z"⟩, 17) := ⟨⟨by decide +kernel, by decide +kernel⟩, List.mem_of_getElem? (i := 705) (by decide +kernel), List.mem_of_getElem? (i := 803) (by decide +kernel), List.mem_of_getElem? (i := 804) (by decide +kernel)⟩
theorem lw_p23 : lw_okq (⟨"ToldInKnotsModel", "hasRoom", "()Z"⟩, 17) := ⟨⟨by decide +kernel, by decide +kernel⟩, List.mem_of_getElem? (i := 705) (by decide +kernel), List.mem_of_getElem? (i := 809) (by decide +kernel), List.mem_of_getElem? (i := 810) (by decide +kernel)⟩
theorem lw_p24 : lw_okq (⟨"ToldInKnotsModel", "takesColour", "(I)Z"⟩, 17) := ⟨⟨by decide +kernel, by decide +kernel⟩, List.mem_of_getElem? (i := 705) (by decide +kernel), List.mem_of_getElem? (i := 813) (by decide +kernel), List.mem_of_getElem? (i := 814) (by decide +kernel)⟩
theorem lw_p25 : lw_okq (⟨"ToldInKnotsModel", "takesKnots", "(I)Z"⟩, 17) := ⟨⟨by decide +kernel, by decide +kernel⟩, List.mem_of_getElem? (i := 705) (by decide +kernel), List.mem_of_getElem? (i := 817) (by decide +kernel), List.mem_of_getElem? (i := 818) (by decide +kernel)⟩
theorem lw_p26 : lw_okq (⟨"ToldInKnotsModel", "newest", "()I"⟩, 17) := ⟨⟨by decide +kernel, by decide +kernel⟩, List.mem_of_getElem? (i := 705) (by decide +kernel), List.mem_of_getElem? (i := 821) (by decide +kernel), List.mem_of_getElem? (i := 822) (by decide +kernel)⟩
theorem lw_p27 : lw_okq (⟨"ToldInKnotsModel", "takesCluster", "(I)Z"⟩, 17) := ⟨⟨by decide +kernel, by decide +kernel⟩, List.mem_of_getElem? (i := 705) (by decide +kernel), List.mem_of_getElem? (i := 825) (by decide +kernel), List.mem_of_getElem? (i := 826) (by decide +kernel)⟩
theorem lw_p28 : lw_okq (⟨"ToldInKnotsModel", "takesBehind", "(I)Z"⟩, 17) := ⟨⟨by decide +kernel, by decide +kernel⟩, List.mem_of_getElem? (i := 705) (by decide +kernel), List.mem_of_getElem? (i := 831) (by decide +kernel), List.mem_of_getElem? (i := 832) (by decide +kernel)⟩
theorem lw_p29 : lw_okq (⟨"ToldInKnotsModel", "isCord", "(I)Z"⟩, 17) := ⟨⟨by decide +kernel, by decide +kernel⟩, List.mem_of_getElem? (i := 705) (by decide +kernel), List.mem_of_getElem? (i := 846) (by decide +kernel), List.mem_of_getElem? (i := 847) (by decide +kernel)⟩
theorem lw_p30 : lw_okq (⟨"ToldInKnotsModel", "isPendant", "(I)Z"⟩, 17) := ⟨⟨by decide +kernel, by decide +kernel⟩, List.mem_of_getElem? (i := 705) (by decide +kernel), List.mem_of_getElem? (i := 850) (by decide +kernel), List.mem_of_getElem? (i := 851) (by decide +kernel)⟩
theorem lw_p31 : lw_okq (⟨"ToldInKnotsModel", "depthOf", "(I)I"⟩, 17) := ⟨⟨by decide +kernel, by decide +kernel⟩, List.mem_of_getElem? (i := 705) (by decide +kernel), List.mem_of_getElem? (i := 854) (by decide +kernel), List.mem_of_getElem? (i := 855) (by decide +kernel)⟩
def lw_privs_2 : List (MethodName × Nat) := [(⟨"ToldInKnots$Sets", "asCords", "(I)I"⟩, 9), (⟨"ToldInKnotsModel", "first", "(IIIIII)V"⟩, 17), (⟨"ToldInKnotsModel", "knots", "(IIIII)V"⟩, 17), (⟨"ToldInKnotsModel", "begins", "()V"⟩, 17), (⟨"ToldInKnotsModel", "takes", "(I)Z"⟩, 17), (⟨"ToldInKnotsModel", "takesGroup", "(I)Z"⟩, 17), (⟨"ToldInKnotsModel", "goesTo", "(I)Z"⟩, 17), (⟨"ToldInKnotsModel", "hasRoom", "()Z"⟩, 17), (⟨"ToldInKnotsModel", "takesColour", "(I)Z"⟩, 17), (⟨"ToldInKnotsModel", "takesKnots", "(I)Z"⟩, 17), (⟨"ToldInKnotsModel", "newest", "()I"⟩, 17), (⟨"ToldInKnotsModel", "takesCluster", "(I)Z"⟩, 17), (⟨"ToldInKnotsModel", "takesBehind", "(I)Z"⟩, 17), (⟨"ToldInKnotsModel", "isCord", "(I)Z"⟩, 17), (⟨"ToldInKnotsModel", "isPendant", "(I)Z"⟩, 17), (⟨"ToldInKnotsModel", "depthOf", "(I)I"⟩, 17)]
theorem lw_r2 : ∀ q ∈ lw_privs_2, lw_okq q := List.forall_mem_cons.mpr ⟨lw_p16, List.forall_mem_cons.mpr ⟨lw_p17, List.forall_mem_cons.mpr ⟨lw_p18, List.forall_mem_cons.mpr ⟨lw_p19, List.forall_mem_cons.mpr ⟨lw_p20, List.forall_mem_cons.mpr ⟨lw_p21, List.forall_mem_cons.mpr ⟨lw_p22, List.forall_mem_cons.mpr ⟨lw_p23, List.forall_mem_cons.mpr ⟨lw_p24, List.forall_mem_cons.mpr ⟨lw_p25, List.forall_mem_cons.mpr ⟨lw_p26, List.forall_mem_cons.mpr ⟨lw_p27, List.forall_mem_cons.mpr ⟨lw_p28, List.forall_mem_cons.mpr ⟨lw_p29, List.forall_mem_cons.mpr ⟨lw_p30, List.forall_mem_cons.mpr ⟨lw_p31, fun _ h => absurd h List.not_mem_nil⟩⟩⟩⟩⟩⟩⟩⟩⟩⟩⟩⟩⟩⟩⟩⟩
theorem lw_p32 : lw_okq (⟨"ToldInKnotsModel", "hanging", "(I)I"⟩, 17) := ⟨⟨by decide +kernel, by decide +kernel⟩, List.mem_of_getElem? (i := 705) (by decide +kernel), List.mem_of_getElem? (i := 858) (by decide +kernel), List.mem_of_getElem? (i := 859) (by decide +kernel)⟩
theorem lw_p33 : lw_okq (⟨"ToldInKnotsModel", "value", "(I)I"⟩, 17) := ⟨⟨by decide +kernel, by decide +kernel⟩, List.mem_of_getElem? (i := 705) (by decide +kernel), List.mem_of_getElem? (i := 862) (by decide +kernel), List.mem_of_getElem? (i := 863) (by decide +kernel)⟩
theorem lw_p34 : lw_okq (⟨"ToldInKnotsModel", "told", "(IZ)I"⟩, 17) := ⟨⟨by decide +kernel, by decide +kernel⟩, List.mem_of_getElem? (i := 705) (by decide +kernel), List.mem_of_getElem? (i := 866) (by decide +kernel), List.mem_of_getElem? (i := 867) (by decide +kernel)⟩
theorem lw_p35 : lw_okq (⟨"ToldInKnotsModel", "knot0", "(II)I"⟩, 17) := ⟨⟨by decide +kernel, by decide +kernel⟩, List.mem_of_getElem? (i := 705) (by decide +kernel), List.mem_of_getElem? (i := 870) (by decide +kernel), List.mem_of_getElem? (i := 871) (by decide +kernel)⟩
theorem lw_p36 : lw_okq (⟨"ToldInKnotsModel", "whole", "(I)I"⟩, 17) := ⟨⟨by decide +kernel, by decide +kernel⟩, List.mem_of_getElem? (i := 705) (by decide +kernel), List.mem_of_getElem? (i := 874) (by decide +kernel), List.mem_of_getElem? (i := 875) (by decide +kernel)⟩
theorem lw_p37 : lw_okq (⟨"ToldInKnotsModel", "beneath", "(I)I"⟩, 17) := ⟨⟨by decide +kernel, by decide +kernel⟩, List.mem_of_getElem? (i := 705) (by decide +kernel), List.mem_of_getElem? (i := 878) (by decide +kernel), List.mem_of_getElem? (i := 879) (by decide +kernel)⟩
theorem lw_p38 : lw_okq (⟨"ToldInKnotsModel", "isUnder", "(II)Z"⟩, 17) := ⟨⟨by decide +kernel, by decide +kernel⟩, List.mem_of_getElem? (i := 705) (by decide +kernel), List.mem_of_getElem? (i := 882) (by decide +kernel), List.mem_of_getElem? (i := 883) (by decide +kernel)⟩
theorem lw_p39 : lw_okq (⟨"ToldInKnotsModel", "knots", "(I)I"⟩, 17) := ⟨⟨by decide +kernel, by decide +kernel⟩, List.mem_of_getElem? (i := 705) (by decide +kernel), List.mem_of_getElem? (i := 886) (by decide +kernel), List.mem_of_getElem? (i := 887) (by decide +kernel)⟩
theorem lw_p40 : lw_okq (⟨"ToldInKnotsModel", "isGroup", "(I)Z"⟩, 17) := ⟨⟨by decide +kernel, by decide +kernel⟩, List.mem_of_getElem? (i := 705) (by decide +kernel), List.mem_of_getElem? (i := 901) (by decide +kernel), List.mem_of_getElem? (i := 902) (by decide +kernel)⟩
theorem lw_p41 : lw_okq (⟨"ToldInKnotsModel", "manyOf", "(I)I"⟩, 17) := ⟨⟨by decide +kernel, by decide +kernel⟩, List.mem_of_getElem? (i := 705) (by decide +kernel), List.mem_of_getElem? (i := 905) (by decide +kernel), List.mem_of_getElem? (i := 906) (by decide +kernel)⟩
theorem lw_p42 : lw_okq (⟨"ToldInKnotsModel", "isOf", "(II)Z"⟩, 17) := ⟨⟨by decide +kernel, by decide +kernel⟩, List.mem_of_getElem? (i := 705) (by decide +kernel), List.mem_of_getElem? (i := 909) (by decide +kernel), List.mem_of_getElem? (i := 910) (by decide +kernel)⟩
theorem lw_p43 : lw_okq (⟨"ToldInKnotsModel", "isPlain", "(I)Z"⟩, 17) := ⟨⟨by decide +kernel, by decide +kernel⟩, List.mem_of_getElem? (i := 705) (by decide +kernel), List.mem_of_getElem? (i := 913) (by decide +kernel), List.mem_of_getElem? (i := 914) (by decide +kernel)⟩
theorem lw_p44 : lw_okq (⟨"ToldInKnotsModel", "topOf", "(I)I"⟩, 17) := ⟨⟨by decide +kernel, by decide +kernel⟩, List.mem_of_getElem? (i := 705) (by decide +kernel), List.mem_of_getElem? (i := 917) (by decide +kernel), List.mem_of_getElem? (i := 918) (by decide +kernel)⟩
theorem lw_p45 : lw_okq (⟨"ToldInKnotsModel", "sumOf", "(I)I"⟩, 17) := ⟨⟨by decide +kernel, by decide +kernel⟩, List.mem_of_getElem? (i := 705) (by decide +kernel), List.mem_of_getElem? (i := 921) (by decide +kernel), List.mem_of_getElem? (i := 922) (by decide +kernel)⟩
theorem lw_p46 : lw_okq (⟨"ToldInKnotsModel", "wrongBy", "(I)I"⟩, 17) := ⟨⟨by decide +kernel, by decide +kernel⟩, List.mem_of_getElem? (i := 705) (by decide +kernel), List.mem_of_getElem? (i := 925) (by decide +kernel), List.mem_of_getElem? (i := 926) (by decide +kernel)⟩
theorem lw_p47 : lw_okq (⟨"ToldInKnotsModel", "pendantAt", "(II)I"⟩, 17) := ⟨⟨by decide +kernel, by decide +kernel⟩, List.mem_of_getElem? (i := 705) (by decide +kernel), List.mem_of_getElem? (i := 934) (by decide +kernel), List.mem_of_getElem? (i := 935) (by decide +kernel)⟩
def lw_privs_3 : List (MethodName × Nat) := [(⟨"ToldInKnotsModel", "hanging", "(I)I"⟩, 17), (⟨"ToldInKnotsModel", "value", "(I)I"⟩, 17), (⟨"ToldInKnotsModel", "told", "(IZ)I"⟩, 17), (⟨"ToldInKnotsModel", "knot0", "(II)I"⟩, 17), (⟨"ToldInKnotsModel", "whole", "(I)I"⟩, 17), (⟨"ToldInKnotsModel", "beneath", "(I)I"⟩, 17), (⟨"ToldInKnotsModel", "isUnder", "(II)Z"⟩, 17), (⟨"ToldInKnotsModel", "knots", "(I)I"⟩, 17), (⟨"ToldInKnotsModel", "isGroup", "(I)Z"⟩, 17), (⟨"ToldInKnotsModel", "manyOf", "(I)I"⟩, 17), (⟨"ToldInKnotsModel", "isOf", "(II)Z"⟩, 17), (⟨"ToldInKnotsModel", "isPlain", "(I)Z"⟩, 17), (⟨"ToldInKnotsModel", "topOf", "(I)I"⟩, 17), (⟨"ToldInKnotsModel", "sumOf", "(I)I"⟩, 17), (⟨"ToldInKnotsModel", "wrongBy", "(I)I"⟩, 17), (⟨"ToldInKnotsModel", "pendantAt", "(II)I"⟩, 17)]
theorem lw_r3 : ∀ q ∈ lw_privs_3, lw_okq q := List.forall_mem_cons.mpr ⟨lw_p32, List.forall_mem_cons.mpr ⟨lw_p33, List.forall_mem_cons.mpr ⟨lw_p34, List.forall_mem_cons.mpr ⟨lw_p35, List.forall_mem_cons.mpr ⟨lw_p36, List.forall_mem_cons.mpr ⟨lw_p37, List.forall_mem_cons.mpr ⟨lw_p38, List.forall_mem_cons.mpr ⟨lw_p39, List.forall_mem_cons.mpr ⟨lw_p40, List.forall_mem_cons.mpr ⟨lw_p41, List.forall_mem_cons.mpr ⟨lw_p42, List.forall_mem_cons.mpr ⟨lw_p43, List.forall_mem_cons.mpr ⟨lw_p44, List.forall_mem_cons.mpr ⟨lw_p45, List.forall_mem_cons.mpr ⟨lw_p46, List.forall_mem_cons.mpr ⟨lw_p47, fun _ h => absurd h List.not_mem_nil⟩⟩⟩⟩⟩⟩⟩⟩⟩⟩⟩⟩⟩⟩⟩⟩
theorem lw_p48 : lw_okq (⟨"ToldInKnotsModel", "workFor", "(II)I"⟩, 17) := ⟨⟨by decide +kernel, by decide +kernel⟩, List.mem_of_getElem? (i := 705) (by decide +kernel), List.mem_of_getElem? (i := 945) (by decide +kernel), List.mem_of_getElem? (i := 946) (by decide +kernel)⟩
theorem lw_p49 : lw_okq (⟨"ToldInKnotsModel", "ties", "(II)V"⟩, 17) := ⟨⟨by decide +kernel, by decide +kernel⟩, List.mem_of_getElem? (i := 705) (by decide +kernel), List.mem_of_getElem? (i := 952) (by decide +kernel), List.mem_of_getElem? (i := 953) (by decide +kernel)⟩
theorem lw_p50 : lw_okq (⟨"ToldInKnotsModel", "remember", "()V"⟩, 17) := ⟨⟨by decide +kernel, by decide +kernel⟩, List.mem_of_getElem? (i := 705) (by decide +kernel), List.mem_of_getElem? (i := 956) (by decide +kernel), List.mem_of_getElem? (i := 957) (by decide +kernel)⟩
theorem lw_p51 : lw_okq (⟨"ToldInKnotsModel", "layRoom", "(I)V"⟩, 17) := ⟨⟨by decide +kernel, by decide +kernel⟩, List.mem_of_getElem? (i := 705) (by decide +kernel), List.mem_of_getElem? (i := 995) (by decide +kernel), List.mem_of_getElem? (i := 996) (by decide +kernel)⟩
theorem lw_p52 : lw_okq (⟨"ToldInKnotsModel", "layValues", "()V"⟩, 17) := ⟨⟨by decide +kernel, by decide +kernel⟩, List.mem_of_getElem? (i := 705) (by decide +kernel), List.mem_of_getElem? (i := 1027) (by decide +kernel), List.mem_of_getElem? (i := 1028) (by decide +kernel)⟩
theorem lw_p53 : lw_okq (⟨"ToldInKnotsModel", "tellOf", "(I)I"⟩, 17) := ⟨⟨by decide +kernel, by decide +kernel⟩, List.mem_of_getElem? (i := 705) (by decide +kernel), List.mem_of_getElem? (i := 1031) (by decide +kernel), List.mem_of_getElem? (i := 1032) (by decide +kernel)⟩
theorem lw_p54 : lw_okq (⟨"ToldInKnotsModel", "areAlike", "(II)Z"⟩, 17) := ⟨⟨by decide +kernel, by decide +kernel⟩, List.mem_of_getElem? (i := 705) (by decide +kernel), List.mem_of_getElem? (i := 1054) (by decide +kernel), List.mem_of_getElem? (i := 1055) (by decide +kernel)⟩
theorem lw_p55 : lw_okq (⟨"ToldInKnotsModel", "hangingAt", "(II)I"⟩, 17) := ⟨⟨by decide +kernel, by decide +kernel⟩, List.mem_of_getElem? (i := 705) (by decide +kernel), List.mem_of_getElem? (i := 1058) (by decide +kernel), List.mem_of_getElem? (i := 1059) (by decide +kernel)⟩
theorem lw_p56 : lw_okq (⟨"ToldInKnotsModel", "areAlikeBelow", "(II)Z"⟩, 17) := ⟨⟨by decide +kernel, by decide +kernel⟩, List.mem_of_getElem? (i := 705) (by decide +kernel), List.mem_of_getElem? (i := 1062) (by decide +kernel), List.mem_of_getElem? (i := 1063) (by decide +kernel)⟩
def lw_privs_4 : List (MethodName × Nat) := [(⟨"ToldInKnotsModel", "workFor", "(II)I"⟩, 17), (⟨"ToldInKnotsModel", "ties", "(II)V"⟩, 17), (⟨"ToldInKnotsModel", "remember", "()V"⟩, 17), (⟨"ToldInKnotsModel", "layRoom", "(I)V"⟩, 17), (⟨"ToldInKnotsModel", "layValues", "()V"⟩, 17), (⟨"ToldInKnotsModel", "tellOf", "(I)I"⟩, 17), (⟨"ToldInKnotsModel", "areAlike", "(II)Z"⟩, 17), (⟨"ToldInKnotsModel", "hangingAt", "(II)I"⟩, 17), (⟨"ToldInKnotsModel", "areAlikeBelow", "(II)Z"⟩, 17)]
theorem lw_r4 : ∀ q ∈ lw_privs_4, lw_okq q := List.forall_mem_cons.mpr ⟨lw_p48, List.forall_mem_cons.mpr ⟨lw_p49, List.forall_mem_cons.mpr ⟨lw_p50, List.forall_mem_cons.mpr ⟨lw_p51, List.forall_mem_cons.mpr ⟨lw_p52, List.forall_mem_cons.mpr ⟨lw_p53, List.forall_mem_cons.mpr ⟨lw_p54, List.forall_mem_cons.mpr ⟨lw_p55, List.forall_mem_cons.mpr ⟨lw_p56, fun _ h => absurd h List.not_mem_nil⟩⟩⟩⟩⟩⟩⟩⟩⟩
def lw_privs : List (MethodName × Nat) := lw_privs_1 ++ (lw_privs_2 ++ (lw_privs_3 ++ (lw_privs_4)))
def lw_tbl : List Cond := k2_sels lw_privs ++ tables_1
theorem lw_privs_ok : ∀ q ∈ lw_privs, lw_okq q := by
  show ∀ q ∈ lw_privs_1 ++ (lw_privs_2 ++ (lw_privs_3 ++ (lw_privs_4))), lw_okq q
  exact List.forall_mem_append.mpr ⟨lw_r1, List.forall_mem_append.mpr ⟨lw_r2, List.forall_mem_append.mpr ⟨lw_r3, lw_r4⟩⟩⟩
def RX0 : String := "ToldInKnots$Bundle"
def TX0 : u_T := fun k => match k with
  | _ => ("ToldInKnots$Bundle", "row", "[I", true)
def tyX0 : Nat → FieldType := fun k => match k with
  | _ => .array .int
abbrev wsX00 : List Cond := u_ws RX0 TX0 1
theorem nmX0 : ∀ a, a < 1 → ∀ b, b < 1 → a ≠ b → (TX0 a).2.1 ≠ (TX0 b).2.1 := by decide +kernel
theorem tyX0_ok : ∀ k, k < 1 → parseFieldDescriptor (TX0 k).2.2.1 = some (tyX0 k) := by decide +kernel
abbrev cX0_init : ByteArray := prog_2_method_1_code
def yX0_init : MethodName := ⟨RX0, "<init>", "()V"⟩
abbrev cX0_becomeAs : ByteArray := prog_2_method_2_code
def yX0_becomeAs : MethodName := ⟨RX0, "becomeAs", "([I)V"⟩
abbrev cX0_clear : ByteArray := prog_2_method_3_code
def yX0_clear : MethodName := ⟨RX0, "clear", "()V"⟩
abbrev cX0_cords : ByteArray := prog_2_method_4_code
def yX0_cords : MethodName := ⟨RX0, "cords", "()I"⟩
abbrev cX0_groups : ByteArray := prog_2_method_5_code
def yX0_groups : MethodName := ⟨RX0, "groups", "()I"⟩
abbrev cX0_hasCord : ByteArray := prog_2_method_6_code
def yX0_hasCord : MethodName := ⟨RX0, "hasCord", "(I)Z"⟩
abbrev cX0_hasCluster : ByteArray := prog_2_method_7_code
def yX0_hasCluster : MethodName := ⟨RX0, "hasCluster", "(II)Z"⟩
abbrev cX0_hasGroup : ByteArray := prog_2_method_8_code
def yX0_hasGroup : MethodName := ⟨RX0, "hasGroup", "(I)Z"⟩
abbrev cX0_colourOf : ByteArray := prog_2_method_9_code
def yX0_colourOf : MethodName := ⟨RX0, "colourOf", "(I)I"⟩
abbrev cX0_setColour : ByteArray := prog_2_method_10_code
def yX0_setColour : MethodName := ⟨RX0, "setColour", "(II)V"⟩
abbrev cX0_sizeOf : ByteArray := prog_2_method_11_code
def yX0_sizeOf : MethodName := ⟨RX0, "sizeOf", "(I)I"⟩
abbrev cX0_codeOf : ByteArray := prog_2_method_12_code
def yX0_codeOf : MethodName := ⟨RX0, "codeOf", "(II)I"⟩
abbrev cX0_setCode : ByteArray := prog_2_method_13_code
def yX0_setCode : MethodName := ⟨RX0, "setCode", "(III)V"⟩
abbrev cX0_valueOf : ByteArray := prog_2_method_14_code
def yX0_valueOf : MethodName := ⟨RX0, "valueOf", "(I)I"⟩
abbrev cX0_valueFromOtherEnd : ByteArray := prog_2_method_15_code
def yX0_valueFromOtherEnd : MethodName := ⟨RX0, "valueFromOtherEnd", "(I)I"⟩
abbrev cX0_told : ByteArray := prog_2_method_16_code
def yX0_told : MethodName := ⟨RX0, "told", "(I)I"⟩
abbrev cX0_mostOn : ByteArray := prog_2_method_17_code
def yX0_mostOn : MethodName := ⟨RX0, "mostOn", "(I)I"⟩
abbrev cX0_knotsOf : ByteArray := prog_2_method_18_code
def yX0_knotsOf : MethodName := ⟨RX0, "knotsOf", "(I)I"⟩
abbrev cX0_workToTell : ByteArray := prog_2_method_19_code
def yX0_workToTell : MethodName := ⟨RX0, "workToTell", "(II)I"⟩
abbrev cX0_tell : ByteArray := prog_2_method_20_code
def yX0_tell : MethodName := ⟨RX0, "tell", "(II)V"⟩
abbrev cX0_looksLike : ByteArray := prog_2_method_21_code
def yX0_looksLike : MethodName := ⟨RX0, "looksLike", "(II)Z"⟩
abbrev cX0_holderOf : ByteArray := prog_2_method_22_code
def yX0_holderOf : MethodName := ⟨RX0, "holderOf", "(I)I"⟩
abbrev cX0_depthOf : ByteArray := prog_2_method_23_code
def yX0_depthOf : MethodName := ⟨RX0, "depthOf", "(I)I"⟩
abbrev cX0_groupOf : ByteArray := prog_2_method_24_code
def yX0_groupOf : MethodName := ⟨RX0, "groupOf", "(I)I"⟩
abbrev cX0_isTop : ByteArray := prog_2_method_25_code
def yX0_isTop : MethodName := ⟨RX0, "isTop", "(I)Z"⟩
abbrev cX0_isPlainPendant : ByteArray := prog_2_method_26_code
def yX0_isPlainPendant : MethodName := ⟨RX0, "isPlainPendant", "(I)Z"⟩
abbrev cX0_isIn : ByteArray := prog_2_method_27_code
def yX0_isIn : MethodName := ⟨RX0, "isIn", "(II)Z"⟩
abbrev cX0_isFrom : ByteArray := prog_2_method_28_code
def yX0_isFrom : MethodName := ⟨RX0, "isFrom", "(II)Z"⟩
abbrev cX0_pendantAbove : ByteArray := prog_2_method_29_code
def yX0_pendantAbove : MethodName := ⟨RX0, "pendantAbove", "(I)I"⟩
abbrev cX0_hangingFrom : ByteArray := prog_2_method_30_code
def yX0_hangingFrom : MethodName := ⟨RX0, "hangingFrom", "(I)I"⟩
abbrev cX0_cordsFrom : ByteArray := prog_2_method_31_code
def yX0_cordsFrom : MethodName := ⟨RX0, "cordsFrom", "(I)I"⟩
abbrev cX0_wholeOf : ByteArray := prog_2_method_32_code
def yX0_wholeOf : MethodName := ⟨RX0, "wholeOf", "(I)I"⟩
abbrev cX0_pendantsIn : ByteArray := prog_2_method_33_code
def yX0_pendantsIn : MethodName := ⟨RX0, "pendantsIn", "(I)I"⟩
abbrev cX0_pendantAt : ByteArray := prog_2_method_34_code
def yX0_pendantAt : MethodName := ⟨RX0, "pendantAt", "(II)I"⟩
abbrev cX0_moveBehind : ByteArray := prog_2_method_35_code
def yX0_moveBehind : MethodName := ⟨RX0, "moveBehind", "(II)V"⟩
abbrev cX0_topOf : ByteArray := prog_2_method_36_code
def yX0_topOf : MethodName := ⟨RX0, "topOf", "(I)I"⟩
abbrev cX0_sumOf : ByteArray := prog_2_method_37_code
def yX0_sumOf : MethodName := ⟨RX0, "sumOf", "(I)I"⟩
abbrev cX0_canBeCompared : ByteArray := prog_2_method_38_code
def yX0_canBeCompared : MethodName := ⟨RX0, "canBeCompared", "(I)Z"⟩
abbrev cX0_excessOf : ByteArray := prog_2_method_39_code
def yX0_excessOf : MethodName := ⟨RX0, "excessOf", "(I)I"⟩
abbrev cX0_tops : ByteArray := prog_2_method_40_code
def yX0_tops : MethodName := ⟨RX0, "tops", "()I"⟩
abbrev cX0_wellKnotted : ByteArray := prog_2_method_41_code
def yX0_wellKnotted : MethodName := ⟨RX0, "wellKnotted", "()I"⟩
abbrev cX0_allKnots : ByteArray := prog_2_method_42_code
def yX0_allKnots : MethodName := ⟨RX0, "allKnots", "()I"⟩
abbrev cX0_addGroup : ByteArray := prog_2_method_43_code
def yX0_addGroup : MethodName := ⟨RX0, "addGroup", "()V"⟩
abbrev cX0_addCord : ByteArray := prog_2_method_44_code
def yX0_addCord : MethodName := ⟨RX0, "addCord", "(IIIZ)V"⟩
abbrev cX0_addCluster : ByteArray := prog_2_method_45_code
def yX0_addCluster : MethodName := ⟨RX0, "addCluster", "(I)V"⟩
def RX1 : String := "ToldInKnots$Reader"
def TX1 : u_T := fun k => match k with
  | 0 => ("ToldInKnots$Reader", "draft", "LToldInKnots$Bundle;", true)
  | 1 => ("ToldInKnots$Reader", "latest", "[I", true)
  | 2 => ("ToldInKnots$Reader", "state", "I", false)
  | 3 => ("ToldInKnots$Reader", "depth", "I", false)
  | _ => ("ToldInKnots$Reader", "inTop", "Z", false)
def tyX1 : Nat → FieldType := fun k => match k with
  | 0 => .object "ToldInKnots$Bundle"
  | 1 => .array .int
  | 2 => .int
  | 3 => .int
  | _ => .boolean
abbrev wsX10 : List Cond := u_ws RX1 TX1 5
theorem nmX1 : ∀ a, a < 5 → ∀ b, b < 5 → a ≠ b → (TX1 a).2.1 ≠ (TX1 b).2.1 := by decide +kernel
theorem tyX1_ok : ∀ k, k < 5 → parseFieldDescriptor (TX1 k).2.2.1 = some (tyX1 k) := by decide +kernel
abbrev cX1_init : ByteArray := prog_3_method_1_code
def yX1_init : MethodName := ⟨RX1, "<init>", "()V"⟩
abbrev cX1_read : ByteArray := prog_3_method_2_code
def yX1_read : MethodName := ⟨RX1, "read", "([CI)I"⟩
abbrev cX1_takes : ByteArray := prog_3_method_3_code
def yX1_takes : MethodName := ⟨RX1, "takes", "(C)Z"⟩
abbrev cX1_opensGroup : ByteArray := prog_3_method_4_code
def yX1_opensGroup : MethodName := ⟨RX1, "opensGroup", "()Z"⟩
abbrev cX1_opensCord : ByteArray := prog_3_method_5_code
def yX1_opensCord : MethodName := ⟨RX1, "opensCord", "(C)Z"⟩
abbrev cX1_opensCluster : ByteArray := prog_3_method_6_code
def yX1_opensCluster : MethodName := ⟨RX1, "opensCluster", "(C)Z"⟩
abbrev cX1_endsCluster : ByteArray := prog_3_method_7_code
def yX1_endsCluster : MethodName := ⟨RX1, "endsCluster", "(II)Z"⟩
abbrev cX1_opensHanging : ByteArray := prog_3_method_8_code
def yX1_opensHanging : MethodName := ⟨RX1, "opensHanging", "(C)Z"⟩
abbrev cX1_comesBehindCord : ByteArray := prog_3_method_9_code
def yX1_comesBehindCord : MethodName := ⟨RX1, "comesBehindCord", "(C)Z"⟩
def RX2 : String := "ToldInKnots$Sets"
def TX2 : u_T := fun k => match k with
  | 0 => ("ToldInKnots$Sets", "member", "[I", true)
  | 1 => ("ToldInKnots$Sets", "value", "[I", true)
  | 2 => ("ToldInKnots$Sets", "highSums", "[I", true)
  | 3 => ("ToldInKnots$Sets", "keys", "[I", false)
  | 4 => ("ToldInKnots$Sets", "spare", "[I", false)
  | 5 => ("ToldInKnots$Sets", "members", "I", false)
  | 6 => ("ToldInKnots$Sets", "keyCount", "I", false)
  | 7 => ("ToldInKnots$Sets", "found", "I", false)
  | _ => ("ToldInKnots$Sets", "unlike", "I", false)
def tyX2 : Nat → FieldType := fun k => match k with
  | 0 => .array .int
  | 1 => .array .int
  | 2 => .array .int
  | 3 => .array .int
  | 4 => .array .int
  | 5 => .int
  | 6 => .int
  | 7 => .int
  | _ => .int
abbrev wsX20 : List Cond := u_ws RX2 TX2 9
theorem nmX2 : ∀ a, a < 9 → ∀ b, b < 9 → a ≠ b → (TX2 a).2.1 ≠ (TX2 b).2.1 := by decide +kernel
theorem tyX2_ok : ∀ k, k < 9 → parseFieldDescriptor (TX2 k).2.2.1 = some (tyX2 k) := by decide +kernel
abbrev cX2_init : ByteArray := prog_4_method_1_code
def yX2_init : MethodName := ⟨RX2, "<init>", "()V"⟩
abbrev cX2_clear : ByteArray := prog_4_method_2_code
def yX2_clear : MethodName := ⟨RX2, "clear", "()V"⟩
abbrev cX2_add : ByteArray := prog_4_method_3_code
def yX2_add : MethodName := ⟨RX2, "add", "(II)V"⟩
abbrev cX2_findEvenest : ByteArray := prog_4_method_4_code
def yX2_findEvenest : MethodName := ⟨RX2, "findEvenest", "()V"⟩
abbrev cX2_better : ByteArray := prog_4_method_5_code
def yX2_better : MethodName := ⟨RX2, "better", "(IIIII)I"⟩
abbrev cX2_findFewest : ByteArray := prog_4_method_6_code
def yX2_findFewest : MethodName := ⟨RX2, "findFewest", "(I)V"⟩
abbrev cX2_spreadLow : ByteArray := prog_4_method_7_code
def yX2_spreadLow : MethodName := ⟨RX2, "spreadLow", "(I)V"⟩
abbrev cX2_mergeWith : ByteArray := prog_4_method_8_code
def yX2_mergeWith : MethodName := ⟨RX2, "mergeWith", "(I)V"⟩
abbrev cX2_spreadHigh : ByteArray := prog_4_method_9_code
def yX2_spreadHigh : MethodName := ⟨RX2, "spreadHigh", "()I"⟩
abbrev cX2_firstFrom : ByteArray := prog_4_method_10_code
def yX2_firstFrom : MethodName := ⟨RX2, "firstFrom", "(I)I"⟩
abbrev cX2_sumAt : ByteArray := prog_4_method_11_code
def yX2_sumAt : MethodName := ⟨RX2, "sumAt", "(I)I"⟩
abbrev cX2_bitsAt : ByteArray := prog_4_method_12_code
def yX2_bitsAt : MethodName := ⟨RX2, "bitsAt", "(I)I"⟩
abbrev cX2_asCords : ByteArray := prog_4_method_13_code
def yX2_asCords : MethodName := ⟨RX2, "asCords", "(I)I"⟩
def RX3 : String := "ToldInKnots$Shelf"
def TX3 : u_T := fun k => match k with
  | 0 => ("ToldInKnots$Shelf", "places", "I", true)
  | 1 => ("ToldInKnots$Shelf", "slots", "[I", true)
  | _ => ("ToldInKnots$Shelf", "used", "I", false)
def tyX3 : Nat → FieldType := fun k => match k with
  | 0 => .int
  | 1 => .array .int
  | _ => .int
abbrev wsX30 : List Cond := u_ws RX3 TX3 3
theorem nmX3 : ∀ a, a < 3 → ∀ b, b < 3 → a ≠ b → (TX3 a).2.1 ≠ (TX3 b).2.1 := by decide +kernel
theorem tyX3_ok : ∀ k, k < 3 → parseFieldDescriptor (TX3 k).2.2.1 = some (tyX3 k) := by decide +kernel
abbrev cX3_init : ByteArray := prog_5_method_1_code
def yX3_init : MethodName := ⟨RX3, "<init>", "(I)V"⟩
abbrev cX3_clear : ByteArray := prog_5_method_2_code
def yX3_clear : MethodName := ⟨RX3, "clear", "()V"⟩
abbrev cX3_add : ByteArray := prog_5_method_3_code
def yX3_add : MethodName := ⟨RX3, "add", "([I)V"⟩
abbrev cX3_takeInto : ByteArray := prog_5_method_4_code
def yX3_takeInto : MethodName := ⟨RX3, "takeInto", "([I)V"⟩
def RX4 : String := "ToldInKnots"
def TX4 : u_T := fun k => match k with
  | 0 => ("ToldInKnots", "letters", "[C", true)
  | 1 => ("ToldInKnots", "length", "I", false)
  | 2 => ("ToldInKnots", "reader", "LToldInKnots$Reader;", true)
  | 3 => ("ToldInKnots", "bundle", "LToldInKnots$Bundle;", true)
  | 4 => ("ToldInKnots", "undone", "LToldInKnots$Shelf;", true)
  | 5 => ("ToldInKnots", "kept", "LToldInKnots$Shelf;", true)
  | 6 => ("ToldInKnots", "sets", "LToldInKnots$Sets;", true)
  | 7 => ("ToldInKnots", "up", "[I", true)
  | 8 => ("ToldInKnots", "down", "[I", true)
  | 9 => ("ToldInKnots", "lined", "[I", true)
  | _ => ("ToldInKnots", "runs", "[I", true)
def tyX4 : Nat → FieldType := fun k => match k with
  | 0 => .array .char
  | 1 => .int
  | 2 => .object "ToldInKnots$Reader"
  | 3 => .object "ToldInKnots$Bundle"
  | 4 => .object "ToldInKnots$Shelf"
  | 5 => .object "ToldInKnots$Shelf"
  | 6 => .object "ToldInKnots$Sets"
  | 7 => .array .int
  | 8 => .array .int
  | 9 => .array .int
  | _ => .array .int
abbrev wsX40 : List Cond := u_ws RX4 TX4 11
theorem nmX4 : ∀ a, a < 11 → ∀ b, b < 11 → a ≠ b → (TX4 a).2.1 ≠ (TX4 b).2.1 := by decide +kernel
theorem tyX4_ok : ∀ k, k < 11 → parseFieldDescriptor (TX4 k).2.2.1 = some (tyX4 k) := by decide +kernel
abbrev cX4_init : ByteArray := prog_1_method_1_code
def yX4_init : MethodName := ⟨RX4, "<init>", "()V"⟩
abbrev cX4_write : ByteArray := prog_1_method_2_code
def yX4_write : MethodName := ⟨RX4, "write", "(I)I"⟩
abbrev cX4_wipe : ByteArray := prog_1_method_3_code
def yX4_wipe : MethodName := ⟨RX4, "wipe", "()I"⟩
abbrev cX4_fault : ByteArray := prog_1_method_4_code
def yX4_fault : MethodName := ⟨RX4, "fault", "()I"⟩
abbrev cX4_lay : ByteArray := prog_1_method_5_code
def yX4_lay : MethodName := ⟨RX4, "lay", "()I"⟩
abbrev cX4_cord : ByteArray := prog_1_method_6_code
def yX4_cord : MethodName := ⟨RX4, "cord", "(II)I"⟩
abbrev cX4_cluster : ByteArray := prog_1_method_7_code
def yX4_cluster : MethodName := ⟨RX4, "cluster", "(II)I"⟩
abbrev cX4_group : ByteArray := prog_1_method_8_code
def yX4_group : MethodName := ⟨RX4, "group", "(II)I"⟩
abbrev cX4_pendant : ByteArray := prog_1_method_9_code
def yX4_pendant : MethodName := ⟨RX4, "pendant", "(II)I"⟩
abbrev cX4_tie : ByteArray := prog_1_method_10_code
def yX4_tie : MethodName := ⟨RX4, "tie", "(II)I"⟩
abbrev cX4_more : ByteArray := prog_1_method_11_code
def yX4_more : MethodName := ⟨RX4, "more", "(II)I"⟩
abbrev cX4_knot : ByteArray := prog_1_method_12_code
def yX4_knot : MethodName := ⟨RX4, "knot", "(IIII)I"⟩
abbrev cX4_dye : ByteArray := prog_1_method_13_code
def yX4_dye : MethodName := ⟨RX4, "dye", "(II)I"⟩
abbrev cX4_hang : ByteArray := prog_1_method_14_code
def yX4_hang : MethodName := ⟨RX4, "hang", "(II)I"⟩
abbrev cX4_undo : ByteArray := prog_1_method_15_code
def yX4_undo : MethodName := ⟨RX4, "undo", "()I"⟩
abbrev cX4_wrong : ByteArray := prog_1_method_16_code
def yX4_wrong : MethodName := ⟨RX4, "wrong", "(I)I"⟩
abbrev cX4_mend : ByteArray := prog_1_method_17_code
def yX4_mend : MethodName := ⟨RX4, "mend", "(I)I"⟩
abbrev cX4_slip : ByteArray := prog_1_method_18_code
def yX4_slip : MethodName := ⟨RX4, "slip", "(II)I"⟩
abbrev cX4_lost : ByteArray := prog_1_method_19_code
def yX4_lost : MethodName := ⟨RX4, "lost", "(I)I"⟩
abbrev cX4_closed : ByteArray := prog_1_method_20_code
def yX4_closed : MethodName := ⟨RX4, "closed", "(III)I"⟩
abbrev cX4_order : ByteArray := prog_1_method_21_code
def yX4_order : MethodName := ⟨RX4, "order", "(I)I"⟩
abbrev cX4_share : ByteArray := prog_1_method_22_code
def yX4_share : MethodName := ⟨RX4, "share", "(II)I"⟩
abbrev cX4_make : ByteArray := prog_1_method_23_code
def yX4_make : MethodName := ⟨RX4, "make", "(I)I"⟩
abbrev cX4_colours : ByteArray := prog_1_method_24_code
def yX4_colours : MethodName := ⟨RX4, "colours", "(II)I"⟩
abbrev cX4_path : ByteArray := prog_1_method_25_code
def yX4_path : MethodName := ⟨RX4, "path", "(II)I"⟩
abbrev cX4_same : ByteArray := prog_1_method_26_code
def yX4_same : MethodName := ⟨RX4, "same", "(II)I"⟩
abbrev cX4_year : ByteArray := prog_1_method_27_code
def yX4_year : MethodName := ⟨RX4, "year", "(II)I"⟩
abbrev cX4_keep : ByteArray := prog_1_method_28_code
def yX4_keep : MethodName := ⟨RX4, "keep", "()I"⟩
abbrev cX4_back : ByteArray := prog_1_method_29_code
def yX4_back : MethodName := ⟨RX4, "back", "()I"⟩
abbrev cX4_count : ByteArray := prog_1_method_30_code
def yX4_count : MethodName := ⟨RX4, "count", "(I)I"⟩
abbrev cX4_measureRoom : ByteArray := prog_1_method_31_code
def yX4_measureRoom : MethodName := ⟨RX4, "measureRoom", "(I)V"⟩
abbrev cX4_leastMoves : ByteArray := prog_1_method_32_code
def yX4_leastMoves : MethodName := ⟨RX4, "leastMoves", "([I[III)I"⟩
abbrev cX4_slipAt : ByteArray := prog_1_method_33_code
def yX4_slipAt : MethodName := ⟨RX4, "slipAt", "(III)I"⟩
abbrev cX4_drawn : ByteArray := prog_1_method_34_code
def yX4_drawn : MethodName := ⟨RX4, "drawn", "(II)I"⟩
abbrev cX4_choices : ByteArray := prog_1_method_35_code
def yX4_choices : MethodName := ⟨RX4, "choices", "(II)I"⟩
abbrev cX4_isColour : ByteArray := prog_1_method_36_code
def yX4_isColour : MethodName := ⟨RX4, "isColour", "(I)Z"⟩
abbrev cX4_canCount : ByteArray := prog_1_method_37_code
def yX4_canCount : MethodName := ⟨RX4, "canCount", "(II)Z"⟩
abbrev cX4_kindOf : ByteArray := prog_1_method_38_code
def yX4_kindOf : MethodName := ⟨RX4, "kindOf", "(I)I"⟩
abbrev cX4_countOf : ByteArray := prog_1_method_39_code
def yX4_countOf : MethodName := ⟨RX4, "countOf", "(I)I"⟩
abbrev cX4_knotsIn : ByteArray := prog_1_method_40_code
def yX4_knotsIn : MethodName := ⟨RX4, "knotsIn", "(I)I"⟩
abbrev cX4_codeToTell : ByteArray := prog_1_method_41_code
def yX4_codeToTell : MethodName := ⟨RX4, "codeToTell", "(II)I"⟩
abbrev cX4_isWellPlaced : ByteArray := prog_1_method_42_code
def yX4_isWellPlaced : MethodName := ⟨RX4, "isWellPlaced", "(II)Z"⟩
abbrev cX4_tens : ByteArray := prog_1_method_43_code
def yX4_tens : MethodName := ⟨RX4, "tens", "(I)I"⟩
abbrev cX4_at : ByteArray := prog_1_method_44_code
def yX4_at : MethodName := ⟨RX4, "at", "([II)I"⟩
abbrev cX4_put : ByteArray := prog_1_method_45_code
def yX4_put : MethodName := ⟨RX4, "put", "([III)V"⟩
abbrev cX4_copyRow : ByteArray := prog_1_method_46_code
def yX4_copyRow : MethodName := ⟨RX4, "copyRow", "([II[II)V"⟩
def RX5 : String := "ToldInKnotsModel"
def TX5 : u_T := fun k => match k with
  | 0 => ("ToldInKnotsModel", "now", "[I", true)
  | 1 => ("ToldInKnotsModel", "past", "[I", true)
  | 2 => ("ToldInKnotsModel", "undos", "I", false)
  | 3 => ("ToldInKnotsModel", "kept", "[I", true)
  | 4 => ("ToldInKnotsModel", "keptMany", "I", false)
  | 5 => ("ToldInKnotsModel", "text", "[I", true)
  | 6 => ("ToldInKnotsModel", "size", "I", false)
  | 7 => ("ToldInKnotsModel", "read", "[I", true)
  | 8 => ("ToldInKnotsModel", "state", "I", false)
  | 9 => ("ToldInKnotsModel", "depth", "I", false)
  | 10 => ("ToldInKnotsModel", "isTop", "Z", false)
  | 11 => ("ToldInKnotsModel", "over", "[I", true)
  | 12 => ("ToldInKnotsModel", "up", "[I", true)
  | 13 => ("ToldInKnotsModel", "down", "[I", true)
  | 14 => ("ToldInKnotsModel", "knotted", "[I", true)
  | 15 => ("ToldInKnotsModel", "row", "[I", true)
  | _ => ("ToldInKnotsModel", "longest", "[I", true)
def tyX5 : Nat → FieldType := fun k => match k with
  | 0 => .array .int
  | 1 => .array .int
  | 2 => .int
  | 3 => .array .int
  | 4 => .int
  | 5 => .array .int
  | 6 => .int
  | 7 => .array .int
  | 8 => .int
  | 9 => .int
  | 10 => .boolean
  | 11 => .array .int
  | 12 => .array .int
  | 13 => .array .int
  | 14 => .array .int
  | 15 => .array .int
  | _ => .array .int
abbrev wsX50 : List Cond := u_ws RX5 TX5 17
theorem nmX5 : ∀ a, a < 17 → ∀ b, b < 17 → a ≠ b → (TX5 a).2.1 ≠ (TX5 b).2.1 := by decide +kernel
theorem tyX5_ok : ∀ k, k < 17 → parseFieldDescriptor (TX5 k).2.2.1 = some (tyX5 k) := by decide +kernel
abbrev cX5_init : ByteArray := prog_7_method_1_code
def yX5_init : MethodName := ⟨RX5, "<init>", "()V"⟩
abbrev cX5_first : ByteArray := prog_7_method_3_code
def yX5_first : MethodName := ⟨RX5, "first", "(IIIIII)V"⟩
abbrev cX5_knots : ByteArray := prog_7_method_4_code
def yX5_knots : MethodName := ⟨RX5, "knots", "(IIIII)V"⟩
abbrev cX5_in : ByteArray := prog_7_method_5_code
def yX5_in : MethodName := ⟨RX5, "in", "(JJJ)Z"⟩
abbrev cX5_isTwo : ByteArray := prog_7_method_6_code
def yX5_isTwo : MethodName := ⟨RX5, "isTwo", "(I)Z"⟩
abbrev cX5_write : ByteArray := prog_7_method_7_code
def yX5_write : MethodName := ⟨RX5, "write", "(I)I"⟩
abbrev cX5_wipe : ByteArray := prog_7_method_8_code
def yX5_wipe : MethodName := ⟨RX5, "wipe", "()I"⟩
abbrev cX5_newest : ByteArray := prog_7_method_9_code
def yX5_newest : MethodName := ⟨RX5, "newest", "()I"⟩
abbrev cX5_hasRoom : ByteArray := prog_7_method_10_code
def yX5_hasRoom : MethodName := ⟨RX5, "hasRoom", "()Z"⟩
abbrev cX5_goesTo : ByteArray := prog_7_method_11_code
def yX5_goesTo : MethodName := ⟨RX5, "goesTo", "(I)Z"⟩
abbrev cX5_takesColour : ByteArray := prog_7_method_12_code
def yX5_takesColour : MethodName := ⟨RX5, "takesColour", "(I)Z"⟩
abbrev cX5_takesCluster : ByteArray := prog_7_method_13_code
def yX5_takesCluster : MethodName := ⟨RX5, "takesCluster", "(I)Z"⟩
abbrev cX5_takesKnots : ByteArray := prog_7_method_14_code
def yX5_takesKnots : MethodName := ⟨RX5, "takesKnots", "(I)Z"⟩
abbrev cX5_takesBehind : ByteArray := prog_7_method_15_code
def yX5_takesBehind : MethodName := ⟨RX5, "takesBehind", "(I)Z"⟩
abbrev cX5_takesGroup : ByteArray := prog_7_method_16_code
def yX5_takesGroup : MethodName := ⟨RX5, "takesGroup", "(I)Z"⟩
abbrev cX5_takes : ByteArray := prog_7_method_17_code
def yX5_takes : MethodName := ⟨RX5, "takes", "(I)Z"⟩
abbrev cX5_fault : ByteArray := prog_7_method_18_code
def yX5_fault : MethodName := ⟨RX5, "fault", "()I"⟩
abbrev cX5_copies : ByteArray := prog_7_method_19_code
def yX5_copies : MethodName := ⟨RX5, "copies", "([II[II)V"⟩
abbrev cX5_begins : ByteArray := prog_7_method_20_code
def yX5_begins : MethodName := ⟨RX5, "begins", "()V"⟩
abbrev cX5_lay : ByteArray := prog_7_method_21_code
def yX5_lay : MethodName := ⟨RX5, "lay", "()I"⟩
abbrev cX5_isCord : ByteArray := prog_7_method_22_code
def yX5_isCord : MethodName := ⟨RX5, "isCord", "(I)Z"⟩
abbrev cX5_isGroup : ByteArray := prog_7_method_23_code
def yX5_isGroup : MethodName := ⟨RX5, "isGroup", "(I)Z"⟩
abbrev cX5_isPendant : ByteArray := prog_7_method_24_code
def yX5_isPendant : MethodName := ⟨RX5, "isPendant", "(I)Z"⟩
abbrev cX5_isPlain : ByteArray := prog_7_method_25_code
def yX5_isPlain : MethodName := ⟨RX5, "isPlain", "(I)Z"⟩
abbrev cX5_knot0 : ByteArray := prog_7_method_26_code
def yX5_knot0 : MethodName := ⟨RX5, "knot0", "(II)I"⟩
abbrev cX5_told : ByteArray := prog_7_method_27_code
def yX5_told : MethodName := ⟨RX5, "told", "(IZ)I"⟩
abbrev cX5_value : ByteArray := prog_7_method_28_code
def yX5_value : MethodName := ⟨RX5, "value", "(I)I"⟩
abbrev cX5_isUnder : ByteArray := prog_7_method_29_code
def yX5_isUnder : MethodName := ⟨RX5, "isUnder", "(II)Z"⟩
abbrev cX5_beneath : ByteArray := prog_7_method_30_code
def yX5_beneath : MethodName := ⟨RX5, "beneath", "(I)I"⟩
abbrev cX5_whole : ByteArray := prog_7_method_31_code
def yX5_whole : MethodName := ⟨RX5, "whole", "(I)I"⟩
abbrev cX5_knotsOf : ByteArray := prog_7_method_32_code
def yX5_knotsOf : MethodName := ⟨RX5, "knotsOf", "(I)I"⟩
abbrev cX5_knots_ : ByteArray := prog_7_method_33_code
def yX5_knots_ : MethodName := ⟨RX5, "knots", "(I)I"⟩
abbrev cX5_hanging : ByteArray := prog_7_method_34_code
def yX5_hanging : MethodName := ⟨RX5, "hanging", "(I)I"⟩
abbrev cX5_depthOf : ByteArray := prog_7_method_35_code
def yX5_depthOf : MethodName := ⟨RX5, "depthOf", "(I)I"⟩
abbrev cX5_cord : ByteArray := prog_7_method_36_code
def yX5_cord : MethodName := ⟨RX5, "cord", "(II)I"⟩
abbrev cX5_cluster : ByteArray := prog_7_method_37_code
def yX5_cluster : MethodName := ⟨RX5, "cluster", "(II)I"⟩
abbrev cX5_topOf : ByteArray := prog_7_method_38_code
def yX5_topOf : MethodName := ⟨RX5, "topOf", "(I)I"⟩
abbrev cX5_isOf : ByteArray := prog_7_method_39_code
def yX5_isOf : MethodName := ⟨RX5, "isOf", "(II)Z"⟩
abbrev cX5_manyOf : ByteArray := prog_7_method_40_code
def yX5_manyOf : MethodName := ⟨RX5, "manyOf", "(I)I"⟩
abbrev cX5_sumOf : ByteArray := prog_7_method_41_code
def yX5_sumOf : MethodName := ⟨RX5, "sumOf", "(I)I"⟩
abbrev cX5_wrongBy : ByteArray := prog_7_method_42_code
def yX5_wrongBy : MethodName := ⟨RX5, "wrongBy", "(I)I"⟩
abbrev cX5_group : ByteArray := prog_7_method_43_code
def yX5_group : MethodName := ⟨RX5, "group", "(II)I"⟩
abbrev cX5_pendantAt : ByteArray := prog_7_method_44_code
def yX5_pendantAt : MethodName := ⟨RX5, "pendantAt", "(II)I"⟩
abbrev cX5_pendant : ByteArray := prog_7_method_45_code
def yX5_pendant : MethodName := ⟨RX5, "pendant", "(II)I"⟩
abbrev cX5_remember : ByteArray := prog_7_method_46_code
def yX5_remember : MethodName := ⟨RX5, "remember", "()V"⟩
abbrev cX5_power : ByteArray := prog_7_method_47_code
def yX5_power : MethodName := ⟨RX5, "power", "(I)I"⟩
abbrev cX5_clusterFor : ByteArray := prog_7_method_48_code
def yX5_clusterFor : MethodName := ⟨RX5, "clusterFor", "(II)I"⟩
abbrev cX5_workFor : ByteArray := prog_7_method_49_code
def yX5_workFor : MethodName := ⟨RX5, "workFor", "(II)I"⟩
abbrev cX5_ties : ByteArray := prog_7_method_50_code
def yX5_ties : MethodName := ⟨RX5, "ties", "(II)V"⟩
abbrev cX5_tie : ByteArray := prog_7_method_51_code
def yX5_tie : MethodName := ⟨RX5, "tie", "(II)I"⟩
abbrev cX5_more : ByteArray := prog_7_method_52_code
def yX5_more : MethodName := ⟨RX5, "more", "(II)I"⟩
abbrev cX5_isKnot : ByteArray := prog_7_method_53_code
def yX5_isKnot : MethodName := ⟨RX5, "isKnot", "(II)Z"⟩
abbrev cX5_knot : ByteArray := prog_7_method_54_code
def yX5_knot : MethodName := ⟨RX5, "knot", "(IIII)I"⟩
abbrev cX5_dye : ByteArray := prog_7_method_55_code
def yX5_dye : MethodName := ⟨RX5, "dye", "(II)I"⟩
abbrev cX5_hang : ByteArray := prog_7_method_56_code
def yX5_hang : MethodName := ⟨RX5, "hang", "(II)I"⟩
abbrev cX5_undo : ByteArray := prog_7_method_57_code
def yX5_undo : MethodName := ⟨RX5, "undo", "()I"⟩
abbrev cX5_wrong : ByteArray := prog_7_method_58_code
def yX5_wrong : MethodName := ⟨RX5, "wrong", "(I)I"⟩
abbrev cX5_layRoom : ByteArray := prog_7_method_59_code
def yX5_layRoom : MethodName := ⟨RX5, "layRoom", "(I)V"⟩
abbrev cX5_plain : ByteArray := prog_7_method_60_code
def yX5_plain : MethodName := ⟨RX5, "plain", "(I)I"⟩
abbrev cX5_mend : ByteArray := prog_7_method_61_code
def yX5_mend : MethodName := ⟨RX5, "mend", "(I)I"⟩
abbrev cX5_slip : ByteArray := prog_7_method_62_code
def yX5_slip : MethodName := ⟨RX5, "slip", "(II)I"⟩
abbrev cX5_lost : ByteArray := prog_7_method_63_code
def yX5_lost : MethodName := ⟨RX5, "lost", "(I)I"⟩
abbrev cX5_closed : ByteArray := prog_7_method_64_code
def yX5_closed : MethodName := ⟨RX5, "closed", "(III)I"⟩
abbrev cX5_order : ByteArray := prog_7_method_65_code
def yX5_order : MethodName := ⟨RX5, "order", "(I)I"⟩
abbrev cX5_bits : ByteArray := prog_7_method_66_code
def yX5_bits : MethodName := ⟨RX5, "bits", "(I)I"⟩
abbrev cX5_tellOf : ByteArray := prog_7_method_67_code
def yX5_tellOf : MethodName := ⟨RX5, "tellOf", "(I)I"⟩
abbrev cX5_layValues : ByteArray := prog_7_method_68_code
def yX5_layValues : MethodName := ⟨RX5, "layValues", "()V"⟩
abbrev cX5_share : ByteArray := prog_7_method_69_code
def yX5_share : MethodName := ⟨RX5, "share", "(II)I"⟩
abbrev cX5_make : ByteArray := prog_7_method_70_code
def yX5_make : MethodName := ⟨RX5, "make", "(I)I"⟩
abbrev cX5_colours : ByteArray := prog_7_method_71_code
def yX5_colours : MethodName := ⟨RX5, "colours", "(II)I"⟩
abbrev cX5_path : ByteArray := prog_7_method_72_code
def yX5_path : MethodName := ⟨RX5, "path", "(II)I"⟩
abbrev cX5_hangingAt : ByteArray := prog_7_method_73_code
def yX5_hangingAt : MethodName := ⟨RX5, "hangingAt", "(II)I"⟩
abbrev cX5_areAlike : ByteArray := prog_7_method_74_code
def yX5_areAlike : MethodName := ⟨RX5, "areAlike", "(II)Z"⟩
abbrev cX5_areAlikeBelow : ByteArray := prog_7_method_75_code
def yX5_areAlikeBelow : MethodName := ⟨RX5, "areAlikeBelow", "(II)Z"⟩
abbrev cX5_same : ByteArray := prog_7_method_76_code
def yX5_same : MethodName := ⟨RX5, "same", "(II)I"⟩
abbrev cX5_year : ByteArray := prog_7_method_77_code
def yX5_year : MethodName := ⟨RX5, "year", "(II)I"⟩
abbrev cX5_keep : ByteArray := prog_7_method_78_code
def yX5_keep : MethodName := ⟨RX5, "keep", "()I"⟩
abbrev cX5_back : ByteArray := prog_7_method_79_code
def yX5_back : MethodName := ⟨RX5, "back", "()I"⟩
abbrev cX5_count : ByteArray := prog_7_method_80_code
def yX5_count : MethodName := ⟨RX5, "count", "(I)I"⟩
def RJ6 : String := "java/lang/Integer"
def TJ6 : u_T := fun k => match k with
  | _ => ("", "", "", false)
def tyJ6 : Nat → FieldType := fun k => match k with
  | _ => .int
abbrev wsJ60 : List Cond := u_ws RJ6 TJ6 0
theorem nmJ6 : ∀ a, a < 0 → ∀ b, b < 0 → a ≠ b → (TJ6 a).2.1 ≠ (TJ6 b).2.1 := by decide +kernel
theorem tyJ6_ok : ∀ k, k < 0 → parseFieldDescriptor (TJ6 k).2.2.1 = some (tyJ6 k) := by decide +kernel
abbrev cJ6_bitCount_0f7a4 : ByteArray := prog_8_method_49_code
def yJ6_bitCount_0f7a4 : MethodName := ⟨RJ6, "bitCount", "(I)I"⟩
def RJ9 : String := "java/lang/Math"
def TJ9 : u_T := fun k => match k with
  | _ => ("", "", "", false)
def tyJ9 : Nat → FieldType := fun k => match k with
  | _ => .int
abbrev wsJ90 : List Cond := u_ws RJ9 TJ9 0
theorem nmJ9 : ∀ a, a < 0 → ∀ b, b < 0 → a ≠ b → (TJ9 a).2.1 ≠ (TJ9 b).2.1 := by decide +kernel
theorem tyJ9_ok : ∀ k, k < 0 → parseFieldDescriptor (TJ9 k).2.2.1 = some (tyJ9 k) := by decide +kernel
abbrev cJ9_floorMod_7cf53 : ByteArray := prog_9_method_50_code
def yJ9_floorMod_7cf53 : MethodName := ⟨RJ9, "floorMod", "(II)I"⟩
abbrev cJ9_abs_0f7a4 : ByteArray := prog_9_method_59_code
def yJ9_abs_0f7a4 : MethodName := ⟨RJ9, "abs", "(I)I"⟩
abbrev cJ9_max_7cf53 : ByteArray := prog_9_method_65_code
def yJ9_max_7cf53 : MethodName := ⟨RJ9, "max", "(II)I"⟩
abbrev cJ9_min_7cf53 : ByteArray := prog_9_method_69_code
def yJ9_min_7cf53 : MethodName := ⟨RJ9, "min", "(II)I"⟩
def RJ0 : String := "java/lang/String"
def TJ0 : u_T := fun k => match k with
  | _ => ("", "", "", false)
def tyJ0 : Nat → FieldType := fun k => match k with
  | _ => .int
abbrev wsJ00 : List Cond := u_ws RJ0 TJ0 0
theorem nmJ0 : ∀ a, a < 0 → ∀ b, b < 0 → a ≠ b → (TJ0 a).2.1 ≠ (TJ0 b).2.1 := by decide +kernel
theorem tyJ0_ok : ∀ k, k < 0 → parseFieldDescriptor (TJ0 k).2.2.1 = some (tyJ0 k) := by decide +kernel
abbrev cJ0_length_8abf5 : ByteArray := prog_10_method_54_code
def yJ0_length_8abf5 : MethodName := ⟨RJ0, "length", "()I"⟩
abbrev cJ0_toCharArray_70df3 : ByteArray := prog_10_method_129_code
def yJ0_toCharArray_70df3 : MethodName := ⟨RJ0, "toCharArray", "()[C"⟩
abbrev cJ0_coder_7d493 : ByteArray := prog_10_method_152_code
def yJ0_coder_7d493 : MethodName := ⟨RJ0, "coder", "()B"⟩
abbrev cJ0_isLatin1_aae02 : ByteArray := prog_10_method_154_code
def yJ0_isLatin1_aae02 : MethodName := ⟨RJ0, "isLatin1", "()Z"⟩
abbrev cJ0_checkBoundsOffCount_cabcc : ByteArray := prog_10_method_157_code
def yJ0_checkBoundsOffCount_cabcc : MethodName := ⟨RJ0, "checkBoundsOffCount", "(III)I"⟩
def RJ1 : String := "java/lang/StringLatin1"
def TJ1 : u_T := fun k => match k with
  | _ => ("", "", "", false)
def tyJ1 : Nat → FieldType := fun k => match k with
  | _ => .int
abbrev wsJ10 : List Cond := u_ws RJ1 TJ1 0
theorem nmJ1 : ∀ a, a < 0 → ∀ b, b < 0 → a ≠ b → (TJ1 a).2.1 ≠ (TJ1 b).2.1 := by decide +kernel
theorem tyJ1_ok : ∀ k, k < 0 → parseFieldDescriptor (TJ1 k).2.2.1 = some (tyJ1 k) := by decide +kernel
abbrev cJ1_toChars_9d188 : ByteArray := prog_11_method_9_code
def yJ1_toChars_9d188 : MethodName := ⟨RJ1, "toChars", "([B)[C"⟩
abbrev cJ1_inflate_03870 : ByteArray := prog_11_method_49_code
def yJ1_inflate_03870 : MethodName := ⟨RJ1, "inflate", "([BI[CII)V"⟩
def RJ2 : String := "java/lang/StringUTF16"
def TJ2 : u_T := fun k => match k with
  | _ => ("", "", "", false)
def tyJ2 : Nat → FieldType := fun k => match k with
  | _ => .int
abbrev wsJ20 : List Cond := u_ws RJ2 TJ2 0
theorem nmJ2 : ∀ a, a < 0 → ∀ b, b < 0 → a ≠ b → (TJ2 a).2.1 ≠ (TJ2 b).2.1 := by decide +kernel
theorem tyJ2_ok : ∀ k, k < 0 → parseFieldDescriptor (TJ2 k).2.2.1 = some (tyJ2 k) := by decide +kernel
abbrev cJ2_getChar_3b067 : ByteArray := prog_12_method_5_code
def yJ2_getChar_3b067 : MethodName := ⟨RJ2, "getChar", "([BI)C"⟩
abbrev cJ2_length_9d52b : ByteArray := prog_12_method_6_code
def yJ2_length_9d52b : MethodName := ⟨RJ2, "length", "([B)I"⟩
abbrev cJ2_toChars_9d188 : ByteArray := prog_12_method_13_code
def yJ2_toChars_9d188 : MethodName := ⟨RJ2, "toChars", "([B)[C"⟩
abbrev cJ2_getChars_a1a8b : ByteArray := prog_12_method_26_code
def yJ2_getChars_a1a8b : MethodName := ⟨RJ2, "getChars", "([BII[CI)V"⟩
abbrev cJ2_checkBoundsOffCount_d044e : ByteArray := prog_12_method_94_code
def yJ2_checkBoundsOffCount_d044e : MethodName := ⟨RJ2, "checkBoundsOffCount", "(II[B)V"⟩
def RJ10 : String := "java/lang/System"
def TJ10 : u_T := fun k => match k with
  | _ => ("", "", "", false)
def tyJ10 : Nat → FieldType := fun k => match k with
  | _ => .int
abbrev wsJ100 : List Cond := u_ws RJ10 TJ10 0
theorem nmJ10 : ∀ a, a < 0 → ∀ b, b < 0 → a ≠ b → (TJ10 a).2.1 ≠ (TJ10 b).2.1 := by decide +kernel
theorem tyJ10_ok : ∀ k, k < 0 → parseFieldDescriptor (TJ10 k).2.2.1 = some (tyJ10 k) := by decide +kernel
def RJ7 : String := "java/util/Arrays"
def TJ7 : u_T := fun k => match k with
  | _ => ("", "", "", false)
def tyJ7 : Nat → FieldType := fun k => match k with
  | _ => .int
abbrev wsJ70 : List Cond := u_ws RJ7 TJ7 0
theorem nmJ7 : ∀ a, a < 0 → ∀ b, b < 0 → a ≠ b → (TJ7 a).2.1 ≠ (TJ7 b).2.1 := by decide +kernel
theorem tyJ7_ok : ∀ k, k < 0 → parseFieldDescriptor (TJ7 k).2.2.1 = some (tyJ7 k) := by decide +kernel
abbrev cJ7_fill_53178 : ByteArray := prog_14_method_103_code
def yJ7_fill_53178 : MethodName := ⟨RJ7, "fill", "([II)V"⟩
def RJ3 : String := "jdk/internal/util/Preconditions"
def TJ3 : u_T := fun k => match k with
  | _ => ("", "", "", false)
def tyJ3 : Nat → FieldType := fun k => match k with
  | _ => .int
abbrev wsJ30 : List Cond := u_ws RJ3 TJ3 0
theorem nmJ3 : ∀ a, a < 0 → ∀ b, b < 0 → a ≠ b → (TJ3 a).2.1 ≠ (TJ3 b).2.1 := by decide +kernel
theorem tyJ3_ok : ∀ k, k < 0 → parseFieldDescriptor (TJ3 k).2.2.1 = some (tyJ3 k) := by decide +kernel
abbrev cJ3_checkFromIndexSize_8c36e : ByteArray := prog_15_method_13_code
def yJ3_checkFromIndexSize_8c36e : MethodName := ⟨RJ3, "checkFromIndexSize", "(IIILjava/util/function/BiFunction;)I"⟩
def RL : String := "ToldInKnotsLaw"
abbrev cL_law : ByteArray := code
def yL_law : MethodName := ⟨RL, "law", "([I)Z"⟩
abbrev vwCl : List vw_C := [(RX0, TX0, 1), (RX1, TX1, 5), (RX2, TX2, 9), (RX3, TX3, 3), (RX4, TX4, 11), (RX5, TX5, 17)]
end
section
theorem dX0_init_0 : decode cX0_init 0 = .ok (.aload_n 0, 1) := by decide +kernel
theorem dX0_init_1 : decode cX0_init 1 = .ok (.invokespecial 5, 3) := by decide +kernel
theorem dX0_init_4 : decode cX0_init 4 = .ok (.aload_n 0, 1) := by decide +kernel
theorem dX0_init_5 : decode cX0_init 5 = .ok (.sipush 179, 3) := by decide +kernel
theorem dX0_init_8 : decode cX0_init 8 = .ok (.newarray .int, 2) := by decide +kernel
theorem dX0_init_10 : decode cX0_init 10 = .ok (.putfield 11, 3) := by decide +kernel
theorem dX0_init_13 : decode cX0_init 13 = .ok (.return_, 1) := by decide +kernel
theorem dX0_becomeAs_0 : decode cX0_becomeAs 0 = .ok (.aload_n 1, 1) := by decide +kernel
theorem dX0_becomeAs_1 : decode cX0_becomeAs 1 = .ok (.iconst 0, 1) := by decide +kernel
theorem dX0_becomeAs_2 : decode cX0_becomeAs 2 = .ok (.aload_n 0, 1) := by decide +kernel
theorem dX0_becomeAs_3 : decode cX0_becomeAs 3 = .ok (.getfield 11, 3) := by decide +kernel
theorem dX0_becomeAs_6 : decode cX0_becomeAs 6 = .ok (.iconst 0, 1) := by decide +kernel
theorem dX0_becomeAs_7 : decode cX0_becomeAs 7 = .ok (.invokestatic 15, 3) := by decide +kernel
theorem dX0_becomeAs_10 : decode cX0_becomeAs 10 = .ok (.return_, 1) := by decide +kernel
theorem dX0_clear_0 : decode cX0_clear 0 = .ok (.aload_n 0, 1) := by decide +kernel
theorem dX0_clear_1 : decode cX0_clear 1 = .ok (.getfield 11, 3) := by decide +kernel
theorem dX0_clear_4 : decode cX0_clear 4 = .ok (.iconst 0, 1) := by decide +kernel
theorem dX0_clear_5 : decode cX0_clear 5 = .ok (.invokestatic 19, 3) := by decide +kernel
theorem dX0_clear_8 : decode cX0_clear 8 = .ok (.return_, 1) := by decide +kernel
theorem dX0_cords_0 : decode cX0_cords 0 = .ok (.aload_n 0, 1) := by decide +kernel
theorem dX0_cords_1 : decode cX0_cords 1 = .ok (.getfield 11, 3) := by decide +kernel
theorem dX0_cords_4 : decode cX0_cords 4 = .ok (.sipush 176, 3) := by decide +kernel
theorem dX0_cords_7 : decode cX0_cords 7 = .ok (.invokestatic 25, 3) := by decide +kernel
theorem dX0_cords_10 : decode cX0_cords 10 = .ok (.ireturn, 1) := by decide +kernel
theorem dX0_groups_0 : decode cX0_groups 0 = .ok (.aload_n 0, 1) := by decide +kernel
theorem dX0_groups_1 : decode cX0_groups 1 = .ok (.getfield 11, 3) := by decide +kernel
theorem dX0_groups_4 : decode cX0_groups 4 = .ok (.sipush 177, 3) := by decide +kernel
theorem dX0_groups_7 : decode cX0_groups 7 = .ok (.invokestatic 25, 3) := by decide +kernel
theorem dX0_groups_10 : decode cX0_groups 10 = .ok (.ireturn, 1) := by decide +kernel
theorem dX0_hasCord_0 : decode cX0_hasCord 0 = .ok (.iload_n 1, 1) := by decide +kernel
theorem dX0_hasCord_1 : decode cX0_hasCord 1 = .ok (.ifCond .lt 15, 3) := by decide +kernel
theorem dX0_hasCord_4 : decode cX0_hasCord 4 = .ok (.iload_n 1, 1) := by decide +kernel
theorem dX0_hasCord_5 : decode cX0_hasCord 5 = .ok (.aload_n 0, 1) := by decide +kernel
theorem dX0_hasCord_6 : decode cX0_hasCord 6 = .ok (.invokevirtual 29, 3) := by decide +kernel
theorem dX0_hasCord_9 : decode cX0_hasCord 9 = .ok (.if_icmp .ge 7, 3) := by decide +kernel
theorem dX0_hasCord_12 : decode cX0_hasCord 12 = .ok (.iconst 1, 1) := by decide +kernel
theorem dX0_hasCord_13 : decode cX0_hasCord 13 = .ok (.goto 4, 3) := by decide +kernel
theorem dX0_hasCord_16 : decode cX0_hasCord 16 = .ok (.iconst 0, 1) := by decide +kernel
theorem dX0_hasCord_17 : decode cX0_hasCord 17 = .ok (.ireturn, 1) := by decide +kernel
theorem dX0_hasCluster_0 : decode cX0_hasCluster 0 = .ok (.aload_n 0, 1) := by decide +kernel
theorem dX0_hasCluster_1 : decode cX0_hasCluster 1 = .ok (.iload_n 1, 1) := by decide +kernel
theorem dX0_hasCluster_2 : decode cX0_hasCluster 2 = .ok (.invokevirtual 33, 3) := by decide +kernel
theorem dX0_hasCluster_5 : decode cX0_hasCluster 5 = .ok (.ifCond .eq 20, 3) := by decide +kernel
theorem dX0_hasCluster_8 : decode cX0_hasCluster 8 = .ok (.iload_n 2, 1) := by decide +kernel
theorem dX0_hasCluster_9 : decode cX0_hasCluster 9 = .ok (.ifCond .lt 16, 3) := by decide +kernel
theorem dX0_hasCluster_12 : decode cX0_hasCluster 12 = .ok (.iload_n 2, 1) := by decide +kernel
theorem dX0_hasCluster_13 : decode cX0_hasCluster 13 = .ok (.aload_n 0, 1) := by decide +kernel
theorem dX0_hasCluster_14 : decode cX0_hasCluster 14 = .ok (.iload_n 1, 1) := by decide +kernel
theorem dX0_hasCluster_15 : decode cX0_hasCluster 15 = .ok (.invokevirtual 37, 3) := by decide +kernel
theorem dX0_hasCluster_18 : decode cX0_hasCluster 18 = .ok (.if_icmp .ge 7, 3) := by decide +kernel
theorem dX0_hasCluster_21 : decode cX0_hasCluster 21 = .ok (.iconst 1, 1) := by decide +kernel
theorem dX0_hasCluster_22 : decode cX0_hasCluster 22 = .ok (.goto 4, 3) := by decide +kernel
theorem dX0_hasCluster_25 : decode cX0_hasCluster 25 = .ok (.iconst 0, 1) := by decide +kernel
theorem dX0_hasCluster_26 : decode cX0_hasCluster 26 = .ok (.ireturn, 1) := by decide +kernel
theorem dX0_hasGroup_0 : decode cX0_hasGroup 0 = .ok (.iload_n 1, 1) := by decide +kernel
theorem dX0_hasGroup_1 : decode cX0_hasGroup 1 = .ok (.ifCond .lt 15, 3) := by decide +kernel
theorem dX0_hasGroup_4 : decode cX0_hasGroup 4 = .ok (.iload_n 1, 1) := by decide +kernel
theorem dX0_hasGroup_5 : decode cX0_hasGroup 5 = .ok (.aload_n 0, 1) := by decide +kernel
theorem dX0_hasGroup_6 : decode cX0_hasGroup 6 = .ok (.invokevirtual 41, 3) := by decide +kernel
theorem dX0_hasGroup_9 : decode cX0_hasGroup 9 = .ok (.if_icmp .ge 7, 3) := by decide +kernel
theorem dX0_hasGroup_12 : decode cX0_hasGroup 12 = .ok (.iconst 1, 1) := by decide +kernel
theorem dX0_hasGroup_13 : decode cX0_hasGroup 13 = .ok (.goto 4, 3) := by decide +kernel
theorem dX0_hasGroup_16 : decode cX0_hasGroup 16 = .ok (.iconst 0, 1) := by decide +kernel
theorem dX0_hasGroup_17 : decode cX0_hasGroup 17 = .ok (.ireturn, 1) := by decide +kernel
theorem dX0_colourOf_0 : decode cX0_colourOf 0 = .ok (.aload_n 0, 1) := by decide +kernel
theorem dX0_colourOf_1 : decode cX0_colourOf 1 = .ok (.getfield 11, 3) := by decide +kernel
theorem dX0_colourOf_4 : decode cX0_colourOf 4 = .ok (.iconst 0, 1) := by decide +kernel
theorem dX0_colourOf_5 : decode cX0_colourOf 5 = .ok (.iload_n 1, 1) := by decide +kernel
theorem dX0_colourOf_6 : decode cX0_colourOf 6 = .ok (.iadd, 1) := by decide +kernel
theorem dX0_colourOf_7 : decode cX0_colourOf 7 = .ok (.invokestatic 25, 3) := by decide +kernel
theorem dX0_colourOf_10 : decode cX0_colourOf 10 = .ok (.ireturn, 1) := by decide +kernel
theorem dX0_setColour_0 : decode cX0_setColour 0 = .ok (.aload_n 0, 1) := by decide +kernel
theorem dX0_setColour_1 : decode cX0_setColour 1 = .ok (.getfield 11, 3) := by decide +kernel
theorem dX0_setColour_4 : decode cX0_setColour 4 = .ok (.iconst 0, 1) := by decide +kernel
theorem dX0_setColour_5 : decode cX0_setColour 5 = .ok (.iload_n 1, 1) := by decide +kernel
theorem dX0_setColour_6 : decode cX0_setColour 6 = .ok (.iadd, 1) := by decide +kernel
theorem dX0_setColour_7 : decode cX0_setColour 7 = .ok (.iload_n 2, 1) := by decide +kernel
theorem dX0_setColour_8 : decode cX0_setColour 8 = .ok (.invokestatic 44, 3) := by decide +kernel
theorem dX0_setColour_11 : decode cX0_setColour 11 = .ok (.return_, 1) := by decide +kernel
theorem dX0_sizeOf_0 : decode cX0_sizeOf 0 = .ok (.aload_n 0, 1) := by decide +kernel
theorem dX0_sizeOf_1 : decode cX0_sizeOf 1 = .ok (.getfield 11, 3) := by decide +kernel
theorem dX0_sizeOf_4 : decode cX0_sizeOf 4 = .ok (.bipush 16, 2) := by decide +kernel
theorem dX0_sizeOf_6 : decode cX0_sizeOf 6 = .ok (.iload_n 1, 1) := by decide +kernel
theorem dX0_sizeOf_7 : decode cX0_sizeOf 7 = .ok (.iadd, 1) := by decide +kernel
theorem dX0_sizeOf_8 : decode cX0_sizeOf 8 = .ok (.invokestatic 25, 3) := by decide +kernel
theorem dX0_sizeOf_11 : decode cX0_sizeOf 11 = .ok (.ireturn, 1) := by decide +kernel
theorem dX0_codeOf_0 : decode cX0_codeOf 0 = .ok (.aload_n 0, 1) := by decide +kernel
theorem dX0_codeOf_1 : decode cX0_codeOf 1 = .ok (.getfield 11, 3) := by decide +kernel
theorem dX0_codeOf_4 : decode cX0_codeOf 4 = .ok (.bipush 112, 2) := by decide +kernel
theorem dX0_codeOf_6 : decode cX0_codeOf 6 = .ok (.iconst 4, 1) := by decide +kernel
theorem dX0_codeOf_7 : decode cX0_codeOf 7 = .ok (.iload_n 1, 1) := by decide +kernel
theorem dX0_codeOf_8 : decode cX0_codeOf 8 = .ok (.imul, 1) := by decide +kernel
theorem dX0_codeOf_9 : decode cX0_codeOf 9 = .ok (.iadd, 1) := by decide +kernel
theorem dX0_codeOf_10 : decode cX0_codeOf 10 = .ok (.iload_n 2, 1) := by decide +kernel
theorem dX0_codeOf_11 : decode cX0_codeOf 11 = .ok (.iadd, 1) := by decide +kernel
theorem dX0_codeOf_12 : decode cX0_codeOf 12 = .ok (.invokestatic 25, 3) := by decide +kernel
theorem dX0_codeOf_15 : decode cX0_codeOf 15 = .ok (.ireturn, 1) := by decide +kernel
theorem dX0_setCode_0 : decode cX0_setCode 0 = .ok (.aload_n 0, 1) := by decide +kernel
theorem dX0_setCode_1 : decode cX0_setCode 1 = .ok (.getfield 11, 3) := by decide +kernel
theorem dX0_setCode_4 : decode cX0_setCode 4 = .ok (.bipush 112, 2) := by decide +kernel
theorem dX0_setCode_6 : decode cX0_setCode 6 = .ok (.iconst 4, 1) := by decide +kernel
theorem dX0_setCode_7 : decode cX0_setCode 7 = .ok (.iload_n 1, 1) := by decide +kernel
theorem dX0_setCode_8 : decode cX0_setCode 8 = .ok (.imul, 1) := by decide +kernel
theorem dX0_setCode_9 : decode cX0_setCode 9 = .ok (.iadd, 1) := by decide +kernel
theorem dX0_setCode_10 : decode cX0_setCode 10 = .ok (.iload_n 2, 1) := by decide +kernel
theorem dX0_setCode_11 : decode cX0_setCode 11 = .ok (.iadd, 1) := by decide +kernel
theorem dX0_setCode_12 : decode cX0_setCode 12 = .ok (.iload_n 3, 1) := by decide +kernel
theorem dX0_setCode_13 : decode cX0_setCode 13 = .ok (.invokestatic 44, 3) := by decide +kernel
theorem dX0_setCode_16 : decode cX0_setCode 16 = .ok (.return_, 1) := by decide +kernel
theorem dX0_valueOf_0 : decode cX0_valueOf 0 = .ok (.iconst 0, 1) := by decide +kernel
theorem dX0_valueOf_1 : decode cX0_valueOf 1 = .ok (.istore_n 2, 1) := by decide +kernel
theorem dX0_valueOf_2 : decode cX0_valueOf 2 = .ok (.iconst 0, 1) := by decide +kernel
theorem dX0_valueOf_3 : decode cX0_valueOf 3 = .ok (.istore_n 3, 1) := by decide +kernel
theorem dX0_valueOf_4 : decode cX0_valueOf 4 = .ok (.iload_n 3, 1) := by decide +kernel
theorem dX0_valueOf_5 : decode cX0_valueOf 5 = .ok (.aload_n 0, 1) := by decide +kernel
theorem dX0_valueOf_6 : decode cX0_valueOf 6 = .ok (.iload_n 1, 1) := by decide +kernel
theorem dX0_valueOf_7 : decode cX0_valueOf 7 = .ok (.invokevirtual 37, 3) := by decide +kernel
theorem dX0_valueOf_10 : decode cX0_valueOf 10 = .ok (.if_icmp .ge 42, 3) := by decide +kernel
theorem dX0_valueOf_13 : decode cX0_valueOf 13 = .ok (.aload_n 0, 1) := by decide +kernel
theorem dX0_valueOf_14 : decode cX0_valueOf 14 = .ok (.iload_n 1, 1) := by decide +kernel
theorem dX0_valueOf_15 : decode cX0_valueOf 15 = .ok (.iload_n 3, 1) := by decide +kernel
theorem dX0_valueOf_16 : decode cX0_valueOf 16 = .ok (.invokevirtual 48, 3) := by decide +kernel
theorem dX0_valueOf_19 : decode cX0_valueOf 19 = .ok (.istore 4, 2) := by decide +kernel
theorem dX0_valueOf_21 : decode cX0_valueOf 21 = .ok (.iload 4, 2) := by decide +kernel
theorem dX0_valueOf_23 : decode cX0_valueOf 23 = .ok (.iload_n 3, 1) := by decide +kernel
theorem dX0_valueOf_24 : decode cX0_valueOf 24 = .ok (.invokestatic 52, 3) := by decide +kernel
theorem dX0_valueOf_27 : decode cX0_valueOf 27 = .ok (.ifCond .ne 6, 3) := by decide +kernel
theorem dX0_valueOf_30 : decode cX0_valueOf 30 = .ok (.bipush (-4), 2) := by decide +kernel
theorem dX0_valueOf_32 : decode cX0_valueOf 32 = .ok (.ireturn, 1) := by decide +kernel
theorem dX0_valueOf_33 : decode cX0_valueOf 33 = .ok (.iload_n 2, 1) := by decide +kernel
theorem dX0_valueOf_34 : decode cX0_valueOf 34 = .ok (.iload 4, 2) := by decide +kernel
theorem dX0_valueOf_36 : decode cX0_valueOf 36 = .ok (.invokestatic 56, 3) := by decide +kernel
theorem dX0_valueOf_39 : decode cX0_valueOf 39 = .ok (.iload_n 3, 1) := by decide +kernel
theorem dX0_valueOf_40 : decode cX0_valueOf 40 = .ok (.invokestatic 59, 3) := by decide +kernel
theorem dX0_valueOf_43 : decode cX0_valueOf 43 = .ok (.imul, 1) := by decide +kernel
theorem dX0_valueOf_44 : decode cX0_valueOf 44 = .ok (.iadd, 1) := by decide +kernel
theorem dX0_valueOf_45 : decode cX0_valueOf 45 = .ok (.istore_n 2, 1) := by decide +kernel
theorem dX0_valueOf_46 : decode cX0_valueOf 46 = .ok (.iinc 3 1, 3) := by decide +kernel
theorem dX0_valueOf_49 : decode cX0_valueOf 49 = .ok (.goto (-45), 3) := by decide +kernel
theorem dX0_valueOf_52 : decode cX0_valueOf 52 = .ok (.iload_n 2, 1) := by decide +kernel
theorem dX0_valueOf_53 : decode cX0_valueOf 53 = .ok (.ireturn, 1) := by decide +kernel
theorem dX0_valueFromOtherEnd_0 : decode cX0_valueFromOtherEnd 0 = .ok (.iconst 0, 1) := by decide +kernel
theorem dX0_valueFromOtherEnd_1 : decode cX0_valueFromOtherEnd 1 = .ok (.istore_n 2, 1) := by decide +kernel
theorem dX0_valueFromOtherEnd_2 : decode cX0_valueFromOtherEnd 2 = .ok (.aload_n 0, 1) := by decide +kernel
theorem dX0_valueFromOtherEnd_3 : decode cX0_valueFromOtherEnd 3 = .ok (.iload_n 1, 1) := by decide +kernel
theorem dX0_valueFromOtherEnd_4 : decode cX0_valueFromOtherEnd 4 = .ok (.invokevirtual 37, 3) := by decide +kernel
theorem dX0_valueFromOtherEnd_7 : decode cX0_valueFromOtherEnd 7 = .ok (.istore_n 3, 1) := by decide +kernel
theorem dX0_valueFromOtherEnd_8 : decode cX0_valueFromOtherEnd 8 = .ok (.iconst 0, 1) := by decide +kernel
theorem dX0_valueFromOtherEnd_9 : decode cX0_valueFromOtherEnd 9 = .ok (.istore 4, 2) := by decide +kernel
theorem dX0_valueFromOtherEnd_11 : decode cX0_valueFromOtherEnd 11 = .ok (.iload 4, 2) := by decide +kernel
theorem dX0_valueFromOtherEnd_13 : decode cX0_valueFromOtherEnd 13 = .ok (.iload_n 3, 1) := by decide +kernel
theorem dX0_valueFromOtherEnd_14 : decode cX0_valueFromOtherEnd 14 = .ok (.if_icmp .ge 49, 3) := by decide +kernel
theorem dX0_valueFromOtherEnd_17 : decode cX0_valueFromOtherEnd 17 = .ok (.aload_n 0, 1) := by decide +kernel
theorem dX0_valueFromOtherEnd_18 : decode cX0_valueFromOtherEnd 18 = .ok (.iload_n 1, 1) := by decide +kernel
theorem dX0_valueFromOtherEnd_19 : decode cX0_valueFromOtherEnd 19 = .ok (.iload_n 3, 1) := by decide +kernel
theorem dX0_valueFromOtherEnd_20 : decode cX0_valueFromOtherEnd 20 = .ok (.iconst 1, 1) := by decide +kernel
theorem dX0_valueFromOtherEnd_21 : decode cX0_valueFromOtherEnd 21 = .ok (.isub, 1) := by decide +kernel
theorem dX0_valueFromOtherEnd_22 : decode cX0_valueFromOtherEnd 22 = .ok (.iload 4, 2) := by decide +kernel
theorem dX0_valueFromOtherEnd_24 : decode cX0_valueFromOtherEnd 24 = .ok (.isub, 1) := by decide +kernel
theorem dX0_valueFromOtherEnd_25 : decode cX0_valueFromOtherEnd 25 = .ok (.invokevirtual 48, 3) := by decide +kernel
theorem dX0_valueFromOtherEnd_28 : decode cX0_valueFromOtherEnd 28 = .ok (.istore 5, 2) := by decide +kernel
theorem dX0_valueFromOtherEnd_30 : decode cX0_valueFromOtherEnd 30 = .ok (.iload 5, 2) := by decide +kernel
theorem dX0_valueFromOtherEnd_32 : decode cX0_valueFromOtherEnd 32 = .ok (.iload 4, 2) := by decide +kernel
theorem dX0_valueFromOtherEnd_34 : decode cX0_valueFromOtherEnd 34 = .ok (.invokestatic 52, 3) := by decide +kernel
theorem dX0_valueFromOtherEnd_37 : decode cX0_valueFromOtherEnd 37 = .ok (.ifCond .ne 6, 3) := by decide +kernel
theorem dX0_valueFromOtherEnd_40 : decode cX0_valueFromOtherEnd 40 = .ok (.bipush (-4), 2) := by decide +kernel
theorem dX0_valueFromOtherEnd_42 : decode cX0_valueFromOtherEnd 42 = .ok (.ireturn, 1) := by decide +kernel
theorem dX0_valueFromOtherEnd_43 : decode cX0_valueFromOtherEnd 43 = .ok (.iload_n 2, 1) := by decide +kernel
theorem dX0_valueFromOtherEnd_44 : decode cX0_valueFromOtherEnd 44 = .ok (.iload 5, 2) := by decide +kernel
theorem dX0_valueFromOtherEnd_46 : decode cX0_valueFromOtherEnd 46 = .ok (.invokestatic 56, 3) := by decide +kernel
theorem dX0_valueFromOtherEnd_49 : decode cX0_valueFromOtherEnd 49 = .ok (.iload 4, 2) := by decide +kernel
theorem dX0_valueFromOtherEnd_51 : decode cX0_valueFromOtherEnd 51 = .ok (.invokestatic 59, 3) := by decide +kernel
theorem dX0_valueFromOtherEnd_54 : decode cX0_valueFromOtherEnd 54 = .ok (.imul, 1) := by decide +kernel
theorem dX0_valueFromOtherEnd_55 : decode cX0_valueFromOtherEnd 55 = .ok (.iadd, 1) := by decide +kernel
theorem dX0_valueFromOtherEnd_56 : decode cX0_valueFromOtherEnd 56 = .ok (.istore_n 2, 1) := by decide +kernel
theorem dX0_valueFromOtherEnd_57 : decode cX0_valueFromOtherEnd 57 = .ok (.iinc 4 1, 3) := by decide +kernel
theorem dX0_valueFromOtherEnd_60 : decode cX0_valueFromOtherEnd 60 = .ok (.goto (-49), 3) := by decide +kernel
theorem dX0_valueFromOtherEnd_63 : decode cX0_valueFromOtherEnd 63 = .ok (.iload_n 2, 1) := by decide +kernel
theorem dX0_valueFromOtherEnd_64 : decode cX0_valueFromOtherEnd 64 = .ok (.ireturn, 1) := by decide +kernel
theorem dX0_told_0 : decode cX0_told 0 = .ok (.aload_n 0, 1) := by decide +kernel
theorem dX0_told_1 : decode cX0_told 1 = .ok (.iload_n 1, 1) := by decide +kernel
theorem dX0_told_2 : decode cX0_told 2 = .ok (.invokevirtual 62, 3) := by decide +kernel
theorem dX0_told_5 : decode cX0_told 5 = .ok (.iconst 0, 1) := by decide +kernel
theorem dX0_told_6 : decode cX0_told 6 = .ok (.invokestatic 65, 3) := by decide +kernel
theorem dX0_told_9 : decode cX0_told 9 = .ok (.ireturn, 1) := by decide +kernel
theorem dX0_mostOn_0 : decode cX0_mostOn 0 = .ok (.aload_n 0, 1) := by decide +kernel
theorem dX0_mostOn_1 : decode cX0_mostOn 1 = .ok (.iload_n 1, 1) := by decide +kernel
theorem dX0_mostOn_2 : decode cX0_mostOn 2 = .ok (.invokevirtual 37, 3) := by decide +kernel
theorem dX0_mostOn_5 : decode cX0_mostOn 5 = .ok (.invokestatic 59, 3) := by decide +kernel
theorem dX0_mostOn_8 : decode cX0_mostOn 8 = .ok (.iconst 1, 1) := by decide +kernel
theorem dX0_mostOn_9 : decode cX0_mostOn 9 = .ok (.isub, 1) := by decide +kernel
theorem dX0_mostOn_10 : decode cX0_mostOn 10 = .ok (.ireturn, 1) := by decide +kernel
theorem dX0_knotsOf_0 : decode cX0_knotsOf 0 = .ok (.iconst 0, 1) := by decide +kernel
theorem dX0_knotsOf_1 : decode cX0_knotsOf 1 = .ok (.istore_n 2, 1) := by decide +kernel
theorem dX0_knotsOf_2 : decode cX0_knotsOf 2 = .ok (.iconst 0, 1) := by decide +kernel
theorem dX0_knotsOf_3 : decode cX0_knotsOf 3 = .ok (.istore_n 3, 1) := by decide +kernel
theorem dX0_knotsOf_4 : decode cX0_knotsOf 4 = .ok (.iload_n 3, 1) := by decide +kernel
theorem dX0_knotsOf_5 : decode cX0_knotsOf 5 = .ok (.aload_n 0, 1) := by decide +kernel
theorem dX0_knotsOf_6 : decode cX0_knotsOf 6 = .ok (.iload_n 1, 1) := by decide +kernel
theorem dX0_knotsOf_7 : decode cX0_knotsOf 7 = .ok (.invokevirtual 37, 3) := by decide +kernel
theorem dX0_knotsOf_10 : decode cX0_knotsOf 10 = .ok (.if_icmp .ge 21, 3) := by decide +kernel
theorem dX0_knotsOf_13 : decode cX0_knotsOf 13 = .ok (.iload_n 2, 1) := by decide +kernel
theorem dX0_knotsOf_14 : decode cX0_knotsOf 14 = .ok (.aload_n 0, 1) := by decide +kernel
theorem dX0_knotsOf_15 : decode cX0_knotsOf 15 = .ok (.iload_n 1, 1) := by decide +kernel
theorem dX0_knotsOf_16 : decode cX0_knotsOf 16 = .ok (.iload_n 3, 1) := by decide +kernel
theorem dX0_knotsOf_17 : decode cX0_knotsOf 17 = .ok (.invokevirtual 48, 3) := by decide +kernel
theorem dX0_knotsOf_20 : decode cX0_knotsOf 20 = .ok (.invokestatic 70, 3) := by decide +kernel
theorem dX0_knotsOf_23 : decode cX0_knotsOf 23 = .ok (.iadd, 1) := by decide +kernel
theorem dX0_knotsOf_24 : decode cX0_knotsOf 24 = .ok (.istore_n 2, 1) := by decide +kernel
theorem dX0_knotsOf_25 : decode cX0_knotsOf 25 = .ok (.iinc 3 1, 3) := by decide +kernel
theorem dX0_knotsOf_28 : decode cX0_knotsOf 28 = .ok (.goto (-24), 3) := by decide +kernel
theorem dX0_knotsOf_31 : decode cX0_knotsOf 31 = .ok (.iload_n 2, 1) := by decide +kernel
theorem dX0_knotsOf_32 : decode cX0_knotsOf 32 = .ok (.ireturn, 1) := by decide +kernel
theorem dX0_workToTell_0 : decode cX0_workToTell 0 = .ok (.iconst 0, 1) := by decide +kernel
theorem dX0_workToTell_1 : decode cX0_workToTell 1 = .ok (.istore_n 3, 1) := by decide +kernel
theorem dX0_workToTell_2 : decode cX0_workToTell 2 = .ok (.iload_n 2, 1) := by decide +kernel
theorem dX0_workToTell_3 : decode cX0_workToTell 3 = .ok (.istore 4, 2) := by decide +kernel
theorem dX0_workToTell_5 : decode cX0_workToTell 5 = .ok (.iconst 0, 1) := by decide +kernel
theorem dX0_workToTell_6 : decode cX0_workToTell 6 = .ok (.istore 5, 2) := by decide +kernel
theorem dX0_workToTell_8 : decode cX0_workToTell 8 = .ok (.iload 5, 2) := by decide +kernel
theorem dX0_workToTell_10 : decode cX0_workToTell 10 = .ok (.aload_n 0, 1) := by decide +kernel
theorem dX0_workToTell_11 : decode cX0_workToTell 11 = .ok (.iload_n 1, 1) := by decide +kernel
theorem dX0_workToTell_12 : decode cX0_workToTell 12 = .ok (.invokevirtual 37, 3) := by decide +kernel
theorem dX0_workToTell_15 : decode cX0_workToTell 15 = .ok (.if_icmp .ge 62, 3) := by decide +kernel
theorem dX0_workToTell_18 : decode cX0_workToTell 18 = .ok (.aload_n 0, 1) := by decide +kernel
theorem dX0_workToTell_19 : decode cX0_workToTell 19 = .ok (.iload_n 1, 1) := by decide +kernel
theorem dX0_workToTell_20 : decode cX0_workToTell 20 = .ok (.iload 5, 2) := by decide +kernel
theorem dX0_workToTell_22 : decode cX0_workToTell 22 = .ok (.invokevirtual 48, 3) := by decide +kernel
theorem dX0_workToTell_25 : decode cX0_workToTell 25 = .ok (.istore 6, 2) := by decide +kernel
theorem dX0_workToTell_27 : decode cX0_workToTell 27 = .ok (.iload 4, 2) := by decide +kernel
theorem dX0_workToTell_29 : decode cX0_workToTell 29 = .ok (.bipush 10, 2) := by decide +kernel
theorem dX0_workToTell_31 : decode cX0_workToTell 31 = .ok (.irem, 1) := by decide +kernel
theorem dX0_workToTell_32 : decode cX0_workToTell 32 = .ok (.iload 5, 2) := by decide +kernel
theorem dX0_workToTell_34 : decode cX0_workToTell 34 = .ok (.invokestatic 73, 3) := by decide +kernel
theorem dX0_workToTell_37 : decode cX0_workToTell 37 = .ok (.istore 7, 2) := by decide +kernel
theorem dX0_workToTell_39 : decode cX0_workToTell 39 = .ok (.iload_n 3, 1) := by decide +kernel
theorem dX0_workToTell_40 : decode cX0_workToTell 40 = .ok (.iload 6, 2) := by decide +kernel
theorem dX0_workToTell_42 : decode cX0_workToTell 42 = .ok (.iload 7, 2) := by decide +kernel
theorem dX0_workToTell_44 : decode cX0_workToTell 44 = .ok (.if_icmp .ne 7, 3) := by decide +kernel
theorem dX0_workToTell_47 : decode cX0_workToTell 47 = .ok (.iconst 0, 1) := by decide +kernel
theorem dX0_workToTell_48 : decode cX0_workToTell 48 = .ok (.goto 14, 3) := by decide +kernel
theorem dX0_workToTell_51 : decode cX0_workToTell 51 = .ok (.iload 6, 2) := by decide +kernel
theorem dX0_workToTell_53 : decode cX0_workToTell 53 = .ok (.invokestatic 70, 3) := by decide +kernel
theorem dX0_workToTell_56 : decode cX0_workToTell 56 = .ok (.iload 7, 2) := by decide +kernel
theorem dX0_workToTell_58 : decode cX0_workToTell 58 = .ok (.invokestatic 70, 3) := by decide +kernel
theorem dX0_workToTell_61 : decode cX0_workToTell 61 = .ok (.iadd, 1) := by decide +kernel
theorem dX0_workToTell_62 : decode cX0_workToTell 62 = .ok (.iadd, 1) := by decide +kernel
theorem dX0_workToTell_63 : decode cX0_workToTell 63 = .ok (.istore_n 3, 1) := by decide +kernel
theorem dX0_workToTell_64 : decode cX0_workToTell 64 = .ok (.iload 4, 2) := by decide +kernel
theorem dX0_workToTell_66 : decode cX0_workToTell 66 = .ok (.bipush 10, 2) := by decide +kernel
theorem dX0_workToTell_68 : decode cX0_workToTell 68 = .ok (.idiv, 1) := by decide +kernel
theorem dX0_workToTell_69 : decode cX0_workToTell 69 = .ok (.istore 4, 2) := by decide +kernel
theorem dX0_workToTell_71 : decode cX0_workToTell 71 = .ok (.iinc 5 1, 3) := by decide +kernel
theorem dX0_workToTell_74 : decode cX0_workToTell 74 = .ok (.goto (-66), 3) := by decide +kernel
theorem dX0_workToTell_77 : decode cX0_workToTell 77 = .ok (.iload_n 3, 1) := by decide +kernel
theorem dX0_workToTell_78 : decode cX0_workToTell 78 = .ok (.ireturn, 1) := by decide +kernel
theorem dX0_tell_0 : decode cX0_tell 0 = .ok (.iload_n 2, 1) := by decide +kernel
theorem dX0_tell_1 : decode cX0_tell 1 = .ok (.istore_n 3, 1) := by decide +kernel
theorem dX0_tell_2 : decode cX0_tell 2 = .ok (.iconst 0, 1) := by decide +kernel
theorem dX0_tell_3 : decode cX0_tell 3 = .ok (.istore 4, 2) := by decide +kernel
theorem dX0_tell_5 : decode cX0_tell 5 = .ok (.iload 4, 2) := by decide +kernel
theorem dX0_tell_7 : decode cX0_tell 7 = .ok (.aload_n 0, 1) := by decide +kernel
theorem dX0_tell_8 : decode cX0_tell 8 = .ok (.iload_n 1, 1) := by decide +kernel
theorem dX0_tell_9 : decode cX0_tell 9 = .ok (.invokevirtual 37, 3) := by decide +kernel
theorem dX0_tell_12 : decode cX0_tell 12 = .ok (.if_icmp .ge 30, 3) := by decide +kernel
theorem dX0_tell_15 : decode cX0_tell 15 = .ok (.aload_n 0, 1) := by decide +kernel
theorem dX0_tell_16 : decode cX0_tell 16 = .ok (.iload_n 1, 1) := by decide +kernel
theorem dX0_tell_17 : decode cX0_tell 17 = .ok (.iload 4, 2) := by decide +kernel
theorem dX0_tell_19 : decode cX0_tell 19 = .ok (.iload_n 3, 1) := by decide +kernel
theorem dX0_tell_20 : decode cX0_tell 20 = .ok (.bipush 10, 2) := by decide +kernel
theorem dX0_tell_22 : decode cX0_tell 22 = .ok (.irem, 1) := by decide +kernel
theorem dX0_tell_23 : decode cX0_tell 23 = .ok (.iload 4, 2) := by decide +kernel
theorem dX0_tell_25 : decode cX0_tell 25 = .ok (.invokestatic 73, 3) := by decide +kernel
theorem dX0_tell_28 : decode cX0_tell 28 = .ok (.invokevirtual 76, 3) := by decide +kernel
theorem dX0_tell_31 : decode cX0_tell 31 = .ok (.iload_n 3, 1) := by decide +kernel
theorem dX0_tell_32 : decode cX0_tell 32 = .ok (.bipush 10, 2) := by decide +kernel
theorem dX0_tell_34 : decode cX0_tell 34 = .ok (.idiv, 1) := by decide +kernel
theorem dX0_tell_35 : decode cX0_tell 35 = .ok (.istore_n 3, 1) := by decide +kernel
theorem dX0_tell_36 : decode cX0_tell 36 = .ok (.iinc 4 1, 3) := by decide +kernel
theorem dX0_tell_39 : decode cX0_tell 39 = .ok (.goto (-34), 3) := by decide +kernel
theorem dX0_tell_42 : decode cX0_tell 42 = .ok (.return_, 1) := by decide +kernel
theorem dX0_looksLike_0 : decode cX0_looksLike 0 = .ok (.aload_n 0, 1) := by decide +kernel
theorem dX0_looksLike_1 : decode cX0_looksLike 1 = .ok (.iload_n 1, 1) := by decide +kernel
theorem dX0_looksLike_2 : decode cX0_looksLike 2 = .ok (.invokevirtual 80, 3) := by decide +kernel
theorem dX0_looksLike_5 : decode cX0_looksLike 5 = .ok (.aload_n 0, 1) := by decide +kernel
theorem dX0_looksLike_6 : decode cX0_looksLike 6 = .ok (.iload_n 2, 1) := by decide +kernel
theorem dX0_looksLike_7 : decode cX0_looksLike 7 = .ok (.invokevirtual 80, 3) := by decide +kernel
theorem dX0_looksLike_10 : decode cX0_looksLike 10 = .ok (.if_icmp .ne 20, 3) := by decide +kernel
theorem dX0_looksLike_13 : decode cX0_looksLike 13 = .ok (.aload_n 0, 1) := by decide +kernel
theorem dX0_looksLike_14 : decode cX0_looksLike 14 = .ok (.iload_n 1, 1) := by decide +kernel
theorem dX0_looksLike_15 : decode cX0_looksLike 15 = .ok (.invokevirtual 37, 3) := by decide +kernel
theorem dX0_looksLike_18 : decode cX0_looksLike 18 = .ok (.aload_n 0, 1) := by decide +kernel
theorem dX0_looksLike_19 : decode cX0_looksLike 19 = .ok (.iload_n 2, 1) := by decide +kernel
theorem dX0_looksLike_20 : decode cX0_looksLike 20 = .ok (.invokevirtual 37, 3) := by decide +kernel
theorem dX0_looksLike_23 : decode cX0_looksLike 23 = .ok (.if_icmp .ne 7, 3) := by decide +kernel
theorem dX0_looksLike_26 : decode cX0_looksLike 26 = .ok (.iconst 1, 1) := by decide +kernel
theorem dX0_looksLike_27 : decode cX0_looksLike 27 = .ok (.goto 4, 3) := by decide +kernel
theorem dX0_looksLike_30 : decode cX0_looksLike 30 = .ok (.iconst 0, 1) := by decide +kernel
theorem dX0_looksLike_31 : decode cX0_looksLike 31 = .ok (.istore_n 3, 1) := by decide +kernel
theorem dX0_looksLike_32 : decode cX0_looksLike 32 = .ok (.iconst 0, 1) := by decide +kernel
theorem dX0_looksLike_33 : decode cX0_looksLike 33 = .ok (.istore 4, 2) := by decide +kernel
theorem dX0_looksLike_35 : decode cX0_looksLike 35 = .ok (.iload_n 3, 1) := by decide +kernel
theorem dX0_looksLike_36 : decode cX0_looksLike 36 = .ok (.ifCond .eq 42, 3) := by decide +kernel
theorem dX0_looksLike_39 : decode cX0_looksLike 39 = .ok (.iload 4, 2) := by decide +kernel
theorem dX0_looksLike_41 : decode cX0_looksLike 41 = .ok (.aload_n 0, 1) := by decide +kernel
theorem dX0_looksLike_42 : decode cX0_looksLike 42 = .ok (.iload_n 1, 1) := by decide +kernel
theorem dX0_looksLike_43 : decode cX0_looksLike 43 = .ok (.invokevirtual 37, 3) := by decide +kernel
theorem dX0_looksLike_46 : decode cX0_looksLike 46 = .ok (.if_icmp .ge 32, 3) := by decide +kernel
theorem dX0_looksLike_49 : decode cX0_looksLike 49 = .ok (.aload_n 0, 1) := by decide +kernel
theorem dX0_looksLike_50 : decode cX0_looksLike 50 = .ok (.iload_n 1, 1) := by decide +kernel
theorem dX0_looksLike_51 : decode cX0_looksLike 51 = .ok (.iload 4, 2) := by decide +kernel
theorem dX0_looksLike_53 : decode cX0_looksLike 53 = .ok (.invokevirtual 48, 3) := by decide +kernel
theorem dX0_looksLike_56 : decode cX0_looksLike 56 = .ok (.aload_n 0, 1) := by decide +kernel
theorem dX0_looksLike_57 : decode cX0_looksLike 57 = .ok (.iload_n 2, 1) := by decide +kernel
theorem dX0_looksLike_58 : decode cX0_looksLike 58 = .ok (.iload 4, 2) := by decide +kernel
theorem dX0_looksLike_60 : decode cX0_looksLike 60 = .ok (.invokevirtual 48, 3) := by decide +kernel
theorem dX0_looksLike_63 : decode cX0_looksLike 63 = .ok (.if_icmp .ne 7, 3) := by decide +kernel
theorem dX0_looksLike_66 : decode cX0_looksLike 66 = .ok (.iconst 1, 1) := by decide +kernel
theorem dX0_looksLike_67 : decode cX0_looksLike 67 = .ok (.goto 4, 3) := by decide +kernel
theorem dX0_looksLike_70 : decode cX0_looksLike 70 = .ok (.iconst 0, 1) := by decide +kernel
theorem dX0_looksLike_71 : decode cX0_looksLike 71 = .ok (.istore_n 3, 1) := by decide +kernel
theorem dX0_looksLike_72 : decode cX0_looksLike 72 = .ok (.iinc 4 1, 3) := by decide +kernel
theorem dX0_looksLike_75 : decode cX0_looksLike 75 = .ok (.goto (-40), 3) := by decide +kernel
theorem dX0_looksLike_78 : decode cX0_looksLike 78 = .ok (.iload_n 3, 1) := by decide +kernel
theorem dX0_looksLike_79 : decode cX0_looksLike 79 = .ok (.ireturn, 1) := by decide +kernel
theorem dX0_holderOf_0 : decode cX0_holderOf 0 = .ok (.iload_n 1, 1) := by decide +kernel
theorem dX0_holderOf_1 : decode cX0_holderOf 1 = .ok (.ifCond .lt 23, 3) := by decide +kernel
theorem dX0_holderOf_4 : decode cX0_holderOf 4 = .ok (.iload_n 1, 1) := by decide +kernel
theorem dX0_holderOf_5 : decode cX0_holderOf 5 = .ok (.bipush 16, 2) := by decide +kernel
theorem dX0_holderOf_7 : decode cX0_holderOf 7 = .ok (.if_icmp .ge 17, 3) := by decide +kernel
theorem dX0_holderOf_10 : decode cX0_holderOf 10 = .ok (.aload_n 0, 1) := by decide +kernel
theorem dX0_holderOf_11 : decode cX0_holderOf 11 = .ok (.getfield 11, 3) := by decide +kernel
theorem dX0_holderOf_14 : decode cX0_holderOf 14 = .ok (.bipush 32, 2) := by decide +kernel
theorem dX0_holderOf_16 : decode cX0_holderOf 16 = .ok (.iload_n 1, 1) := by decide +kernel
theorem dX0_holderOf_17 : decode cX0_holderOf 17 = .ok (.iadd, 1) := by decide +kernel
theorem dX0_holderOf_18 : decode cX0_holderOf 18 = .ok (.invokestatic 25, 3) := by decide +kernel
theorem dX0_holderOf_21 : decode cX0_holderOf 21 = .ok (.goto 5, 3) := by decide +kernel
theorem dX0_holderOf_24 : decode cX0_holderOf 24 = .ok (.bipush (-4), 2) := by decide +kernel
theorem dX0_holderOf_26 : decode cX0_holderOf 26 = .ok (.ireturn, 1) := by decide +kernel
theorem dX0_depthOf_0 : decode cX0_depthOf 0 = .ok (.aload_n 0, 1) := by decide +kernel
theorem dX0_depthOf_1 : decode cX0_depthOf 1 = .ok (.getfield 11, 3) := by decide +kernel
theorem dX0_depthOf_4 : decode cX0_depthOf 4 = .ok (.bipush 48, 2) := by decide +kernel
theorem dX0_depthOf_6 : decode cX0_depthOf 6 = .ok (.iload_n 1, 1) := by decide +kernel
theorem dX0_depthOf_7 : decode cX0_depthOf 7 = .ok (.iadd, 1) := by decide +kernel
theorem dX0_depthOf_8 : decode cX0_depthOf 8 = .ok (.invokestatic 25, 3) := by decide +kernel
theorem dX0_depthOf_11 : decode cX0_depthOf 11 = .ok (.ireturn, 1) := by decide +kernel
theorem dX0_groupOf_0 : decode cX0_groupOf 0 = .ok (.aload_n 0, 1) := by decide +kernel
theorem dX0_groupOf_1 : decode cX0_groupOf 1 = .ok (.getfield 11, 3) := by decide +kernel
theorem dX0_groupOf_4 : decode cX0_groupOf 4 = .ok (.bipush 80, 2) := by decide +kernel
theorem dX0_groupOf_6 : decode cX0_groupOf 6 = .ok (.iload_n 1, 1) := by decide +kernel
theorem dX0_groupOf_7 : decode cX0_groupOf 7 = .ok (.iadd, 1) := by decide +kernel
theorem dX0_groupOf_8 : decode cX0_groupOf 8 = .ok (.invokestatic 25, 3) := by decide +kernel
theorem dX0_groupOf_11 : decode cX0_groupOf 11 = .ok (.ireturn, 1) := by decide +kernel
theorem dX0_isTop_0 : decode cX0_isTop 0 = .ok (.aload_n 0, 1) := by decide +kernel
theorem dX0_isTop_1 : decode cX0_isTop 1 = .ok (.getfield 11, 3) := by decide +kernel
theorem dX0_isTop_4 : decode cX0_isTop 4 = .ok (.bipush 64, 2) := by decide +kernel
theorem dX0_isTop_6 : decode cX0_isTop 6 = .ok (.iload_n 1, 1) := by decide +kernel
theorem dX0_isTop_7 : decode cX0_isTop 7 = .ok (.iadd, 1) := by decide +kernel
theorem dX0_isTop_8 : decode cX0_isTop 8 = .ok (.invokestatic 25, 3) := by decide +kernel
theorem dX0_isTop_11 : decode cX0_isTop 11 = .ok (.iconst 1, 1) := by decide +kernel
theorem dX0_isTop_12 : decode cX0_isTop 12 = .ok (.if_icmp .ne 7, 3) := by decide +kernel
theorem dX0_isTop_15 : decode cX0_isTop 15 = .ok (.iconst 1, 1) := by decide +kernel
theorem dX0_isTop_16 : decode cX0_isTop 16 = .ok (.goto 4, 3) := by decide +kernel
theorem dX0_isTop_19 : decode cX0_isTop 19 = .ok (.iconst 0, 1) := by decide +kernel
theorem dX0_isTop_20 : decode cX0_isTop 20 = .ok (.ireturn, 1) := by decide +kernel
theorem dX0_isPlainPendant_0 : decode cX0_isPlainPendant 0 = .ok (.aload_n 0, 1) := by decide +kernel
theorem dX0_isPlainPendant_1 : decode cX0_isPlainPendant 1 = .ok (.iload_n 1, 1) := by decide +kernel
theorem dX0_isPlainPendant_2 : decode cX0_isPlainPendant 2 = .ok (.invokevirtual 33, 3) := by decide +kernel
theorem dX0_isPlainPendant_5 : decode cX0_isPlainPendant 5 = .ok (.ifCond .eq 23, 3) := by decide +kernel
theorem dX0_isPlainPendant_8 : decode cX0_isPlainPendant 8 = .ok (.aload_n 0, 1) := by decide +kernel
theorem dX0_isPlainPendant_9 : decode cX0_isPlainPendant 9 = .ok (.iload_n 1, 1) := by decide +kernel
theorem dX0_isPlainPendant_10 : decode cX0_isPlainPendant 10 = .ok (.invokevirtual 83, 3) := by decide +kernel
theorem dX0_isPlainPendant_13 : decode cX0_isPlainPendant 13 = .ok (.ifCond .ne 15, 3) := by decide +kernel
theorem dX0_isPlainPendant_16 : decode cX0_isPlainPendant 16 = .ok (.aload_n 0, 1) := by decide +kernel
theorem dX0_isPlainPendant_17 : decode cX0_isPlainPendant 17 = .ok (.iload_n 1, 1) := by decide +kernel
theorem dX0_isPlainPendant_18 : decode cX0_isPlainPendant 18 = .ok (.invokevirtual 86, 3) := by decide +kernel
theorem dX0_isPlainPendant_21 : decode cX0_isPlainPendant 21 = .ok (.ifCond .ne 7, 3) := by decide +kernel
theorem dX0_isPlainPendant_24 : decode cX0_isPlainPendant 24 = .ok (.iconst 1, 1) := by decide +kernel
theorem dX0_isPlainPendant_25 : decode cX0_isPlainPendant 25 = .ok (.goto 4, 3) := by decide +kernel
theorem dX0_isPlainPendant_28 : decode cX0_isPlainPendant 28 = .ok (.iconst 0, 1) := by decide +kernel
theorem dX0_isPlainPendant_29 : decode cX0_isPlainPendant 29 = .ok (.ireturn, 1) := by decide +kernel
theorem dX0_isIn_0 : decode cX0_isIn 0 = .ok (.aload_n 0, 1) := by decide +kernel
theorem dX0_isIn_1 : decode cX0_isIn 1 = .ok (.iload_n 1, 1) := by decide +kernel
theorem dX0_isIn_2 : decode cX0_isIn 2 = .ok (.invokevirtual 83, 3) := by decide +kernel
theorem dX0_isIn_5 : decode cX0_isIn 5 = .ok (.ifCond .ne 16, 3) := by decide +kernel
theorem dX0_isIn_8 : decode cX0_isIn 8 = .ok (.aload_n 0, 1) := by decide +kernel
theorem dX0_isIn_9 : decode cX0_isIn 9 = .ok (.iload_n 1, 1) := by decide +kernel
theorem dX0_isIn_10 : decode cX0_isIn 10 = .ok (.invokevirtual 89, 3) := by decide +kernel
theorem dX0_isIn_13 : decode cX0_isIn 13 = .ok (.iload_n 2, 1) := by decide +kernel
theorem dX0_isIn_14 : decode cX0_isIn 14 = .ok (.if_icmp .ne 7, 3) := by decide +kernel
theorem dX0_isIn_17 : decode cX0_isIn 17 = .ok (.iconst 1, 1) := by decide +kernel
theorem dX0_isIn_18 : decode cX0_isIn 18 = .ok (.goto 4, 3) := by decide +kernel
theorem dX0_isIn_21 : decode cX0_isIn 21 = .ok (.iconst 0, 1) := by decide +kernel
theorem dX0_isIn_22 : decode cX0_isIn 22 = .ok (.ireturn, 1) := by decide +kernel
theorem dX0_isFrom_0 : decode cX0_isFrom 0 = .ok (.aload_n 0, 1) := by decide +kernel
theorem dX0_isFrom_1 : decode cX0_isFrom 1 = .ok (.iload_n 1, 1) := by decide +kernel
theorem dX0_isFrom_2 : decode cX0_isFrom 2 = .ok (.invokevirtual 92, 3) := by decide +kernel
theorem dX0_isFrom_5 : decode cX0_isFrom 5 = .ok (.istore_n 3, 1) := by decide +kernel
theorem dX0_isFrom_6 : decode cX0_isFrom 6 = .ok (.iload_n 1, 1) := by decide +kernel
theorem dX0_isFrom_7 : decode cX0_isFrom 7 = .ok (.iload_n 2, 1) := by decide +kernel
theorem dX0_isFrom_8 : decode cX0_isFrom 8 = .ok (.if_icmp .eq 23, 3) := by decide +kernel
theorem dX0_isFrom_11 : decode cX0_isFrom 11 = .ok (.iload_n 3, 1) := by decide +kernel
theorem dX0_isFrom_12 : decode cX0_isFrom 12 = .ok (.iload_n 2, 1) := by decide +kernel
theorem dX0_isFrom_13 : decode cX0_isFrom 13 = .ok (.if_icmp .eq 18, 3) := by decide +kernel
theorem dX0_isFrom_16 : decode cX0_isFrom 16 = .ok (.iload_n 3, 1) := by decide +kernel
theorem dX0_isFrom_17 : decode cX0_isFrom 17 = .ok (.bipush (-4), 2) := by decide +kernel
theorem dX0_isFrom_19 : decode cX0_isFrom 19 = .ok (.if_icmp .eq 16, 3) := by decide +kernel
theorem dX0_isFrom_22 : decode cX0_isFrom 22 = .ok (.aload_n 0, 1) := by decide +kernel
theorem dX0_isFrom_23 : decode cX0_isFrom 23 = .ok (.iload_n 3, 1) := by decide +kernel
theorem dX0_isFrom_24 : decode cX0_isFrom 24 = .ok (.invokevirtual 92, 3) := by decide +kernel
theorem dX0_isFrom_27 : decode cX0_isFrom 27 = .ok (.iload_n 2, 1) := by decide +kernel
theorem dX0_isFrom_28 : decode cX0_isFrom 28 = .ok (.if_icmp .ne 7, 3) := by decide +kernel
theorem dX0_isFrom_31 : decode cX0_isFrom 31 = .ok (.iconst 1, 1) := by decide +kernel
theorem dX0_isFrom_32 : decode cX0_isFrom 32 = .ok (.goto 4, 3) := by decide +kernel
theorem dX0_isFrom_35 : decode cX0_isFrom 35 = .ok (.iconst 0, 1) := by decide +kernel
theorem dX0_isFrom_36 : decode cX0_isFrom 36 = .ok (.ireturn, 1) := by decide +kernel
theorem dX0_pendantAbove_0 : decode cX0_pendantAbove 0 = .ok (.iload_n 1, 1) := by decide +kernel
theorem dX0_pendantAbove_1 : decode cX0_pendantAbove 1 = .ok (.istore_n 2, 1) := by decide +kernel
theorem dX0_pendantAbove_2 : decode cX0_pendantAbove 2 = .ok (.iconst 0, 1) := by decide +kernel
theorem dX0_pendantAbove_3 : decode cX0_pendantAbove 3 = .ok (.istore_n 3, 1) := by decide +kernel
theorem dX0_pendantAbove_4 : decode cX0_pendantAbove 4 = .ok (.iload_n 3, 1) := by decide +kernel
theorem dX0_pendantAbove_5 : decode cX0_pendantAbove 5 = .ok (.iconst 2, 1) := by decide +kernel
theorem dX0_pendantAbove_6 : decode cX0_pendantAbove 6 = .ok (.if_icmp .ge 25, 3) := by decide +kernel
theorem dX0_pendantAbove_9 : decode cX0_pendantAbove 9 = .ok (.aload_n 0, 1) := by decide +kernel
theorem dX0_pendantAbove_10 : decode cX0_pendantAbove 10 = .ok (.iload_n 2, 1) := by decide +kernel
theorem dX0_pendantAbove_11 : decode cX0_pendantAbove 11 = .ok (.invokevirtual 92, 3) := by decide +kernel
theorem dX0_pendantAbove_14 : decode cX0_pendantAbove 14 = .ok (.bipush (-4), 2) := by decide +kernel
theorem dX0_pendantAbove_16 : decode cX0_pendantAbove 16 = .ok (.if_icmp .eq 15, 3) := by decide +kernel
theorem dX0_pendantAbove_19 : decode cX0_pendantAbove 19 = .ok (.aload_n 0, 1) := by decide +kernel
theorem dX0_pendantAbove_20 : decode cX0_pendantAbove 20 = .ok (.iload_n 2, 1) := by decide +kernel
theorem dX0_pendantAbove_21 : decode cX0_pendantAbove 21 = .ok (.invokevirtual 92, 3) := by decide +kernel
theorem dX0_pendantAbove_24 : decode cX0_pendantAbove 24 = .ok (.istore_n 2, 1) := by decide +kernel
theorem dX0_pendantAbove_25 : decode cX0_pendantAbove 25 = .ok (.iinc 3 1, 3) := by decide +kernel
theorem dX0_pendantAbove_28 : decode cX0_pendantAbove 28 = .ok (.goto (-24), 3) := by decide +kernel
theorem dX0_pendantAbove_31 : decode cX0_pendantAbove 31 = .ok (.iload_n 2, 1) := by decide +kernel
theorem dX0_pendantAbove_32 : decode cX0_pendantAbove 32 = .ok (.ireturn, 1) := by decide +kernel
theorem dX0_hangingFrom_0 : decode cX0_hangingFrom 0 = .ok (.iconst 0, 1) := by decide +kernel
theorem dX0_hangingFrom_1 : decode cX0_hangingFrom 1 = .ok (.istore_n 2, 1) := by decide +kernel
theorem dX0_hangingFrom_2 : decode cX0_hangingFrom 2 = .ok (.iconst 0, 1) := by decide +kernel
theorem dX0_hangingFrom_3 : decode cX0_hangingFrom 3 = .ok (.istore_n 3, 1) := by decide +kernel
theorem dX0_hangingFrom_4 : decode cX0_hangingFrom 4 = .ok (.iload_n 3, 1) := by decide +kernel
theorem dX0_hangingFrom_5 : decode cX0_hangingFrom 5 = .ok (.aload_n 0, 1) := by decide +kernel
theorem dX0_hangingFrom_6 : decode cX0_hangingFrom 6 = .ok (.invokevirtual 29, 3) := by decide +kernel
theorem dX0_hangingFrom_9 : decode cX0_hangingFrom 9 = .ok (.if_icmp .ge 26, 3) := by decide +kernel
theorem dX0_hangingFrom_12 : decode cX0_hangingFrom 12 = .ok (.iload_n 2, 1) := by decide +kernel
theorem dX0_hangingFrom_13 : decode cX0_hangingFrom 13 = .ok (.aload_n 0, 1) := by decide +kernel
theorem dX0_hangingFrom_14 : decode cX0_hangingFrom 14 = .ok (.iload_n 3, 1) := by decide +kernel
theorem dX0_hangingFrom_15 : decode cX0_hangingFrom 15 = .ok (.invokevirtual 92, 3) := by decide +kernel
theorem dX0_hangingFrom_18 : decode cX0_hangingFrom 18 = .ok (.iload_n 1, 1) := by decide +kernel
theorem dX0_hangingFrom_19 : decode cX0_hangingFrom 19 = .ok (.if_icmp .ne 7, 3) := by decide +kernel
theorem dX0_hangingFrom_22 : decode cX0_hangingFrom 22 = .ok (.iconst 1, 1) := by decide +kernel
theorem dX0_hangingFrom_23 : decode cX0_hangingFrom 23 = .ok (.goto 4, 3) := by decide +kernel
theorem dX0_hangingFrom_26 : decode cX0_hangingFrom 26 = .ok (.iconst 0, 1) := by decide +kernel
theorem dX0_hangingFrom_27 : decode cX0_hangingFrom 27 = .ok (.iadd, 1) := by decide +kernel
theorem dX0_hangingFrom_28 : decode cX0_hangingFrom 28 = .ok (.istore_n 2, 1) := by decide +kernel
theorem dX0_hangingFrom_29 : decode cX0_hangingFrom 29 = .ok (.iinc 3 1, 3) := by decide +kernel
theorem dX0_hangingFrom_32 : decode cX0_hangingFrom 32 = .ok (.goto (-28), 3) := by decide +kernel
theorem dX0_hangingFrom_35 : decode cX0_hangingFrom 35 = .ok (.iload_n 2, 1) := by decide +kernel
theorem dX0_hangingFrom_36 : decode cX0_hangingFrom 36 = .ok (.ireturn, 1) := by decide +kernel
theorem dX0_cordsFrom_0 : decode cX0_cordsFrom 0 = .ok (.iconst 0, 1) := by decide +kernel
theorem dX0_cordsFrom_1 : decode cX0_cordsFrom 1 = .ok (.istore_n 2, 1) := by decide +kernel
theorem dX0_cordsFrom_2 : decode cX0_cordsFrom 2 = .ok (.iconst 0, 1) := by decide +kernel
theorem dX0_cordsFrom_3 : decode cX0_cordsFrom 3 = .ok (.istore_n 3, 1) := by decide +kernel
theorem dX0_cordsFrom_4 : decode cX0_cordsFrom 4 = .ok (.iload_n 3, 1) := by decide +kernel
theorem dX0_cordsFrom_5 : decode cX0_cordsFrom 5 = .ok (.aload_n 0, 1) := by decide +kernel
theorem dX0_cordsFrom_6 : decode cX0_cordsFrom 6 = .ok (.invokevirtual 29, 3) := by decide +kernel
theorem dX0_cordsFrom_9 : decode cX0_cordsFrom 9 = .ok (.if_icmp .ge 26, 3) := by decide +kernel
theorem dX0_cordsFrom_12 : decode cX0_cordsFrom 12 = .ok (.iload_n 2, 1) := by decide +kernel
theorem dX0_cordsFrom_13 : decode cX0_cordsFrom 13 = .ok (.aload_n 0, 1) := by decide +kernel
theorem dX0_cordsFrom_14 : decode cX0_cordsFrom 14 = .ok (.iload_n 3, 1) := by decide +kernel
theorem dX0_cordsFrom_15 : decode cX0_cordsFrom 15 = .ok (.iload_n 1, 1) := by decide +kernel
theorem dX0_cordsFrom_16 : decode cX0_cordsFrom 16 = .ok (.invokevirtual 95, 3) := by decide +kernel
theorem dX0_cordsFrom_19 : decode cX0_cordsFrom 19 = .ok (.ifCond .eq 7, 3) := by decide +kernel
theorem dX0_cordsFrom_22 : decode cX0_cordsFrom 22 = .ok (.iconst 1, 1) := by decide +kernel
theorem dX0_cordsFrom_23 : decode cX0_cordsFrom 23 = .ok (.goto 4, 3) := by decide +kernel
theorem dX0_cordsFrom_26 : decode cX0_cordsFrom 26 = .ok (.iconst 0, 1) := by decide +kernel
theorem dX0_cordsFrom_27 : decode cX0_cordsFrom 27 = .ok (.iadd, 1) := by decide +kernel
theorem dX0_cordsFrom_28 : decode cX0_cordsFrom 28 = .ok (.istore_n 2, 1) := by decide +kernel
theorem dX0_cordsFrom_29 : decode cX0_cordsFrom 29 = .ok (.iinc 3 1, 3) := by decide +kernel
theorem dX0_cordsFrom_32 : decode cX0_cordsFrom 32 = .ok (.goto (-28), 3) := by decide +kernel
theorem dX0_cordsFrom_35 : decode cX0_cordsFrom 35 = .ok (.iload_n 2, 1) := by decide +kernel
theorem dX0_cordsFrom_36 : decode cX0_cordsFrom 36 = .ok (.ireturn, 1) := by decide +kernel
theorem dX0_wholeOf_0 : decode cX0_wholeOf 0 = .ok (.iconst 0, 1) := by decide +kernel
theorem dX0_wholeOf_1 : decode cX0_wholeOf 1 = .ok (.istore_n 2, 1) := by decide +kernel
theorem dX0_wholeOf_2 : decode cX0_wholeOf 2 = .ok (.iconst 0, 1) := by decide +kernel
theorem dX0_wholeOf_3 : decode cX0_wholeOf 3 = .ok (.istore_n 3, 1) := by decide +kernel
theorem dX0_wholeOf_4 : decode cX0_wholeOf 4 = .ok (.iload_n 3, 1) := by decide +kernel
theorem dX0_wholeOf_5 : decode cX0_wholeOf 5 = .ok (.aload_n 0, 1) := by decide +kernel
theorem dX0_wholeOf_6 : decode cX0_wholeOf 6 = .ok (.invokevirtual 29, 3) := by decide +kernel
theorem dX0_wholeOf_9 : decode cX0_wholeOf 9 = .ok (.if_icmp .ge 40, 3) := by decide +kernel
theorem dX0_wholeOf_12 : decode cX0_wholeOf 12 = .ok (.aload_n 0, 1) := by decide +kernel
theorem dX0_wholeOf_13 : decode cX0_wholeOf 13 = .ok (.iload_n 3, 1) := by decide +kernel
theorem dX0_wholeOf_14 : decode cX0_wholeOf 14 = .ok (.iload_n 1, 1) := by decide +kernel
theorem dX0_wholeOf_15 : decode cX0_wholeOf 15 = .ok (.invokevirtual 95, 3) := by decide +kernel
theorem dX0_wholeOf_18 : decode cX0_wholeOf 18 = .ok (.ifCond .eq 25, 3) := by decide +kernel
theorem dX0_wholeOf_21 : decode cX0_wholeOf 21 = .ok (.aload_n 0, 1) := by decide +kernel
theorem dX0_wholeOf_22 : decode cX0_wholeOf 22 = .ok (.iload_n 3, 1) := by decide +kernel
theorem dX0_wholeOf_23 : decode cX0_wholeOf 23 = .ok (.invokevirtual 62, 3) := by decide +kernel
theorem dX0_wholeOf_26 : decode cX0_wholeOf 26 = .ok (.istore 4, 2) := by decide +kernel
theorem dX0_wholeOf_28 : decode cX0_wholeOf 28 = .ok (.iload 4, 2) := by decide +kernel
theorem dX0_wholeOf_30 : decode cX0_wholeOf 30 = .ok (.bipush (-4), 2) := by decide +kernel
theorem dX0_wholeOf_32 : decode cX0_wholeOf 32 = .ok (.if_icmp .ne 6, 3) := by decide +kernel
theorem dX0_wholeOf_35 : decode cX0_wholeOf 35 = .ok (.bipush (-4), 2) := by decide +kernel
theorem dX0_wholeOf_37 : decode cX0_wholeOf 37 = .ok (.ireturn, 1) := by decide +kernel
theorem dX0_wholeOf_38 : decode cX0_wholeOf 38 = .ok (.iload_n 2, 1) := by decide +kernel
theorem dX0_wholeOf_39 : decode cX0_wholeOf 39 = .ok (.iload 4, 2) := by decide +kernel
theorem dX0_wholeOf_41 : decode cX0_wholeOf 41 = .ok (.iadd, 1) := by decide +kernel
theorem dX0_wholeOf_42 : decode cX0_wholeOf 42 = .ok (.istore_n 2, 1) := by decide +kernel
theorem dX0_wholeOf_43 : decode cX0_wholeOf 43 = .ok (.iinc 3 1, 3) := by decide +kernel
theorem dX0_wholeOf_46 : decode cX0_wholeOf 46 = .ok (.goto (-42), 3) := by decide +kernel
theorem dX0_wholeOf_49 : decode cX0_wholeOf 49 = .ok (.iload_n 2, 1) := by decide +kernel
theorem dX0_wholeOf_50 : decode cX0_wholeOf 50 = .ok (.ireturn, 1) := by decide +kernel
theorem dX0_pendantsIn_0 : decode cX0_pendantsIn 0 = .ok (.iconst 0, 1) := by decide +kernel
theorem dX0_pendantsIn_1 : decode cX0_pendantsIn 1 = .ok (.istore_n 2, 1) := by decide +kernel
theorem dX0_pendantsIn_2 : decode cX0_pendantsIn 2 = .ok (.iconst 0, 1) := by decide +kernel
theorem dX0_pendantsIn_3 : decode cX0_pendantsIn 3 = .ok (.istore_n 3, 1) := by decide +kernel
theorem dX0_pendantsIn_4 : decode cX0_pendantsIn 4 = .ok (.iload_n 3, 1) := by decide +kernel
theorem dX0_pendantsIn_5 : decode cX0_pendantsIn 5 = .ok (.aload_n 0, 1) := by decide +kernel
theorem dX0_pendantsIn_6 : decode cX0_pendantsIn 6 = .ok (.getfield 11, 3) := by decide +kernel
theorem dX0_pendantsIn_9 : decode cX0_pendantsIn 9 = .ok (.sipush 178, 3) := by decide +kernel
theorem dX0_pendantsIn_12 : decode cX0_pendantsIn 12 = .ok (.invokestatic 25, 3) := by decide +kernel
theorem dX0_pendantsIn_15 : decode cX0_pendantsIn 15 = .ok (.if_icmp .ge 36, 3) := by decide +kernel
theorem dX0_pendantsIn_18 : decode cX0_pendantsIn 18 = .ok (.iload_n 2, 1) := by decide +kernel
theorem dX0_pendantsIn_19 : decode cX0_pendantsIn 19 = .ok (.aload_n 0, 1) := by decide +kernel
theorem dX0_pendantsIn_20 : decode cX0_pendantsIn 20 = .ok (.aload_n 0, 1) := by decide +kernel
theorem dX0_pendantsIn_21 : decode cX0_pendantsIn 21 = .ok (.getfield 11, 3) := by decide +kernel
theorem dX0_pendantsIn_24 : decode cX0_pendantsIn 24 = .ok (.bipush 96, 2) := by decide +kernel
theorem dX0_pendantsIn_26 : decode cX0_pendantsIn 26 = .ok (.iload_n 3, 1) := by decide +kernel
theorem dX0_pendantsIn_27 : decode cX0_pendantsIn 27 = .ok (.iadd, 1) := by decide +kernel
theorem dX0_pendantsIn_28 : decode cX0_pendantsIn 28 = .ok (.invokestatic 25, 3) := by decide +kernel
theorem dX0_pendantsIn_31 : decode cX0_pendantsIn 31 = .ok (.invokevirtual 89, 3) := by decide +kernel
theorem dX0_pendantsIn_34 : decode cX0_pendantsIn 34 = .ok (.iload_n 1, 1) := by decide +kernel
theorem dX0_pendantsIn_35 : decode cX0_pendantsIn 35 = .ok (.if_icmp .ne 7, 3) := by decide +kernel
theorem dX0_pendantsIn_38 : decode cX0_pendantsIn 38 = .ok (.iconst 1, 1) := by decide +kernel
theorem dX0_pendantsIn_39 : decode cX0_pendantsIn 39 = .ok (.goto 4, 3) := by decide +kernel
theorem dX0_pendantsIn_42 : decode cX0_pendantsIn 42 = .ok (.iconst 0, 1) := by decide +kernel
theorem dX0_pendantsIn_43 : decode cX0_pendantsIn 43 = .ok (.iadd, 1) := by decide +kernel
theorem dX0_pendantsIn_44 : decode cX0_pendantsIn 44 = .ok (.istore_n 2, 1) := by decide +kernel
theorem dX0_pendantsIn_45 : decode cX0_pendantsIn 45 = .ok (.iinc 3 1, 3) := by decide +kernel
theorem dX0_pendantsIn_48 : decode cX0_pendantsIn 48 = .ok (.goto (-44), 3) := by decide +kernel
theorem dX0_pendantsIn_51 : decode cX0_pendantsIn 51 = .ok (.iload_n 2, 1) := by decide +kernel
theorem dX0_pendantsIn_52 : decode cX0_pendantsIn 52 = .ok (.ireturn, 1) := by decide +kernel
theorem dX0_pendantAt_0 : decode cX0_pendantAt 0 = .ok (.iconst 0, 1) := by decide +kernel
theorem dX0_pendantAt_1 : decode cX0_pendantAt 1 = .ok (.istore_n 3, 1) := by decide +kernel
theorem dX0_pendantAt_2 : decode cX0_pendantAt 2 = .ok (.iconst 0, 1) := by decide +kernel
theorem dX0_pendantAt_3 : decode cX0_pendantAt 3 = .ok (.istore 4, 2) := by decide +kernel
theorem dX0_pendantAt_5 : decode cX0_pendantAt 5 = .ok (.iload 4, 2) := by decide +kernel
theorem dX0_pendantAt_7 : decode cX0_pendantAt 7 = .ok (.aload_n 0, 1) := by decide +kernel
theorem dX0_pendantAt_8 : decode cX0_pendantAt 8 = .ok (.getfield 11, 3) := by decide +kernel
theorem dX0_pendantAt_11 : decode cX0_pendantAt 11 = .ok (.sipush 178, 3) := by decide +kernel
theorem dX0_pendantAt_14 : decode cX0_pendantAt 14 = .ok (.invokestatic 25, 3) := by decide +kernel
theorem dX0_pendantAt_17 : decode cX0_pendantAt 17 = .ok (.if_icmp .ge 44, 3) := by decide +kernel
theorem dX0_pendantAt_20 : decode cX0_pendantAt 20 = .ok (.aload_n 0, 1) := by decide +kernel
theorem dX0_pendantAt_21 : decode cX0_pendantAt 21 = .ok (.getfield 11, 3) := by decide +kernel
theorem dX0_pendantAt_24 : decode cX0_pendantAt 24 = .ok (.bipush 96, 2) := by decide +kernel
theorem dX0_pendantAt_26 : decode cX0_pendantAt 26 = .ok (.iload 4, 2) := by decide +kernel
theorem dX0_pendantAt_28 : decode cX0_pendantAt 28 = .ok (.iadd, 1) := by decide +kernel
theorem dX0_pendantAt_29 : decode cX0_pendantAt 29 = .ok (.invokestatic 25, 3) := by decide +kernel
theorem dX0_pendantAt_32 : decode cX0_pendantAt 32 = .ok (.istore 5, 2) := by decide +kernel
theorem dX0_pendantAt_34 : decode cX0_pendantAt 34 = .ok (.aload_n 0, 1) := by decide +kernel
theorem dX0_pendantAt_35 : decode cX0_pendantAt 35 = .ok (.iload 5, 2) := by decide +kernel
theorem dX0_pendantAt_37 : decode cX0_pendantAt 37 = .ok (.invokevirtual 89, 3) := by decide +kernel
theorem dX0_pendantAt_40 : decode cX0_pendantAt 40 = .ok (.iload_n 1, 1) := by decide +kernel
theorem dX0_pendantAt_41 : decode cX0_pendantAt 41 = .ok (.if_icmp .ne 14, 3) := by decide +kernel
theorem dX0_pendantAt_44 : decode cX0_pendantAt 44 = .ok (.iload_n 3, 1) := by decide +kernel
theorem dX0_pendantAt_45 : decode cX0_pendantAt 45 = .ok (.iload_n 2, 1) := by decide +kernel
theorem dX0_pendantAt_46 : decode cX0_pendantAt 46 = .ok (.if_icmp .ne 6, 3) := by decide +kernel
theorem dX0_pendantAt_49 : decode cX0_pendantAt 49 = .ok (.iload 5, 2) := by decide +kernel
theorem dX0_pendantAt_51 : decode cX0_pendantAt 51 = .ok (.ireturn, 1) := by decide +kernel
theorem dX0_pendantAt_52 : decode cX0_pendantAt 52 = .ok (.iinc 3 1, 3) := by decide +kernel
theorem dX0_pendantAt_55 : decode cX0_pendantAt 55 = .ok (.iinc 4 1, 3) := by decide +kernel
theorem dX0_pendantAt_58 : decode cX0_pendantAt 58 = .ok (.goto (-53), 3) := by decide +kernel
theorem dX0_pendantAt_61 : decode cX0_pendantAt 61 = .ok (.bipush (-4), 2) := by decide +kernel
theorem dX0_pendantAt_63 : decode cX0_pendantAt 63 = .ok (.ireturn, 1) := by decide +kernel
theorem dX0_moveBehind_0 : decode cX0_moveBehind 0 = .ok (.iconst 0, 1) := by decide +kernel
theorem dX0_moveBehind_1 : decode cX0_moveBehind 1 = .ok (.istore_n 3, 1) := by decide +kernel
theorem dX0_moveBehind_2 : decode cX0_moveBehind 2 = .ok (.aload_n 0, 1) := by decide +kernel
theorem dX0_moveBehind_3 : decode cX0_moveBehind 3 = .ok (.getfield 11, 3) := by decide +kernel
theorem dX0_moveBehind_6 : decode cX0_moveBehind 6 = .ok (.sipush 178, 3) := by decide +kernel
theorem dX0_moveBehind_9 : decode cX0_moveBehind 9 = .ok (.invokestatic 25, 3) := by decide +kernel
theorem dX0_moveBehind_12 : decode cX0_moveBehind 12 = .ok (.istore 4, 2) := by decide +kernel
theorem dX0_moveBehind_14 : decode cX0_moveBehind 14 = .ok (.iconst 0, 1) := by decide +kernel
theorem dX0_moveBehind_15 : decode cX0_moveBehind 15 = .ok (.istore 5, 2) := by decide +kernel
theorem dX0_moveBehind_17 : decode cX0_moveBehind 17 = .ok (.iload 5, 2) := by decide +kernel
theorem dX0_moveBehind_19 : decode cX0_moveBehind 19 = .ok (.iload 4, 2) := by decide +kernel
theorem dX0_moveBehind_21 : decode cX0_moveBehind 21 = .ok (.if_icmp .ge 45, 3) := by decide +kernel
theorem dX0_moveBehind_24 : decode cX0_moveBehind 24 = .ok (.aload_n 0, 1) := by decide +kernel
theorem dX0_moveBehind_25 : decode cX0_moveBehind 25 = .ok (.getfield 11, 3) := by decide +kernel
theorem dX0_moveBehind_28 : decode cX0_moveBehind 28 = .ok (.bipush 96, 2) := by decide +kernel
theorem dX0_moveBehind_30 : decode cX0_moveBehind 30 = .ok (.iload 5, 2) := by decide +kernel
theorem dX0_moveBehind_32 : decode cX0_moveBehind 32 = .ok (.iadd, 1) := by decide +kernel
theorem dX0_moveBehind_33 : decode cX0_moveBehind 33 = .ok (.invokestatic 25, 3) := by decide +kernel
theorem dX0_moveBehind_36 : decode cX0_moveBehind 36 = .ok (.istore 6, 2) := by decide +kernel
theorem dX0_moveBehind_38 : decode cX0_moveBehind 38 = .ok (.iload 6, 2) := by decide +kernel
theorem dX0_moveBehind_40 : decode cX0_moveBehind 40 = .ok (.iload_n 1, 1) := by decide +kernel
theorem dX0_moveBehind_41 : decode cX0_moveBehind 41 = .ok (.if_icmp .eq 19, 3) := by decide +kernel
theorem dX0_moveBehind_44 : decode cX0_moveBehind 44 = .ok (.aload_n 0, 1) := by decide +kernel
theorem dX0_moveBehind_45 : decode cX0_moveBehind 45 = .ok (.getfield 11, 3) := by decide +kernel
theorem dX0_moveBehind_48 : decode cX0_moveBehind 48 = .ok (.bipush 96, 2) := by decide +kernel
theorem dX0_moveBehind_50 : decode cX0_moveBehind 50 = .ok (.iload_n 3, 1) := by decide +kernel
theorem dX0_moveBehind_51 : decode cX0_moveBehind 51 = .ok (.iadd, 1) := by decide +kernel
theorem dX0_moveBehind_52 : decode cX0_moveBehind 52 = .ok (.iload 6, 2) := by decide +kernel
theorem dX0_moveBehind_54 : decode cX0_moveBehind 54 = .ok (.invokestatic 44, 3) := by decide +kernel
theorem dX0_moveBehind_57 : decode cX0_moveBehind 57 = .ok (.iinc 3 1, 3) := by decide +kernel
theorem dX0_moveBehind_60 : decode cX0_moveBehind 60 = .ok (.iinc 5 1, 3) := by decide +kernel
theorem dX0_moveBehind_63 : decode cX0_moveBehind 63 = .ok (.goto (-46), 3) := by decide +kernel
theorem dX0_moveBehind_66 : decode cX0_moveBehind 66 = .ok (.aload_n 0, 1) := by decide +kernel
theorem dX0_moveBehind_67 : decode cX0_moveBehind 67 = .ok (.getfield 11, 3) := by decide +kernel
theorem dX0_moveBehind_70 : decode cX0_moveBehind 70 = .ok (.bipush 96, 2) := by decide +kernel
theorem dX0_moveBehind_72 : decode cX0_moveBehind 72 = .ok (.iload_n 3, 1) := by decide +kernel
theorem dX0_moveBehind_73 : decode cX0_moveBehind 73 = .ok (.iadd, 1) := by decide +kernel
theorem dX0_moveBehind_74 : decode cX0_moveBehind 74 = .ok (.iload_n 1, 1) := by decide +kernel
theorem dX0_moveBehind_75 : decode cX0_moveBehind 75 = .ok (.invokestatic 44, 3) := by decide +kernel
theorem dX0_moveBehind_78 : decode cX0_moveBehind 78 = .ok (.iconst 0, 1) := by decide +kernel
theorem dX0_moveBehind_79 : decode cX0_moveBehind 79 = .ok (.istore 5, 2) := by decide +kernel
theorem dX0_moveBehind_81 : decode cX0_moveBehind 81 = .ok (.iload 5, 2) := by decide +kernel
theorem dX0_moveBehind_83 : decode cX0_moveBehind 83 = .ok (.aload_n 0, 1) := by decide +kernel
theorem dX0_moveBehind_84 : decode cX0_moveBehind 84 = .ok (.invokevirtual 29, 3) := by decide +kernel
theorem dX0_moveBehind_87 : decode cX0_moveBehind 87 = .ok (.if_icmp .ge 32, 3) := by decide +kernel
theorem dX0_moveBehind_90 : decode cX0_moveBehind 90 = .ok (.aload_n 0, 1) := by decide +kernel
theorem dX0_moveBehind_91 : decode cX0_moveBehind 91 = .ok (.iload 5, 2) := by decide +kernel
theorem dX0_moveBehind_93 : decode cX0_moveBehind 93 = .ok (.iload_n 1, 1) := by decide +kernel
theorem dX0_moveBehind_94 : decode cX0_moveBehind 94 = .ok (.invokevirtual 95, 3) := by decide +kernel
theorem dX0_moveBehind_97 : decode cX0_moveBehind 97 = .ok (.ifCond .eq 16, 3) := by decide +kernel
theorem dX0_moveBehind_100 : decode cX0_moveBehind 100 = .ok (.aload_n 0, 1) := by decide +kernel
theorem dX0_moveBehind_101 : decode cX0_moveBehind 101 = .ok (.getfield 11, 3) := by decide +kernel
theorem dX0_moveBehind_104 : decode cX0_moveBehind 104 = .ok (.bipush 80, 2) := by decide +kernel
theorem dX0_moveBehind_106 : decode cX0_moveBehind 106 = .ok (.iload 5, 2) := by decide +kernel
theorem dX0_moveBehind_108 : decode cX0_moveBehind 108 = .ok (.iadd, 1) := by decide +kernel
theorem dX0_moveBehind_109 : decode cX0_moveBehind 109 = .ok (.iload_n 2, 1) := by decide +kernel
theorem dX0_moveBehind_110 : decode cX0_moveBehind 110 = .ok (.invokestatic 44, 3) := by decide +kernel
theorem dX0_moveBehind_113 : decode cX0_moveBehind 113 = .ok (.iinc 5 1, 3) := by decide +kernel
theorem dX0_moveBehind_116 : decode cX0_moveBehind 116 = .ok (.goto (-35), 3) := by decide +kernel
theorem dX0_moveBehind_119 : decode cX0_moveBehind 119 = .ok (.return_, 1) := by decide +kernel
theorem dX0_topOf_0 : decode cX0_topOf 0 = .ok (.iconst 0, 1) := by decide +kernel
theorem dX0_topOf_1 : decode cX0_topOf 1 = .ok (.istore_n 2, 1) := by decide +kernel
theorem dX0_topOf_2 : decode cX0_topOf 2 = .ok (.iload_n 2, 1) := by decide +kernel
theorem dX0_topOf_3 : decode cX0_topOf 3 = .ok (.aload_n 0, 1) := by decide +kernel
theorem dX0_topOf_4 : decode cX0_topOf 4 = .ok (.invokevirtual 29, 3) := by decide +kernel
theorem dX0_topOf_7 : decode cX0_topOf 7 = .ok (.if_icmp .ge 28, 3) := by decide +kernel
theorem dX0_topOf_10 : decode cX0_topOf 10 = .ok (.aload_n 0, 1) := by decide +kernel
theorem dX0_topOf_11 : decode cX0_topOf 11 = .ok (.iload_n 2, 1) := by decide +kernel
theorem dX0_topOf_12 : decode cX0_topOf 12 = .ok (.invokevirtual 86, 3) := by decide +kernel
theorem dX0_topOf_15 : decode cX0_topOf 15 = .ok (.ifCond .eq 14, 3) := by decide +kernel
theorem dX0_topOf_18 : decode cX0_topOf 18 = .ok (.aload_n 0, 1) := by decide +kernel
theorem dX0_topOf_19 : decode cX0_topOf 19 = .ok (.iload_n 2, 1) := by decide +kernel
theorem dX0_topOf_20 : decode cX0_topOf 20 = .ok (.invokevirtual 89, 3) := by decide +kernel
theorem dX0_topOf_23 : decode cX0_topOf 23 = .ok (.iload_n 1, 1) := by decide +kernel
theorem dX0_topOf_24 : decode cX0_topOf 24 = .ok (.if_icmp .ne 5, 3) := by decide +kernel
theorem dX0_topOf_27 : decode cX0_topOf 27 = .ok (.iload_n 2, 1) := by decide +kernel
theorem dX0_topOf_28 : decode cX0_topOf 28 = .ok (.ireturn, 1) := by decide +kernel
theorem dX0_topOf_29 : decode cX0_topOf 29 = .ok (.iinc 2 1, 3) := by decide +kernel
theorem dX0_topOf_32 : decode cX0_topOf 32 = .ok (.goto (-30), 3) := by decide +kernel
theorem dX0_topOf_35 : decode cX0_topOf 35 = .ok (.bipush (-4), 2) := by decide +kernel
theorem dX0_topOf_37 : decode cX0_topOf 37 = .ok (.ireturn, 1) := by decide +kernel
theorem dX0_sumOf_0 : decode cX0_sumOf 0 = .ok (.iconst 0, 1) := by decide +kernel
theorem dX0_sumOf_1 : decode cX0_sumOf 1 = .ok (.istore_n 2, 1) := by decide +kernel
theorem dX0_sumOf_2 : decode cX0_sumOf 2 = .ok (.iconst 0, 1) := by decide +kernel
theorem dX0_sumOf_3 : decode cX0_sumOf 3 = .ok (.istore_n 3, 1) := by decide +kernel
theorem dX0_sumOf_4 : decode cX0_sumOf 4 = .ok (.iload_n 3, 1) := by decide +kernel
theorem dX0_sumOf_5 : decode cX0_sumOf 5 = .ok (.aload_n 0, 1) := by decide +kernel
theorem dX0_sumOf_6 : decode cX0_sumOf 6 = .ok (.invokevirtual 29, 3) := by decide +kernel
theorem dX0_sumOf_9 : decode cX0_sumOf 9 = .ok (.if_icmp .ge 48, 3) := by decide +kernel
theorem dX0_sumOf_12 : decode cX0_sumOf 12 = .ok (.aload_n 0, 1) := by decide +kernel
theorem dX0_sumOf_13 : decode cX0_sumOf 13 = .ok (.iload_n 3, 1) := by decide +kernel
theorem dX0_sumOf_14 : decode cX0_sumOf 14 = .ok (.invokevirtual 98, 3) := by decide +kernel
theorem dX0_sumOf_17 : decode cX0_sumOf 17 = .ok (.ifCond .eq 34, 3) := by decide +kernel
theorem dX0_sumOf_20 : decode cX0_sumOf 20 = .ok (.aload_n 0, 1) := by decide +kernel
theorem dX0_sumOf_21 : decode cX0_sumOf 21 = .ok (.iload_n 3, 1) := by decide +kernel
theorem dX0_sumOf_22 : decode cX0_sumOf 22 = .ok (.invokevirtual 89, 3) := by decide +kernel
theorem dX0_sumOf_25 : decode cX0_sumOf 25 = .ok (.iload_n 1, 1) := by decide +kernel
theorem dX0_sumOf_26 : decode cX0_sumOf 26 = .ok (.if_icmp .ne 25, 3) := by decide +kernel
theorem dX0_sumOf_29 : decode cX0_sumOf 29 = .ok (.aload_n 0, 1) := by decide +kernel
theorem dX0_sumOf_30 : decode cX0_sumOf 30 = .ok (.iload_n 3, 1) := by decide +kernel
theorem dX0_sumOf_31 : decode cX0_sumOf 31 = .ok (.invokevirtual 101, 3) := by decide +kernel
theorem dX0_sumOf_34 : decode cX0_sumOf 34 = .ok (.istore 4, 2) := by decide +kernel
theorem dX0_sumOf_36 : decode cX0_sumOf 36 = .ok (.iload 4, 2) := by decide +kernel
theorem dX0_sumOf_38 : decode cX0_sumOf 38 = .ok (.bipush (-4), 2) := by decide +kernel
theorem dX0_sumOf_40 : decode cX0_sumOf 40 = .ok (.if_icmp .ne 6, 3) := by decide +kernel
theorem dX0_sumOf_43 : decode cX0_sumOf 43 = .ok (.bipush (-4), 2) := by decide +kernel
theorem dX0_sumOf_45 : decode cX0_sumOf 45 = .ok (.ireturn, 1) := by decide +kernel
theorem dX0_sumOf_46 : decode cX0_sumOf 46 = .ok (.iload_n 2, 1) := by decide +kernel
theorem dX0_sumOf_47 : decode cX0_sumOf 47 = .ok (.iload 4, 2) := by decide +kernel
theorem dX0_sumOf_49 : decode cX0_sumOf 49 = .ok (.iadd, 1) := by decide +kernel
theorem dX0_sumOf_50 : decode cX0_sumOf 50 = .ok (.istore_n 2, 1) := by decide +kernel
theorem dX0_sumOf_51 : decode cX0_sumOf 51 = .ok (.iinc 3 1, 3) := by decide +kernel
theorem dX0_sumOf_54 : decode cX0_sumOf 54 = .ok (.goto (-50), 3) := by decide +kernel
theorem dX0_sumOf_57 : decode cX0_sumOf 57 = .ok (.iload_n 2, 1) := by decide +kernel
theorem dX0_sumOf_58 : decode cX0_sumOf 58 = .ok (.ireturn, 1) := by decide +kernel
theorem dX0_canBeCompared_0 : decode cX0_canBeCompared 0 = .ok (.aload_n 0, 1) := by decide +kernel
theorem dX0_canBeCompared_1 : decode cX0_canBeCompared 1 = .ok (.iload_n 1, 1) := by decide +kernel
theorem dX0_canBeCompared_2 : decode cX0_canBeCompared 2 = .ok (.invokevirtual 104, 3) := by decide +kernel
theorem dX0_canBeCompared_5 : decode cX0_canBeCompared 5 = .ok (.istore_n 2, 1) := by decide +kernel
theorem dX0_canBeCompared_6 : decode cX0_canBeCompared 6 = .ok (.iload_n 2, 1) := by decide +kernel
theorem dX0_canBeCompared_7 : decode cX0_canBeCompared 7 = .ok (.bipush (-4), 2) := by decide +kernel
theorem dX0_canBeCompared_9 : decode cX0_canBeCompared 9 = .ok (.if_icmp .eq 27, 3) := by decide +kernel
theorem dX0_canBeCompared_12 : decode cX0_canBeCompared 12 = .ok (.aload_n 0, 1) := by decide +kernel
theorem dX0_canBeCompared_13 : decode cX0_canBeCompared 13 = .ok (.iload_n 2, 1) := by decide +kernel
theorem dX0_canBeCompared_14 : decode cX0_canBeCompared 14 = .ok (.invokevirtual 101, 3) := by decide +kernel
theorem dX0_canBeCompared_17 : decode cX0_canBeCompared 17 = .ok (.bipush (-4), 2) := by decide +kernel
theorem dX0_canBeCompared_19 : decode cX0_canBeCompared 19 = .ok (.if_icmp .eq 17, 3) := by decide +kernel
theorem dX0_canBeCompared_22 : decode cX0_canBeCompared 22 = .ok (.aload_n 0, 1) := by decide +kernel
theorem dX0_canBeCompared_23 : decode cX0_canBeCompared 23 = .ok (.iload_n 1, 1) := by decide +kernel
theorem dX0_canBeCompared_24 : decode cX0_canBeCompared 24 = .ok (.invokevirtual 107, 3) := by decide +kernel
theorem dX0_canBeCompared_27 : decode cX0_canBeCompared 27 = .ok (.bipush (-4), 2) := by decide +kernel
theorem dX0_canBeCompared_29 : decode cX0_canBeCompared 29 = .ok (.if_icmp .eq 7, 3) := by decide +kernel
theorem dX0_canBeCompared_32 : decode cX0_canBeCompared 32 = .ok (.iconst 1, 1) := by decide +kernel
theorem dX0_canBeCompared_33 : decode cX0_canBeCompared 33 = .ok (.goto 4, 3) := by decide +kernel
theorem dX0_canBeCompared_36 : decode cX0_canBeCompared 36 = .ok (.iconst 0, 1) := by decide +kernel
theorem dX0_canBeCompared_37 : decode cX0_canBeCompared 37 = .ok (.ireturn, 1) := by decide +kernel
theorem dX0_excessOf_0 : decode cX0_excessOf 0 = .ok (.aload_n 0, 1) := by decide +kernel
theorem dX0_excessOf_1 : decode cX0_excessOf 1 = .ok (.iload_n 1, 1) := by decide +kernel
theorem dX0_excessOf_2 : decode cX0_excessOf 2 = .ok (.invokevirtual 107, 3) := by decide +kernel
theorem dX0_excessOf_5 : decode cX0_excessOf 5 = .ok (.aload_n 0, 1) := by decide +kernel
theorem dX0_excessOf_6 : decode cX0_excessOf 6 = .ok (.aload_n 0, 1) := by decide +kernel
theorem dX0_excessOf_7 : decode cX0_excessOf 7 = .ok (.iload_n 1, 1) := by decide +kernel
theorem dX0_excessOf_8 : decode cX0_excessOf 8 = .ok (.invokevirtual 104, 3) := by decide +kernel
theorem dX0_excessOf_11 : decode cX0_excessOf 11 = .ok (.invokevirtual 101, 3) := by decide +kernel
theorem dX0_excessOf_14 : decode cX0_excessOf 14 = .ok (.isub, 1) := by decide +kernel
theorem dX0_excessOf_15 : decode cX0_excessOf 15 = .ok (.ireturn, 1) := by decide +kernel
theorem dX0_tops_0 : decode cX0_tops 0 = .ok (.iconst 0, 1) := by decide +kernel
theorem dX0_tops_1 : decode cX0_tops 1 = .ok (.istore_n 1, 1) := by decide +kernel
theorem dX0_tops_2 : decode cX0_tops 2 = .ok (.iconst 0, 1) := by decide +kernel
theorem dX0_tops_3 : decode cX0_tops 3 = .ok (.istore_n 2, 1) := by decide +kernel
theorem dX0_tops_4 : decode cX0_tops 4 = .ok (.iload_n 2, 1) := by decide +kernel
theorem dX0_tops_5 : decode cX0_tops 5 = .ok (.aload_n 0, 1) := by decide +kernel
theorem dX0_tops_6 : decode cX0_tops 6 = .ok (.invokevirtual 29, 3) := by decide +kernel
theorem dX0_tops_9 : decode cX0_tops 9 = .ok (.if_icmp .ge 25, 3) := by decide +kernel
theorem dX0_tops_12 : decode cX0_tops 12 = .ok (.iload_n 1, 1) := by decide +kernel
theorem dX0_tops_13 : decode cX0_tops 13 = .ok (.aload_n 0, 1) := by decide +kernel
theorem dX0_tops_14 : decode cX0_tops 14 = .ok (.iload_n 2, 1) := by decide +kernel
theorem dX0_tops_15 : decode cX0_tops 15 = .ok (.invokevirtual 86, 3) := by decide +kernel
theorem dX0_tops_18 : decode cX0_tops 18 = .ok (.ifCond .eq 7, 3) := by decide +kernel
theorem dX0_tops_21 : decode cX0_tops 21 = .ok (.iconst 1, 1) := by decide +kernel
theorem dX0_tops_22 : decode cX0_tops 22 = .ok (.goto 4, 3) := by decide +kernel
theorem dX0_tops_25 : decode cX0_tops 25 = .ok (.iconst 0, 1) := by decide +kernel
theorem dX0_tops_26 : decode cX0_tops 26 = .ok (.iadd, 1) := by decide +kernel
theorem dX0_tops_27 : decode cX0_tops 27 = .ok (.istore_n 1, 1) := by decide +kernel
theorem dX0_tops_28 : decode cX0_tops 28 = .ok (.iinc 2 1, 3) := by decide +kernel
theorem dX0_tops_31 : decode cX0_tops 31 = .ok (.goto (-27), 3) := by decide +kernel
theorem dX0_tops_34 : decode cX0_tops 34 = .ok (.iload_n 1, 1) := by decide +kernel
theorem dX0_tops_35 : decode cX0_tops 35 = .ok (.ireturn, 1) := by decide +kernel
theorem dX0_wellKnotted_0 : decode cX0_wellKnotted 0 = .ok (.iconst 0, 1) := by decide +kernel
theorem dX0_wellKnotted_1 : decode cX0_wellKnotted 1 = .ok (.istore_n 1, 1) := by decide +kernel
theorem dX0_wellKnotted_2 : decode cX0_wellKnotted 2 = .ok (.iconst 0, 1) := by decide +kernel
theorem dX0_wellKnotted_3 : decode cX0_wellKnotted 3 = .ok (.istore_n 2, 1) := by decide +kernel
theorem dX0_wellKnotted_4 : decode cX0_wellKnotted 4 = .ok (.iload_n 2, 1) := by decide +kernel
theorem dX0_wellKnotted_5 : decode cX0_wellKnotted 5 = .ok (.aload_n 0, 1) := by decide +kernel
theorem dX0_wellKnotted_6 : decode cX0_wellKnotted 6 = .ok (.invokevirtual 29, 3) := by decide +kernel
theorem dX0_wellKnotted_9 : decode cX0_wellKnotted 9 = .ok (.if_icmp .ge 27, 3) := by decide +kernel
theorem dX0_wellKnotted_12 : decode cX0_wellKnotted 12 = .ok (.iload_n 1, 1) := by decide +kernel
theorem dX0_wellKnotted_13 : decode cX0_wellKnotted 13 = .ok (.aload_n 0, 1) := by decide +kernel
theorem dX0_wellKnotted_14 : decode cX0_wellKnotted 14 = .ok (.iload_n 2, 1) := by decide +kernel
theorem dX0_wellKnotted_15 : decode cX0_wellKnotted 15 = .ok (.invokevirtual 62, 3) := by decide +kernel
theorem dX0_wellKnotted_18 : decode cX0_wellKnotted 18 = .ok (.bipush (-4), 2) := by decide +kernel
theorem dX0_wellKnotted_20 : decode cX0_wellKnotted 20 = .ok (.if_icmp .eq 7, 3) := by decide +kernel
theorem dX0_wellKnotted_23 : decode cX0_wellKnotted 23 = .ok (.iconst 1, 1) := by decide +kernel
theorem dX0_wellKnotted_24 : decode cX0_wellKnotted 24 = .ok (.goto 4, 3) := by decide +kernel
theorem dX0_wellKnotted_27 : decode cX0_wellKnotted 27 = .ok (.iconst 0, 1) := by decide +kernel
theorem dX0_wellKnotted_28 : decode cX0_wellKnotted 28 = .ok (.iadd, 1) := by decide +kernel
theorem dX0_wellKnotted_29 : decode cX0_wellKnotted 29 = .ok (.istore_n 1, 1) := by decide +kernel
theorem dX0_wellKnotted_30 : decode cX0_wellKnotted 30 = .ok (.iinc 2 1, 3) := by decide +kernel
theorem dX0_wellKnotted_33 : decode cX0_wellKnotted 33 = .ok (.goto (-29), 3) := by decide +kernel
theorem dX0_wellKnotted_36 : decode cX0_wellKnotted 36 = .ok (.iload_n 1, 1) := by decide +kernel
theorem dX0_wellKnotted_37 : decode cX0_wellKnotted 37 = .ok (.ireturn, 1) := by decide +kernel
theorem dX0_allKnots_0 : decode cX0_allKnots 0 = .ok (.iconst 0, 1) := by decide +kernel
theorem dX0_allKnots_1 : decode cX0_allKnots 1 = .ok (.istore_n 1, 1) := by decide +kernel
theorem dX0_allKnots_2 : decode cX0_allKnots 2 = .ok (.iconst 0, 1) := by decide +kernel
theorem dX0_allKnots_3 : decode cX0_allKnots 3 = .ok (.istore_n 2, 1) := by decide +kernel
theorem dX0_allKnots_4 : decode cX0_allKnots 4 = .ok (.iload_n 2, 1) := by decide +kernel
theorem dX0_allKnots_5 : decode cX0_allKnots 5 = .ok (.aload_n 0, 1) := by decide +kernel
theorem dX0_allKnots_6 : decode cX0_allKnots 6 = .ok (.invokevirtual 29, 3) := by decide +kernel
theorem dX0_allKnots_9 : decode cX0_allKnots 9 = .ok (.if_icmp .ge 17, 3) := by decide +kernel
theorem dX0_allKnots_12 : decode cX0_allKnots 12 = .ok (.iload_n 1, 1) := by decide +kernel
theorem dX0_allKnots_13 : decode cX0_allKnots 13 = .ok (.aload_n 0, 1) := by decide +kernel
theorem dX0_allKnots_14 : decode cX0_allKnots 14 = .ok (.iload_n 2, 1) := by decide +kernel
theorem dX0_allKnots_15 : decode cX0_allKnots 15 = .ok (.invokevirtual 110, 3) := by decide +kernel
theorem dX0_allKnots_18 : decode cX0_allKnots 18 = .ok (.iadd, 1) := by decide +kernel
theorem dX0_allKnots_19 : decode cX0_allKnots 19 = .ok (.istore_n 1, 1) := by decide +kernel
theorem dX0_allKnots_20 : decode cX0_allKnots 20 = .ok (.iinc 2 1, 3) := by decide +kernel
theorem dX0_allKnots_23 : decode cX0_allKnots 23 = .ok (.goto (-19), 3) := by decide +kernel
theorem dX0_allKnots_26 : decode cX0_allKnots 26 = .ok (.iload_n 1, 1) := by decide +kernel
theorem dX0_allKnots_27 : decode cX0_allKnots 27 = .ok (.ireturn, 1) := by decide +kernel
theorem dX0_addGroup_0 : decode cX0_addGroup 0 = .ok (.aload_n 0, 1) := by decide +kernel
theorem dX0_addGroup_1 : decode cX0_addGroup 1 = .ok (.getfield 11, 3) := by decide +kernel
theorem dX0_addGroup_4 : decode cX0_addGroup 4 = .ok (.sipush 177, 3) := by decide +kernel
theorem dX0_addGroup_7 : decode cX0_addGroup 7 = .ok (.aload_n 0, 1) := by decide +kernel
theorem dX0_addGroup_8 : decode cX0_addGroup 8 = .ok (.invokevirtual 41, 3) := by decide +kernel
theorem dX0_addGroup_11 : decode cX0_addGroup 11 = .ok (.iconst 1, 1) := by decide +kernel
theorem dX0_addGroup_12 : decode cX0_addGroup 12 = .ok (.iadd, 1) := by decide +kernel
theorem dX0_addGroup_13 : decode cX0_addGroup 13 = .ok (.invokestatic 44, 3) := by decide +kernel
theorem dX0_addGroup_16 : decode cX0_addGroup 16 = .ok (.return_, 1) := by decide +kernel
theorem dX0_addCord_0 : decode cX0_addCord 0 = .ok (.aload_n 0, 1) := by decide +kernel
theorem dX0_addCord_1 : decode cX0_addCord 1 = .ok (.getfield 11, 3) := by decide +kernel
theorem dX0_addCord_4 : decode cX0_addCord 4 = .ok (.sipush 176, 3) := by decide +kernel
theorem dX0_addCord_7 : decode cX0_addCord 7 = .ok (.invokestatic 25, 3) := by decide +kernel
theorem dX0_addCord_10 : decode cX0_addCord 10 = .ok (.istore 5, 2) := by decide +kernel
theorem dX0_addCord_12 : decode cX0_addCord 12 = .ok (.aload_n 0, 1) := by decide +kernel
theorem dX0_addCord_13 : decode cX0_addCord 13 = .ok (.getfield 11, 3) := by decide +kernel
theorem dX0_addCord_16 : decode cX0_addCord 16 = .ok (.iconst 0, 1) := by decide +kernel
theorem dX0_addCord_17 : decode cX0_addCord 17 = .ok (.iload 5, 2) := by decide +kernel
theorem dX0_addCord_19 : decode cX0_addCord 19 = .ok (.iadd, 1) := by decide +kernel
theorem dX0_addCord_20 : decode cX0_addCord 20 = .ok (.iload_n 1, 1) := by decide +kernel
theorem dX0_addCord_21 : decode cX0_addCord 21 = .ok (.invokestatic 44, 3) := by decide +kernel
theorem dX0_addCord_24 : decode cX0_addCord 24 = .ok (.aload_n 0, 1) := by decide +kernel
theorem dX0_addCord_25 : decode cX0_addCord 25 = .ok (.getfield 11, 3) := by decide +kernel
theorem dX0_addCord_28 : decode cX0_addCord 28 = .ok (.bipush 16, 2) := by decide +kernel
theorem dX0_addCord_30 : decode cX0_addCord 30 = .ok (.iload 5, 2) := by decide +kernel
theorem dX0_addCord_32 : decode cX0_addCord 32 = .ok (.iadd, 1) := by decide +kernel
theorem dX0_addCord_33 : decode cX0_addCord 33 = .ok (.iconst 0, 1) := by decide +kernel
theorem dX0_addCord_34 : decode cX0_addCord 34 = .ok (.invokestatic 44, 3) := by decide +kernel
theorem dX0_addCord_37 : decode cX0_addCord 37 = .ok (.aload_n 0, 1) := by decide +kernel
theorem dX0_addCord_38 : decode cX0_addCord 38 = .ok (.getfield 11, 3) := by decide +kernel
theorem dX0_addCord_41 : decode cX0_addCord 41 = .ok (.bipush 32, 2) := by decide +kernel
theorem dX0_addCord_43 : decode cX0_addCord 43 = .ok (.iload 5, 2) := by decide +kernel
theorem dX0_addCord_45 : decode cX0_addCord 45 = .ok (.iadd, 1) := by decide +kernel
theorem dX0_addCord_46 : decode cX0_addCord 46 = .ok (.iload_n 2, 1) := by decide +kernel
theorem dX0_addCord_47 : decode cX0_addCord 47 = .ok (.invokestatic 44, 3) := by decide +kernel
theorem dX0_addCord_50 : decode cX0_addCord 50 = .ok (.aload_n 0, 1) := by decide +kernel
theorem dX0_addCord_51 : decode cX0_addCord 51 = .ok (.getfield 11, 3) := by decide +kernel
theorem dX0_addCord_54 : decode cX0_addCord 54 = .ok (.bipush 48, 2) := by decide +kernel
theorem dX0_addCord_56 : decode cX0_addCord 56 = .ok (.iload 5, 2) := by decide +kernel
theorem dX0_addCord_58 : decode cX0_addCord 58 = .ok (.iadd, 1) := by decide +kernel
theorem dX0_addCord_59 : decode cX0_addCord 59 = .ok (.iload_n 3, 1) := by decide +kernel
theorem dX0_addCord_60 : decode cX0_addCord 60 = .ok (.invokestatic 44, 3) := by decide +kernel
theorem dX0_addCord_63 : decode cX0_addCord 63 = .ok (.aload_n 0, 1) := by decide +kernel
theorem dX0_addCord_64 : decode cX0_addCord 64 = .ok (.getfield 11, 3) := by decide +kernel
theorem dX0_addCord_67 : decode cX0_addCord 67 = .ok (.bipush 64, 2) := by decide +kernel
theorem dX0_addCord_69 : decode cX0_addCord 69 = .ok (.iload 5, 2) := by decide +kernel
theorem dX0_addCord_71 : decode cX0_addCord 71 = .ok (.iadd, 1) := by decide +kernel
theorem dX0_addCord_72 : decode cX0_addCord 72 = .ok (.iload 4, 2) := by decide +kernel
theorem dX0_addCord_74 : decode cX0_addCord 74 = .ok (.ifCond .eq 7, 3) := by decide +kernel
theorem dX0_addCord_77 : decode cX0_addCord 77 = .ok (.iconst 1, 1) := by decide +kernel
theorem dX0_addCord_78 : decode cX0_addCord 78 = .ok (.goto 4, 3) := by decide +kernel
theorem dX0_addCord_81 : decode cX0_addCord 81 = .ok (.iconst 0, 1) := by decide +kernel
theorem dX0_addCord_82 : decode cX0_addCord 82 = .ok (.invokestatic 44, 3) := by decide +kernel
theorem dX0_addCord_85 : decode cX0_addCord 85 = .ok (.aload_n 0, 1) := by decide +kernel
theorem dX0_addCord_86 : decode cX0_addCord 86 = .ok (.getfield 11, 3) := by decide +kernel
theorem dX0_addCord_89 : decode cX0_addCord 89 = .ok (.bipush 80, 2) := by decide +kernel
theorem dX0_addCord_91 : decode cX0_addCord 91 = .ok (.iload 5, 2) := by decide +kernel
theorem dX0_addCord_93 : decode cX0_addCord 93 = .ok (.iadd, 1) := by decide +kernel
theorem dX0_addCord_94 : decode cX0_addCord 94 = .ok (.aload_n 0, 1) := by decide +kernel
theorem dX0_addCord_95 : decode cX0_addCord 95 = .ok (.getfield 11, 3) := by decide +kernel
theorem dX0_addCord_98 : decode cX0_addCord 98 = .ok (.sipush 177, 3) := by decide +kernel
theorem dX0_addCord_101 : decode cX0_addCord 101 = .ok (.invokestatic 25, 3) := by decide +kernel
theorem dX0_addCord_104 : decode cX0_addCord 104 = .ok (.iconst 1, 1) := by decide +kernel
theorem dX0_addCord_105 : decode cX0_addCord 105 = .ok (.isub, 1) := by decide +kernel
theorem dX0_addCord_106 : decode cX0_addCord 106 = .ok (.invokestatic 44, 3) := by decide +kernel
theorem dX0_addCord_109 : decode cX0_addCord 109 = .ok (.iload_n 3, 1) := by decide +kernel
theorem dX0_addCord_110 : decode cX0_addCord 110 = .ok (.ifCond .ne 52, 3) := by decide +kernel
theorem dX0_addCord_113 : decode cX0_addCord 113 = .ok (.iload 4, 2) := by decide +kernel
theorem dX0_addCord_115 : decode cX0_addCord 115 = .ok (.ifCond .ne 47, 3) := by decide +kernel
theorem dX0_addCord_118 : decode cX0_addCord 118 = .ok (.aload_n 0, 1) := by decide +kernel
theorem dX0_addCord_119 : decode cX0_addCord 119 = .ok (.getfield 11, 3) := by decide +kernel
theorem dX0_addCord_122 : decode cX0_addCord 122 = .ok (.bipush 96, 2) := by decide +kernel
theorem dX0_addCord_124 : decode cX0_addCord 124 = .ok (.aload_n 0, 1) := by decide +kernel
theorem dX0_addCord_125 : decode cX0_addCord 125 = .ok (.getfield 11, 3) := by decide +kernel
theorem dX0_addCord_128 : decode cX0_addCord 128 = .ok (.sipush 178, 3) := by decide +kernel
theorem dX0_addCord_131 : decode cX0_addCord 131 = .ok (.invokestatic 25, 3) := by decide +kernel
theorem dX0_addCord_134 : decode cX0_addCord 134 = .ok (.iadd, 1) := by decide +kernel
theorem dX0_addCord_135 : decode cX0_addCord 135 = .ok (.iload 5, 2) := by decide +kernel
theorem dX0_addCord_137 : decode cX0_addCord 137 = .ok (.invokestatic 44, 3) := by decide +kernel
theorem dX0_addCord_140 : decode cX0_addCord 140 = .ok (.aload_n 0, 1) := by decide +kernel
theorem dX0_addCord_141 : decode cX0_addCord 141 = .ok (.getfield 11, 3) := by decide +kernel
theorem dX0_addCord_144 : decode cX0_addCord 144 = .ok (.sipush 178, 3) := by decide +kernel
theorem dX0_addCord_147 : decode cX0_addCord 147 = .ok (.aload_n 0, 1) := by decide +kernel
theorem dX0_addCord_148 : decode cX0_addCord 148 = .ok (.getfield 11, 3) := by decide +kernel
theorem dX0_addCord_151 : decode cX0_addCord 151 = .ok (.sipush 178, 3) := by decide +kernel
theorem dX0_addCord_154 : decode cX0_addCord 154 = .ok (.invokestatic 25, 3) := by decide +kernel
theorem dX0_addCord_157 : decode cX0_addCord 157 = .ok (.iconst 1, 1) := by decide +kernel
theorem dX0_addCord_158 : decode cX0_addCord 158 = .ok (.iadd, 1) := by decide +kernel
theorem dX0_addCord_159 : decode cX0_addCord 159 = .ok (.invokestatic 44, 3) := by decide +kernel
theorem dX0_addCord_162 : decode cX0_addCord 162 = .ok (.aload_n 0, 1) := by decide +kernel
theorem dX0_addCord_163 : decode cX0_addCord 163 = .ok (.getfield 11, 3) := by decide +kernel
theorem dX0_addCord_166 : decode cX0_addCord 166 = .ok (.sipush 176, 3) := by decide +kernel
theorem dX0_addCord_169 : decode cX0_addCord 169 = .ok (.iload 5, 2) := by decide +kernel
theorem dX0_addCord_171 : decode cX0_addCord 171 = .ok (.iconst 1, 1) := by decide +kernel
theorem dX0_addCord_172 : decode cX0_addCord 172 = .ok (.iadd, 1) := by decide +kernel
theorem dX0_addCord_173 : decode cX0_addCord 173 = .ok (.invokestatic 44, 3) := by decide +kernel
theorem dX0_addCord_176 : decode cX0_addCord 176 = .ok (.return_, 1) := by decide +kernel
theorem dX0_addCluster_0 : decode cX0_addCluster 0 = .ok (.aload_n 0, 1) := by decide +kernel
theorem dX0_addCluster_1 : decode cX0_addCluster 1 = .ok (.getfield 11, 3) := by decide +kernel
theorem dX0_addCluster_4 : decode cX0_addCluster 4 = .ok (.sipush 176, 3) := by decide +kernel
theorem dX0_addCluster_7 : decode cX0_addCluster 7 = .ok (.invokestatic 25, 3) := by decide +kernel
theorem dX0_addCluster_10 : decode cX0_addCluster 10 = .ok (.iconst 1, 1) := by decide +kernel
theorem dX0_addCluster_11 : decode cX0_addCluster 11 = .ok (.isub, 1) := by decide +kernel
theorem dX0_addCluster_12 : decode cX0_addCluster 12 = .ok (.istore_n 2, 1) := by decide +kernel
theorem dX0_addCluster_13 : decode cX0_addCluster 13 = .ok (.bipush 112, 2) := by decide +kernel
theorem dX0_addCluster_15 : decode cX0_addCluster 15 = .ok (.iconst 4, 1) := by decide +kernel
theorem dX0_addCluster_16 : decode cX0_addCluster 16 = .ok (.iload_n 2, 1) := by decide +kernel
theorem dX0_addCluster_17 : decode cX0_addCluster 17 = .ok (.imul, 1) := by decide +kernel
theorem dX0_addCluster_18 : decode cX0_addCluster 18 = .ok (.iadd, 1) := by decide +kernel
theorem dX0_addCluster_19 : decode cX0_addCluster 19 = .ok (.istore_n 3, 1) := by decide +kernel
theorem dX0_addCluster_20 : decode cX0_addCluster 20 = .ok (.aload_n 0, 1) := by decide +kernel
theorem dX0_addCluster_21 : decode cX0_addCluster 21 = .ok (.getfield 11, 3) := by decide +kernel
theorem dX0_addCluster_24 : decode cX0_addCluster 24 = .ok (.bipush 16, 2) := by decide +kernel
theorem dX0_addCluster_26 : decode cX0_addCluster 26 = .ok (.iload_n 2, 1) := by decide +kernel
theorem dX0_addCluster_27 : decode cX0_addCluster 27 = .ok (.iadd, 1) := by decide +kernel
theorem dX0_addCluster_28 : decode cX0_addCluster 28 = .ok (.invokestatic 25, 3) := by decide +kernel
theorem dX0_addCluster_31 : decode cX0_addCluster 31 = .ok (.istore 4, 2) := by decide +kernel
theorem dX0_addCluster_33 : decode cX0_addCluster 33 = .ok (.iload 4, 2) := by decide +kernel
theorem dX0_addCluster_35 : decode cX0_addCluster 35 = .ok (.istore 5, 2) := by decide +kernel
theorem dX0_addCluster_37 : decode cX0_addCluster 37 = .ok (.iload 5, 2) := by decide +kernel
theorem dX0_addCluster_39 : decode cX0_addCluster 39 = .ok (.ifCond .le 33, 3) := by decide +kernel
theorem dX0_addCluster_42 : decode cX0_addCluster 42 = .ok (.aload_n 0, 1) := by decide +kernel
theorem dX0_addCluster_43 : decode cX0_addCluster 43 = .ok (.getfield 11, 3) := by decide +kernel
theorem dX0_addCluster_46 : decode cX0_addCluster 46 = .ok (.iload_n 3, 1) := by decide +kernel
theorem dX0_addCluster_47 : decode cX0_addCluster 47 = .ok (.iload 5, 2) := by decide +kernel
theorem dX0_addCluster_49 : decode cX0_addCluster 49 = .ok (.iadd, 1) := by decide +kernel
theorem dX0_addCluster_50 : decode cX0_addCluster 50 = .ok (.aload_n 0, 1) := by decide +kernel
theorem dX0_addCluster_51 : decode cX0_addCluster 51 = .ok (.getfield 11, 3) := by decide +kernel
theorem dX0_addCluster_54 : decode cX0_addCluster 54 = .ok (.iload_n 3, 1) := by decide +kernel
theorem dX0_addCluster_55 : decode cX0_addCluster 55 = .ok (.iload 5, 2) := by decide +kernel
theorem dX0_addCluster_57 : decode cX0_addCluster 57 = .ok (.iadd, 1) := by decide +kernel
theorem dX0_addCluster_58 : decode cX0_addCluster 58 = .ok (.iconst 1, 1) := by decide +kernel
theorem dX0_addCluster_59 : decode cX0_addCluster 59 = .ok (.isub, 1) := by decide +kernel
theorem dX0_addCluster_60 : decode cX0_addCluster 60 = .ok (.invokestatic 25, 3) := by decide +kernel
theorem dX0_addCluster_63 : decode cX0_addCluster 63 = .ok (.invokestatic 44, 3) := by decide +kernel
theorem dX0_addCluster_66 : decode cX0_addCluster 66 = .ok (.iinc 5 (-1), 3) := by decide +kernel
theorem dX0_addCluster_69 : decode cX0_addCluster 69 = .ok (.goto (-32), 3) := by decide +kernel
theorem dX0_addCluster_72 : decode cX0_addCluster 72 = .ok (.aload_n 0, 1) := by decide +kernel
theorem dX0_addCluster_73 : decode cX0_addCluster 73 = .ok (.getfield 11, 3) := by decide +kernel
theorem dX0_addCluster_76 : decode cX0_addCluster 76 = .ok (.iload_n 3, 1) := by decide +kernel
theorem dX0_addCluster_77 : decode cX0_addCluster 77 = .ok (.iload_n 1, 1) := by decide +kernel
theorem dX0_addCluster_78 : decode cX0_addCluster 78 = .ok (.invokestatic 44, 3) := by decide +kernel
theorem dX0_addCluster_81 : decode cX0_addCluster 81 = .ok (.aload_n 0, 1) := by decide +kernel
theorem dX0_addCluster_82 : decode cX0_addCluster 82 = .ok (.getfield 11, 3) := by decide +kernel
theorem dX0_addCluster_85 : decode cX0_addCluster 85 = .ok (.bipush 16, 2) := by decide +kernel
theorem dX0_addCluster_87 : decode cX0_addCluster 87 = .ok (.iload_n 2, 1) := by decide +kernel
theorem dX0_addCluster_88 : decode cX0_addCluster 88 = .ok (.iadd, 1) := by decide +kernel
theorem dX0_addCluster_89 : decode cX0_addCluster 89 = .ok (.iload 4, 2) := by decide +kernel
theorem dX0_addCluster_91 : decode cX0_addCluster 91 = .ok (.iconst 1, 1) := by decide +kernel
theorem dX0_addCluster_92 : decode cX0_addCluster 92 = .ok (.iadd, 1) := by decide +kernel
theorem dX0_addCluster_93 : decode cX0_addCluster 93 = .ok (.invokestatic 44, 3) := by decide +kernel
theorem dX0_addCluster_96 : decode cX0_addCluster 96 = .ok (.return_, 1) := by decide +kernel
theorem dX1_init_0 : decode cX1_init 0 = .ok (.aload_n 0, 1) := by decide +kernel
theorem dX1_init_1 : decode cX1_init 1 = .ok (.invokespecial 3, 3) := by decide +kernel
theorem dX1_init_4 : decode cX1_init 4 = .ok (.aload_n 0, 1) := by decide +kernel
theorem dX1_init_5 : decode cX1_init 5 = .ok (.new 9, 3) := by decide +kernel
theorem dX1_init_8 : decode cX1_init 8 = .ok (.dup, 1) := by decide +kernel
theorem dX1_init_9 : decode cX1_init 9 = .ok (.invokespecial 11, 3) := by decide +kernel
theorem dX1_init_12 : decode cX1_init 12 = .ok (.putfield 12, 3) := by decide +kernel
theorem dX1_init_15 : decode cX1_init 15 = .ok (.aload_n 0, 1) := by decide +kernel
theorem dX1_init_16 : decode cX1_init 16 = .ok (.iconst 3, 1) := by decide +kernel
theorem dX1_init_17 : decode cX1_init 17 = .ok (.newarray .int, 2) := by decide +kernel
theorem dX1_init_19 : decode cX1_init 19 = .ok (.putfield 18, 3) := by decide +kernel
theorem dX1_init_22 : decode cX1_init 22 = .ok (.return_, 1) := by decide +kernel
theorem dX1_read_0 : decode cX1_read 0 = .ok (.aload_n 0, 1) := by decide +kernel
theorem dX1_read_1 : decode cX1_read 1 = .ok (.getfield 12, 3) := by decide +kernel
theorem dX1_read_4 : decode cX1_read 4 = .ok (.invokevirtual 22, 3) := by decide +kernel
theorem dX1_read_7 : decode cX1_read 7 = .ok (.aload_n 0, 1) := by decide +kernel
theorem dX1_read_8 : decode cX1_read 8 = .ok (.iconst 0, 1) := by decide +kernel
theorem dX1_read_9 : decode cX1_read 9 = .ok (.putfield 25, 3) := by decide +kernel
theorem dX1_read_12 : decode cX1_read 12 = .ok (.aload_n 0, 1) := by decide +kernel
theorem dX1_read_13 : decode cX1_read 13 = .ok (.iconst 0, 1) := by decide +kernel
theorem dX1_read_14 : decode cX1_read 14 = .ok (.putfield 29, 3) := by decide +kernel
theorem dX1_read_17 : decode cX1_read 17 = .ok (.aload_n 0, 1) := by decide +kernel
theorem dX1_read_18 : decode cX1_read 18 = .ok (.iconst 0, 1) := by decide +kernel
theorem dX1_read_19 : decode cX1_read 19 = .ok (.putfield 32, 3) := by decide +kernel
theorem dX1_read_22 : decode cX1_read 22 = .ok (.iconst 0, 1) := by decide +kernel
theorem dX1_read_23 : decode cX1_read 23 = .ok (.istore_n 3, 1) := by decide +kernel
theorem dX1_read_24 : decode cX1_read 24 = .ok (.iload_n 3, 1) := by decide +kernel
theorem dX1_read_25 : decode cX1_read 25 = .ok (.iload_n 2, 1) := by decide +kernel
theorem dX1_read_26 : decode cX1_read 26 = .ok (.if_icmp .ge 27, 3) := by decide +kernel
theorem dX1_read_29 : decode cX1_read 29 = .ok (.iload_n 3, 1) := by decide +kernel
theorem dX1_read_30 : decode cX1_read 30 = .ok (.aload_n 1, 1) := by decide +kernel
theorem dX1_read_31 : decode cX1_read 31 = .ok (.arraylength, 1) := by decide +kernel
theorem dX1_read_32 : decode cX1_read 32 = .ok (.if_icmp .ge 21, 3) := by decide +kernel
theorem dX1_read_35 : decode cX1_read 35 = .ok (.aload_n 0, 1) := by decide +kernel
theorem dX1_read_36 : decode cX1_read 36 = .ok (.aload_n 1, 1) := by decide +kernel
theorem dX1_read_37 : decode cX1_read 37 = .ok (.iload_n 3, 1) := by decide +kernel
theorem dX1_read_38 : decode cX1_read 38 = .ok (.caload, 1) := by decide +kernel
theorem dX1_read_39 : decode cX1_read 39 = .ok (.invokevirtual 36, 3) := by decide +kernel
theorem dX1_read_42 : decode cX1_read 42 = .ok (.ifCond .ne 5, 3) := by decide +kernel
theorem dX1_read_45 : decode cX1_read 45 = .ok (.iload_n 3, 1) := by decide +kernel
theorem dX1_read_46 : decode cX1_read 46 = .ok (.ireturn, 1) := by decide +kernel
theorem dX1_read_47 : decode cX1_read 47 = .ok (.iinc 3 1, 3) := by decide +kernel
theorem dX1_read_50 : decode cX1_read 50 = .ok (.goto (-26), 3) := by decide +kernel
theorem dX1_read_53 : decode cX1_read 53 = .ok (.aload_n 0, 1) := by decide +kernel
theorem dX1_read_54 : decode cX1_read 54 = .ok (.getfield 25, 3) := by decide +kernel
theorem dX1_read_57 : decode cX1_read 57 = .ok (.ifCond .ne 8, 3) := by decide +kernel
theorem dX1_read_60 : decode cX1_read 60 = .ok (.bipush (-4), 2) := by decide +kernel
theorem dX1_read_62 : decode cX1_read 62 = .ok (.goto 4, 3) := by decide +kernel
theorem dX1_read_65 : decode cX1_read 65 = .ok (.iload_n 2, 1) := by decide +kernel
theorem dX1_read_66 : decode cX1_read 66 = .ok (.ireturn, 1) := by decide +kernel
theorem dX1_takes_0 : decode cX1_takes 0 = .ok (.aload_n 0, 1) := by decide +kernel
theorem dX1_takes_1 : decode cX1_takes 1 = .ok (.getfield 25, 3) := by decide +kernel
theorem dX1_takes_4 : decode cX1_takes 4 = .ok (.tableswitch 121 0 5 #[40, 59, 65, 71, 81, 91], 40) := by decide +kernel
theorem dX1_takes_44 : decode cX1_takes 44 = .ok (.iload_n 1, 1) := by decide +kernel
theorem dX1_takes_45 : decode cX1_takes 45 = .ok (.bipush 91, 2) := by decide +kernel
theorem dX1_takes_47 : decode cX1_takes 47 = .ok (.if_icmp .ne 14, 3) := by decide +kernel
theorem dX1_takes_50 : decode cX1_takes 50 = .ok (.aload_n 0, 1) := by decide +kernel
theorem dX1_takes_51 : decode cX1_takes 51 = .ok (.invokevirtual 40, 3) := by decide +kernel
theorem dX1_takes_54 : decode cX1_takes 54 = .ok (.ifCond .eq 7, 3) := by decide +kernel
theorem dX1_takes_57 : decode cX1_takes 57 = .ok (.iconst 1, 1) := by decide +kernel
theorem dX1_takes_58 : decode cX1_takes 58 = .ok (.goto 4, 3) := by decide +kernel
theorem dX1_takes_61 : decode cX1_takes 61 = .ok (.iconst 0, 1) := by decide +kernel
theorem dX1_takes_62 : decode cX1_takes 62 = .ok (.ireturn, 1) := by decide +kernel
theorem dX1_takes_63 : decode cX1_takes 63 = .ok (.aload_n 0, 1) := by decide +kernel
theorem dX1_takes_64 : decode cX1_takes 64 = .ok (.iload_n 1, 1) := by decide +kernel
theorem dX1_takes_65 : decode cX1_takes 65 = .ok (.invokevirtual 44, 3) := by decide +kernel
theorem dX1_takes_68 : decode cX1_takes 68 = .ok (.ireturn, 1) := by decide +kernel
theorem dX1_takes_69 : decode cX1_takes 69 = .ok (.aload_n 0, 1) := by decide +kernel
theorem dX1_takes_70 : decode cX1_takes 70 = .ok (.iload_n 1, 1) := by decide +kernel
theorem dX1_takes_71 : decode cX1_takes 71 = .ok (.invokevirtual 47, 3) := by decide +kernel
theorem dX1_takes_74 : decode cX1_takes 74 = .ok (.ireturn, 1) := by decide +kernel
theorem dX1_takes_75 : decode cX1_takes 75 = .ok (.aload_n 0, 1) := by decide +kernel
theorem dX1_takes_76 : decode cX1_takes 76 = .ok (.iconst 1, 1) := by decide +kernel
theorem dX1_takes_77 : decode cX1_takes 77 = .ok (.iload_n 1, 1) := by decide +kernel
theorem dX1_takes_78 : decode cX1_takes 78 = .ok (.bipush 48, 2) := by decide +kernel
theorem dX1_takes_80 : decode cX1_takes 80 = .ok (.isub, 1) := by decide +kernel
theorem dX1_takes_81 : decode cX1_takes 81 = .ok (.invokevirtual 50, 3) := by decide +kernel
theorem dX1_takes_84 : decode cX1_takes 84 = .ok (.ireturn, 1) := by decide +kernel
theorem dX1_takes_85 : decode cX1_takes 85 = .ok (.aload_n 0, 1) := by decide +kernel
theorem dX1_takes_86 : decode cX1_takes 86 = .ok (.iconst 2, 1) := by decide +kernel
theorem dX1_takes_87 : decode cX1_takes 87 = .ok (.iload_n 1, 1) := by decide +kernel
theorem dX1_takes_88 : decode cX1_takes 88 = .ok (.bipush 48, 2) := by decide +kernel
theorem dX1_takes_90 : decode cX1_takes 90 = .ok (.isub, 1) := by decide +kernel
theorem dX1_takes_91 : decode cX1_takes 91 = .ok (.invokevirtual 50, 3) := by decide +kernel
theorem dX1_takes_94 : decode cX1_takes 94 = .ok (.ireturn, 1) := by decide +kernel
theorem dX1_takes_95 : decode cX1_takes 95 = .ok (.aload_n 0, 1) := by decide +kernel
theorem dX1_takes_96 : decode cX1_takes 96 = .ok (.iload_n 1, 1) := by decide +kernel
theorem dX1_takes_97 : decode cX1_takes 97 = .ok (.invokevirtual 47, 3) := by decide +kernel
theorem dX1_takes_100 : decode cX1_takes 100 = .ok (.ifCond .ne 19, 3) := by decide +kernel
theorem dX1_takes_103 : decode cX1_takes 103 = .ok (.aload_n 0, 1) := by decide +kernel
theorem dX1_takes_104 : decode cX1_takes 104 = .ok (.iload_n 1, 1) := by decide +kernel
theorem dX1_takes_105 : decode cX1_takes 105 = .ok (.invokevirtual 54, 3) := by decide +kernel
theorem dX1_takes_108 : decode cX1_takes 108 = .ok (.ifCond .ne 11, 3) := by decide +kernel
theorem dX1_takes_111 : decode cX1_takes 111 = .ok (.aload_n 0, 1) := by decide +kernel
theorem dX1_takes_112 : decode cX1_takes 112 = .ok (.iload_n 1, 1) := by decide +kernel
theorem dX1_takes_113 : decode cX1_takes 113 = .ok (.invokevirtual 57, 3) := by decide +kernel
theorem dX1_takes_116 : decode cX1_takes 116 = .ok (.ifCond .eq 7, 3) := by decide +kernel
theorem dX1_takes_119 : decode cX1_takes 119 = .ok (.iconst 1, 1) := by decide +kernel
theorem dX1_takes_120 : decode cX1_takes 120 = .ok (.goto 4, 3) := by decide +kernel
theorem dX1_takes_123 : decode cX1_takes 123 = .ok (.iconst 0, 1) := by decide +kernel
theorem dX1_takes_124 : decode cX1_takes 124 = .ok (.ireturn, 1) := by decide +kernel
theorem dX1_takes_125 : decode cX1_takes 125 = .ok (.aload_n 0, 1) := by decide +kernel
theorem dX1_takes_126 : decode cX1_takes 126 = .ok (.iload_n 1, 1) := by decide +kernel
theorem dX1_takes_127 : decode cX1_takes 127 = .ok (.invokevirtual 57, 3) := by decide +kernel
theorem dX1_takes_130 : decode cX1_takes 130 = .ok (.ireturn, 1) := by decide +kernel
theorem dX1_opensGroup_0 : decode cX1_opensGroup 0 = .ok (.aload_n 0, 1) := by decide +kernel
theorem dX1_opensGroup_1 : decode cX1_opensGroup 1 = .ok (.getfield 12, 3) := by decide +kernel
theorem dX1_opensGroup_4 : decode cX1_opensGroup 4 = .ok (.invokevirtual 60, 3) := by decide +kernel
theorem dX1_opensGroup_7 : decode cX1_opensGroup 7 = .ok (.iconst 5, 1) := by decide +kernel
theorem dX1_opensGroup_8 : decode cX1_opensGroup 8 = .ok (.if_icmp .lt 5, 3) := by decide +kernel
theorem dX1_opensGroup_11 : decode cX1_opensGroup 11 = .ok (.iconst 0, 1) := by decide +kernel
theorem dX1_opensGroup_12 : decode cX1_opensGroup 12 = .ok (.ireturn, 1) := by decide +kernel
theorem dX1_opensGroup_13 : decode cX1_opensGroup 13 = .ok (.aload_n 0, 1) := by decide +kernel
theorem dX1_opensGroup_14 : decode cX1_opensGroup 14 = .ok (.getfield 12, 3) := by decide +kernel
theorem dX1_opensGroup_17 : decode cX1_opensGroup 17 = .ok (.invokevirtual 64, 3) := by decide +kernel
theorem dX1_opensGroup_20 : decode cX1_opensGroup 20 = .ok (.aload_n 0, 1) := by decide +kernel
theorem dX1_opensGroup_21 : decode cX1_opensGroup 21 = .ok (.iconst 0, 1) := by decide +kernel
theorem dX1_opensGroup_22 : decode cX1_opensGroup 22 = .ok (.putfield 32, 3) := by decide +kernel
theorem dX1_opensGroup_25 : decode cX1_opensGroup 25 = .ok (.aload_n 0, 1) := by decide +kernel
theorem dX1_opensGroup_26 : decode cX1_opensGroup 26 = .ok (.iconst 1, 1) := by decide +kernel
theorem dX1_opensGroup_27 : decode cX1_opensGroup 27 = .ok (.putfield 25, 3) := by decide +kernel
theorem dX1_opensGroup_30 : decode cX1_opensGroup 30 = .ok (.iconst 1, 1) := by decide +kernel
theorem dX1_opensGroup_31 : decode cX1_opensGroup 31 = .ok (.ireturn, 1) := by decide +kernel
theorem dX1_opensCord_0 : decode cX1_opensCord 0 = .ok (.iload_n 1, 1) := by decide +kernel
theorem dX1_opensCord_1 : decode cX1_opensCord 1 = .ok (.bipush 48, 2) := by decide +kernel
theorem dX1_opensCord_3 : decode cX1_opensCord 3 = .ok (.isub, 1) := by decide +kernel
theorem dX1_opensCord_4 : decode cX1_opensCord 4 = .ok (.istore_n 2, 1) := by decide +kernel
theorem dX1_opensCord_5 : decode cX1_opensCord 5 = .ok (.iload_n 2, 1) := by decide +kernel
theorem dX1_opensCord_6 : decode cX1_opensCord 6 = .ok (.invokestatic 67, 3) := by decide +kernel
theorem dX1_opensCord_9 : decode cX1_opensCord 9 = .ok (.ifCond .eq 15, 3) := by decide +kernel
theorem dX1_opensCord_12 : decode cX1_opensCord 12 = .ok (.aload_n 0, 1) := by decide +kernel
theorem dX1_opensCord_13 : decode cX1_opensCord 13 = .ok (.getfield 12, 3) := by decide +kernel
theorem dX1_opensCord_16 : decode cX1_opensCord 16 = .ok (.invokevirtual 71, 3) := by decide +kernel
theorem dX1_opensCord_19 : decode cX1_opensCord 19 = .ok (.bipush 16, 2) := by decide +kernel
theorem dX1_opensCord_21 : decode cX1_opensCord 21 = .ok (.if_icmp .lt 5, 3) := by decide +kernel
theorem dX1_opensCord_24 : decode cX1_opensCord 24 = .ok (.iconst 0, 1) := by decide +kernel
theorem dX1_opensCord_25 : decode cX1_opensCord 25 = .ok (.ireturn, 1) := by decide +kernel
theorem dX1_opensCord_26 : decode cX1_opensCord 26 = .ok (.aload_n 0, 1) := by decide +kernel
theorem dX1_opensCord_27 : decode cX1_opensCord 27 = .ok (.getfield 18, 3) := by decide +kernel
theorem dX1_opensCord_30 : decode cX1_opensCord 30 = .ok (.aload_n 0, 1) := by decide +kernel
theorem dX1_opensCord_31 : decode cX1_opensCord 31 = .ok (.getfield 29, 3) := by decide +kernel
theorem dX1_opensCord_34 : decode cX1_opensCord 34 = .ok (.aload_n 0, 1) := by decide +kernel
theorem dX1_opensCord_35 : decode cX1_opensCord 35 = .ok (.getfield 12, 3) := by decide +kernel
theorem dX1_opensCord_38 : decode cX1_opensCord 38 = .ok (.invokevirtual 71, 3) := by decide +kernel
theorem dX1_opensCord_41 : decode cX1_opensCord 41 = .ok (.invokestatic 74, 3) := by decide +kernel
theorem dX1_opensCord_44 : decode cX1_opensCord 44 = .ok (.aload_n 0, 1) := by decide +kernel
theorem dX1_opensCord_45 : decode cX1_opensCord 45 = .ok (.getfield 12, 3) := by decide +kernel
theorem dX1_opensCord_48 : decode cX1_opensCord 48 = .ok (.iload_n 2, 1) := by decide +kernel
theorem dX1_opensCord_49 : decode cX1_opensCord 49 = .ok (.aload_n 0, 1) := by decide +kernel
theorem dX1_opensCord_50 : decode cX1_opensCord 50 = .ok (.getfield 29, 3) := by decide +kernel
theorem dX1_opensCord_53 : decode cX1_opensCord 53 = .ok (.ifCond .ne 8, 3) := by decide +kernel
theorem dX1_opensCord_56 : decode cX1_opensCord 56 = .ok (.bipush (-4), 2) := by decide +kernel
theorem dX1_opensCord_58 : decode cX1_opensCord 58 = .ok (.goto 16, 3) := by decide +kernel
theorem dX1_opensCord_61 : decode cX1_opensCord 61 = .ok (.aload_n 0, 1) := by decide +kernel
theorem dX1_opensCord_62 : decode cX1_opensCord 62 = .ok (.getfield 18, 3) := by decide +kernel
theorem dX1_opensCord_65 : decode cX1_opensCord 65 = .ok (.aload_n 0, 1) := by decide +kernel
theorem dX1_opensCord_66 : decode cX1_opensCord 66 = .ok (.getfield 29, 3) := by decide +kernel
theorem dX1_opensCord_69 : decode cX1_opensCord 69 = .ok (.iconst 1, 1) := by decide +kernel
theorem dX1_opensCord_70 : decode cX1_opensCord 70 = .ok (.isub, 1) := by decide +kernel
theorem dX1_opensCord_71 : decode cX1_opensCord 71 = .ok (.invokestatic 78, 3) := by decide +kernel
theorem dX1_opensCord_74 : decode cX1_opensCord 74 = .ok (.aload_n 0, 1) := by decide +kernel
theorem dX1_opensCord_75 : decode cX1_opensCord 75 = .ok (.getfield 29, 3) := by decide +kernel
theorem dX1_opensCord_78 : decode cX1_opensCord 78 = .ok (.aload_n 0, 1) := by decide +kernel
theorem dX1_opensCord_79 : decode cX1_opensCord 79 = .ok (.getfield 29, 3) := by decide +kernel
theorem dX1_opensCord_82 : decode cX1_opensCord 82 = .ok (.ifCond .ne 14, 3) := by decide +kernel
theorem dX1_opensCord_85 : decode cX1_opensCord 85 = .ok (.aload_n 0, 1) := by decide +kernel
theorem dX1_opensCord_86 : decode cX1_opensCord 86 = .ok (.getfield 32, 3) := by decide +kernel
theorem dX1_opensCord_89 : decode cX1_opensCord 89 = .ok (.ifCond .eq 7, 3) := by decide +kernel
theorem dX1_opensCord_92 : decode cX1_opensCord 92 = .ok (.iconst 1, 1) := by decide +kernel
theorem dX1_opensCord_93 : decode cX1_opensCord 93 = .ok (.goto 4, 3) := by decide +kernel
theorem dX1_opensCord_96 : decode cX1_opensCord 96 = .ok (.iconst 0, 1) := by decide +kernel
theorem dX1_opensCord_97 : decode cX1_opensCord 97 = .ok (.invokevirtual 82, 3) := by decide +kernel
theorem dX1_opensCord_100 : decode cX1_opensCord 100 = .ok (.aload_n 0, 1) := by decide +kernel
theorem dX1_opensCord_101 : decode cX1_opensCord 101 = .ok (.iconst 2, 1) := by decide +kernel
theorem dX1_opensCord_102 : decode cX1_opensCord 102 = .ok (.putfield 25, 3) := by decide +kernel
theorem dX1_opensCord_105 : decode cX1_opensCord 105 = .ok (.iconst 1, 1) := by decide +kernel
theorem dX1_opensCord_106 : decode cX1_opensCord 106 = .ok (.ireturn, 1) := by decide +kernel
theorem dX1_opensCluster_0 : decode cX1_opensCluster 0 = .ok (.aload_n 0, 1) := by decide +kernel
theorem dX1_opensCluster_1 : decode cX1_opensCluster 1 = .ok (.getfield 12, 3) := by decide +kernel
theorem dX1_opensCluster_4 : decode cX1_opensCluster 4 = .ok (.aload_n 0, 1) := by decide +kernel
theorem dX1_opensCluster_5 : decode cX1_opensCluster 5 = .ok (.getfield 12, 3) := by decide +kernel
theorem dX1_opensCluster_8 : decode cX1_opensCluster 8 = .ok (.invokevirtual 71, 3) := by decide +kernel
theorem dX1_opensCluster_11 : decode cX1_opensCluster 11 = .ok (.iconst 1, 1) := by decide +kernel
theorem dX1_opensCluster_12 : decode cX1_opensCluster 12 = .ok (.isub, 1) := by decide +kernel
theorem dX1_opensCluster_13 : decode cX1_opensCluster 13 = .ok (.invokevirtual 86, 3) := by decide +kernel
theorem dX1_opensCluster_16 : decode cX1_opensCluster 16 = .ok (.iconst 4, 1) := by decide +kernel
theorem dX1_opensCluster_17 : decode cX1_opensCluster 17 = .ok (.if_icmp .lt 5, 3) := by decide +kernel
theorem dX1_opensCluster_20 : decode cX1_opensCluster 20 = .ok (.iconst 0, 1) := by decide +kernel
theorem dX1_opensCluster_21 : decode cX1_opensCluster 21 = .ok (.ireturn, 1) := by decide +kernel
theorem dX1_opensCluster_22 : decode cX1_opensCluster 22 = .ok (.iload_n 1, 1) := by decide +kernel
theorem dX1_opensCluster_23 : decode cX1_opensCluster 23 = .ok (.lookupswitch 69 #[(46, 41), (101, 48), (108, 62), (115, 55)], 41) := by decide +kernel
theorem dX1_opensCluster_64 : decode cX1_opensCluster 64 = .ok (.aload_n 0, 1) := by decide +kernel
theorem dX1_opensCluster_65 : decode cX1_opensCluster 65 = .ok (.iconst 0, 1) := by decide +kernel
theorem dX1_opensCluster_66 : decode cX1_opensCluster 66 = .ok (.iconst 0, 1) := by decide +kernel
theorem dX1_opensCluster_67 : decode cX1_opensCluster 67 = .ok (.invokevirtual 50, 3) := by decide +kernel
theorem dX1_opensCluster_70 : decode cX1_opensCluster 70 = .ok (.ireturn, 1) := by decide +kernel
theorem dX1_opensCluster_71 : decode cX1_opensCluster 71 = .ok (.aload_n 0, 1) := by decide +kernel
theorem dX1_opensCluster_72 : decode cX1_opensCluster 72 = .ok (.iconst 3, 1) := by decide +kernel
theorem dX1_opensCluster_73 : decode cX1_opensCluster 73 = .ok (.iconst 1, 1) := by decide +kernel
theorem dX1_opensCluster_74 : decode cX1_opensCluster 74 = .ok (.invokevirtual 50, 3) := by decide +kernel
theorem dX1_opensCluster_77 : decode cX1_opensCluster 77 = .ok (.ireturn, 1) := by decide +kernel
theorem dX1_opensCluster_78 : decode cX1_opensCluster 78 = .ok (.aload_n 0, 1) := by decide +kernel
theorem dX1_opensCluster_79 : decode cX1_opensCluster 79 = .ok (.iconst 3, 1) := by decide +kernel
theorem dX1_opensCluster_80 : decode cX1_opensCluster 80 = .ok (.putfield 25, 3) := by decide +kernel
theorem dX1_opensCluster_83 : decode cX1_opensCluster 83 = .ok (.iconst 1, 1) := by decide +kernel
theorem dX1_opensCluster_84 : decode cX1_opensCluster 84 = .ok (.ireturn, 1) := by decide +kernel
theorem dX1_opensCluster_85 : decode cX1_opensCluster 85 = .ok (.aload_n 0, 1) := by decide +kernel
theorem dX1_opensCluster_86 : decode cX1_opensCluster 86 = .ok (.iconst 4, 1) := by decide +kernel
theorem dX1_opensCluster_87 : decode cX1_opensCluster 87 = .ok (.putfield 25, 3) := by decide +kernel
theorem dX1_opensCluster_90 : decode cX1_opensCluster 90 = .ok (.iconst 1, 1) := by decide +kernel
theorem dX1_opensCluster_91 : decode cX1_opensCluster 91 = .ok (.ireturn, 1) := by decide +kernel
theorem dX1_opensCluster_92 : decode cX1_opensCluster 92 = .ok (.iconst 0, 1) := by decide +kernel
theorem dX1_opensCluster_93 : decode cX1_opensCluster 93 = .ok (.ireturn, 1) := by decide +kernel
theorem dX1_endsCluster_0 : decode cX1_endsCluster 0 = .ok (.iload_n 1, 1) := by decide +kernel
theorem dX1_endsCluster_1 : decode cX1_endsCluster 1 = .ok (.iload_n 2, 1) := by decide +kernel
theorem dX1_endsCluster_2 : decode cX1_endsCluster 2 = .ok (.invokestatic 90, 3) := by decide +kernel
theorem dX1_endsCluster_5 : decode cX1_endsCluster 5 = .ok (.ifCond .ne 5, 3) := by decide +kernel
theorem dX1_endsCluster_8 : decode cX1_endsCluster 8 = .ok (.iconst 0, 1) := by decide +kernel
theorem dX1_endsCluster_9 : decode cX1_endsCluster 9 = .ok (.ireturn, 1) := by decide +kernel
theorem dX1_endsCluster_10 : decode cX1_endsCluster 10 = .ok (.aload_n 0, 1) := by decide +kernel
theorem dX1_endsCluster_11 : decode cX1_endsCluster 11 = .ok (.getfield 12, 3) := by decide +kernel
theorem dX1_endsCluster_14 : decode cX1_endsCluster 14 = .ok (.bipush 10, 2) := by decide +kernel
theorem dX1_endsCluster_16 : decode cX1_endsCluster 16 = .ok (.iload_n 1, 1) := by decide +kernel
theorem dX1_endsCluster_17 : decode cX1_endsCluster 17 = .ok (.imul, 1) := by decide +kernel
theorem dX1_endsCluster_18 : decode cX1_endsCluster 18 = .ok (.iload_n 2, 1) := by decide +kernel
theorem dX1_endsCluster_19 : decode cX1_endsCluster 19 = .ok (.iadd, 1) := by decide +kernel
theorem dX1_endsCluster_20 : decode cX1_endsCluster 20 = .ok (.invokevirtual 93, 3) := by decide +kernel
theorem dX1_endsCluster_23 : decode cX1_endsCluster 23 = .ok (.aload_n 0, 1) := by decide +kernel
theorem dX1_endsCluster_24 : decode cX1_endsCluster 24 = .ok (.iconst 5, 1) := by decide +kernel
theorem dX1_endsCluster_25 : decode cX1_endsCluster 25 = .ok (.putfield 25, 3) := by decide +kernel
theorem dX1_endsCluster_28 : decode cX1_endsCluster 28 = .ok (.iconst 1, 1) := by decide +kernel
theorem dX1_endsCluster_29 : decode cX1_endsCluster 29 = .ok (.ireturn, 1) := by decide +kernel
theorem dX1_opensHanging_0 : decode cX1_opensHanging 0 = .ok (.iload_n 1, 1) := by decide +kernel
theorem dX1_opensHanging_1 : decode cX1_opensHanging 1 = .ok (.bipush 40, 2) := by decide +kernel
theorem dX1_opensHanging_3 : decode cX1_opensHanging 3 = .ok (.if_icmp .ne 11, 3) := by decide +kernel
theorem dX1_opensHanging_6 : decode cX1_opensHanging 6 = .ok (.aload_n 0, 1) := by decide +kernel
theorem dX1_opensHanging_7 : decode cX1_opensHanging 7 = .ok (.getfield 29, 3) := by decide +kernel
theorem dX1_opensHanging_10 : decode cX1_opensHanging 10 = .ok (.iconst 2, 1) := by decide +kernel
theorem dX1_opensHanging_11 : decode cX1_opensHanging 11 = .ok (.if_icmp .lt 5, 3) := by decide +kernel
theorem dX1_opensHanging_14 : decode cX1_opensHanging 14 = .ok (.iconst 0, 1) := by decide +kernel
theorem dX1_opensHanging_15 : decode cX1_opensHanging 15 = .ok (.ireturn, 1) := by decide +kernel
theorem dX1_opensHanging_16 : decode cX1_opensHanging 16 = .ok (.aload_n 0, 1) := by decide +kernel
theorem dX1_opensHanging_17 : decode cX1_opensHanging 17 = .ok (.dup, 1) := by decide +kernel
theorem dX1_opensHanging_18 : decode cX1_opensHanging 18 = .ok (.getfield 29, 3) := by decide +kernel
theorem dX1_opensHanging_21 : decode cX1_opensHanging 21 = .ok (.iconst 1, 1) := by decide +kernel
theorem dX1_opensHanging_22 : decode cX1_opensHanging 22 = .ok (.iadd, 1) := by decide +kernel
theorem dX1_opensHanging_23 : decode cX1_opensHanging 23 = .ok (.putfield 29, 3) := by decide +kernel
theorem dX1_opensHanging_26 : decode cX1_opensHanging 26 = .ok (.aload_n 0, 1) := by decide +kernel
theorem dX1_opensHanging_27 : decode cX1_opensHanging 27 = .ok (.iconst 1, 1) := by decide +kernel
theorem dX1_opensHanging_28 : decode cX1_opensHanging 28 = .ok (.putfield 25, 3) := by decide +kernel
theorem dX1_opensHanging_31 : decode cX1_opensHanging 31 = .ok (.iconst 1, 1) := by decide +kernel
theorem dX1_opensHanging_32 : decode cX1_opensHanging 32 = .ok (.ireturn, 1) := by decide +kernel
theorem dX1_comesBehindCord_0 : decode cX1_comesBehindCord 0 = .ok (.aload_n 0, 1) := by decide +kernel
theorem dX1_comesBehindCord_1 : decode cX1_comesBehindCord 1 = .ok (.getfield 29, 3) := by decide +kernel
theorem dX1_comesBehindCord_4 : decode cX1_comesBehindCord 4 = .ok (.ifCond .ne 14, 3) := by decide +kernel
theorem dX1_comesBehindCord_7 : decode cX1_comesBehindCord 7 = .ok (.aload_n 0, 1) := by decide +kernel
theorem dX1_comesBehindCord_8 : decode cX1_comesBehindCord 8 = .ok (.getfield 32, 3) := by decide +kernel
theorem dX1_comesBehindCord_11 : decode cX1_comesBehindCord 11 = .ok (.ifCond .eq 7, 3) := by decide +kernel
theorem dX1_comesBehindCord_14 : decode cX1_comesBehindCord 14 = .ok (.iconst 1, 1) := by decide +kernel
theorem dX1_comesBehindCord_15 : decode cX1_comesBehindCord 15 = .ok (.goto 4, 3) := by decide +kernel
theorem dX1_comesBehindCord_18 : decode cX1_comesBehindCord 18 = .ok (.iconst 0, 1) := by decide +kernel
theorem dX1_comesBehindCord_19 : decode cX1_comesBehindCord 19 = .ok (.istore_n 2, 1) := by decide +kernel
theorem dX1_comesBehindCord_20 : decode cX1_comesBehindCord 20 = .ok (.iload_n 1, 1) := by decide +kernel
theorem dX1_comesBehindCord_21 : decode cX1_comesBehindCord 21 = .ok (.bipush 41, 2) := by decide +kernel
theorem dX1_comesBehindCord_23 : decode cX1_comesBehindCord 23 = .ok (.if_icmp .ne 28, 3) := by decide +kernel
theorem dX1_comesBehindCord_26 : decode cX1_comesBehindCord 26 = .ok (.aload_n 0, 1) := by decide +kernel
theorem dX1_comesBehindCord_27 : decode cX1_comesBehindCord 27 = .ok (.getfield 29, 3) := by decide +kernel
theorem dX1_comesBehindCord_30 : decode cX1_comesBehindCord 30 = .ok (.ifCond .le 21, 3) := by decide +kernel
theorem dX1_comesBehindCord_33 : decode cX1_comesBehindCord 33 = .ok (.aload_n 0, 1) := by decide +kernel
theorem dX1_comesBehindCord_34 : decode cX1_comesBehindCord 34 = .ok (.dup, 1) := by decide +kernel
theorem dX1_comesBehindCord_35 : decode cX1_comesBehindCord 35 = .ok (.getfield 29, 3) := by decide +kernel
theorem dX1_comesBehindCord_38 : decode cX1_comesBehindCord 38 = .ok (.iconst 1, 1) := by decide +kernel
theorem dX1_comesBehindCord_39 : decode cX1_comesBehindCord 39 = .ok (.isub, 1) := by decide +kernel
theorem dX1_comesBehindCord_40 : decode cX1_comesBehindCord 40 = .ok (.putfield 29, 3) := by decide +kernel
theorem dX1_comesBehindCord_43 : decode cX1_comesBehindCord 43 = .ok (.aload_n 0, 1) := by decide +kernel
theorem dX1_comesBehindCord_44 : decode cX1_comesBehindCord 44 = .ok (.bipush 6, 2) := by decide +kernel
theorem dX1_comesBehindCord_46 : decode cX1_comesBehindCord 46 = .ok (.putfield 25, 3) := by decide +kernel
theorem dX1_comesBehindCord_49 : decode cX1_comesBehindCord 49 = .ok (.iconst 1, 1) := by decide +kernel
theorem dX1_comesBehindCord_50 : decode cX1_comesBehindCord 50 = .ok (.ireturn, 1) := by decide +kernel
theorem dX1_comesBehindCord_51 : decode cX1_comesBehindCord 51 = .ok (.iload_n 1, 1) := by decide +kernel
theorem dX1_comesBehindCord_52 : decode cX1_comesBehindCord 52 = .ok (.bipush 94, 2) := by decide +kernel
theorem dX1_comesBehindCord_54 : decode cX1_comesBehindCord 54 = .ok (.if_icmp .ne 26, 3) := by decide +kernel
theorem dX1_comesBehindCord_57 : decode cX1_comesBehindCord 57 = .ok (.aload_n 0, 1) := by decide +kernel
theorem dX1_comesBehindCord_58 : decode cX1_comesBehindCord 58 = .ok (.getfield 29, 3) := by decide +kernel
theorem dX1_comesBehindCord_61 : decode cX1_comesBehindCord 61 = .ok (.ifCond .ne 19, 3) := by decide +kernel
theorem dX1_comesBehindCord_64 : decode cX1_comesBehindCord 64 = .ok (.iload_n 2, 1) := by decide +kernel
theorem dX1_comesBehindCord_65 : decode cX1_comesBehindCord 65 = .ok (.ifCond .ne 15, 3) := by decide +kernel
theorem dX1_comesBehindCord_68 : decode cX1_comesBehindCord 68 = .ok (.aload_n 0, 1) := by decide +kernel
theorem dX1_comesBehindCord_69 : decode cX1_comesBehindCord 69 = .ok (.iconst 1, 1) := by decide +kernel
theorem dX1_comesBehindCord_70 : decode cX1_comesBehindCord 70 = .ok (.putfield 32, 3) := by decide +kernel
theorem dX1_comesBehindCord_73 : decode cX1_comesBehindCord 73 = .ok (.aload_n 0, 1) := by decide +kernel
theorem dX1_comesBehindCord_74 : decode cX1_comesBehindCord 74 = .ok (.iconst 1, 1) := by decide +kernel
theorem dX1_comesBehindCord_75 : decode cX1_comesBehindCord 75 = .ok (.putfield 25, 3) := by decide +kernel
theorem dX1_comesBehindCord_78 : decode cX1_comesBehindCord 78 = .ok (.iconst 1, 1) := by decide +kernel
theorem dX1_comesBehindCord_79 : decode cX1_comesBehindCord 79 = .ok (.ireturn, 1) := by decide +kernel
theorem dX1_comesBehindCord_80 : decode cX1_comesBehindCord 80 = .ok (.iload_n 1, 1) := by decide +kernel
theorem dX1_comesBehindCord_81 : decode cX1_comesBehindCord 81 = .ok (.bipush 93, 2) := by decide +kernel
theorem dX1_comesBehindCord_83 : decode cX1_comesBehindCord 83 = .ok (.if_icmp .ne 17, 3) := by decide +kernel
theorem dX1_comesBehindCord_86 : decode cX1_comesBehindCord 86 = .ok (.aload_n 0, 1) := by decide +kernel
theorem dX1_comesBehindCord_87 : decode cX1_comesBehindCord 87 = .ok (.getfield 29, 3) := by decide +kernel
theorem dX1_comesBehindCord_90 : decode cX1_comesBehindCord 90 = .ok (.ifCond .ne 10, 3) := by decide +kernel
theorem dX1_comesBehindCord_93 : decode cX1_comesBehindCord 93 = .ok (.aload_n 0, 1) := by decide +kernel
theorem dX1_comesBehindCord_94 : decode cX1_comesBehindCord 94 = .ok (.iconst 0, 1) := by decide +kernel
theorem dX1_comesBehindCord_95 : decode cX1_comesBehindCord 95 = .ok (.putfield 25, 3) := by decide +kernel
theorem dX1_comesBehindCord_98 : decode cX1_comesBehindCord 98 = .ok (.iconst 1, 1) := by decide +kernel
theorem dX1_comesBehindCord_99 : decode cX1_comesBehindCord 99 = .ok (.ireturn, 1) := by decide +kernel
theorem dX1_comesBehindCord_100 : decode cX1_comesBehindCord 100 = .ok (.iload_n 2, 1) := by decide +kernel
theorem dX1_comesBehindCord_101 : decode cX1_comesBehindCord 101 = .ok (.ifCond .ne 15, 3) := by decide +kernel
theorem dX1_comesBehindCord_104 : decode cX1_comesBehindCord 104 = .ok (.aload_n 0, 1) := by decide +kernel
theorem dX1_comesBehindCord_105 : decode cX1_comesBehindCord 105 = .ok (.iload_n 1, 1) := by decide +kernel
theorem dX1_comesBehindCord_106 : decode cX1_comesBehindCord 106 = .ok (.invokevirtual 44, 3) := by decide +kernel
theorem dX1_comesBehindCord_109 : decode cX1_comesBehindCord 109 = .ok (.ifCond .eq 7, 3) := by decide +kernel
theorem dX1_comesBehindCord_112 : decode cX1_comesBehindCord 112 = .ok (.iconst 1, 1) := by decide +kernel
theorem dX1_comesBehindCord_113 : decode cX1_comesBehindCord 113 = .ok (.goto 4, 3) := by decide +kernel
theorem dX1_comesBehindCord_116 : decode cX1_comesBehindCord 116 = .ok (.iconst 0, 1) := by decide +kernel
theorem dX1_comesBehindCord_117 : decode cX1_comesBehindCord 117 = .ok (.ireturn, 1) := by decide +kernel
theorem dX2_init_0 : decode cX2_init 0 = .ok (.aload_n 0, 1) := by decide +kernel
theorem dX2_init_1 : decode cX2_init 1 = .ok (.invokespecial 5, 3) := by decide +kernel
theorem dX2_init_4 : decode cX2_init 4 = .ok (.aload_n 0, 1) := by decide +kernel
theorem dX2_init_5 : decode cX2_init 5 = .ok (.bipush 16, 2) := by decide +kernel
theorem dX2_init_7 : decode cX2_init 7 = .ok (.newarray .int, 2) := by decide +kernel
theorem dX2_init_9 : decode cX2_init 9 = .ok (.putfield 11, 3) := by decide +kernel
theorem dX2_init_12 : decode cX2_init 12 = .ok (.aload_n 0, 1) := by decide +kernel
theorem dX2_init_13 : decode cX2_init 13 = .ok (.bipush 16, 2) := by decide +kernel
theorem dX2_init_15 : decode cX2_init 15 = .ok (.newarray .int, 2) := by decide +kernel
theorem dX2_init_17 : decode cX2_init 17 = .ok (.putfield 15, 3) := by decide +kernel
theorem dX2_init_20 : decode cX2_init 20 = .ok (.aload_n 0, 1) := by decide +kernel
theorem dX2_init_21 : decode cX2_init 21 = .ok (.sipush 256, 3) := by decide +kernel
theorem dX2_init_24 : decode cX2_init 24 = .ok (.newarray .int, 2) := by decide +kernel
theorem dX2_init_26 : decode cX2_init 26 = .ok (.putfield 18, 3) := by decide +kernel
theorem dX2_init_29 : decode cX2_init 29 = .ok (.aload_n 0, 1) := by decide +kernel
theorem dX2_init_30 : decode cX2_init 30 = .ok (.sipush 256, 3) := by decide +kernel
theorem dX2_init_33 : decode cX2_init 33 = .ok (.newarray .int, 2) := by decide +kernel
theorem dX2_init_35 : decode cX2_init 35 = .ok (.putfield 21, 3) := by decide +kernel
theorem dX2_init_38 : decode cX2_init 38 = .ok (.aload_n 0, 1) := by decide +kernel
theorem dX2_init_39 : decode cX2_init 39 = .ok (.sipush 256, 3) := by decide +kernel
theorem dX2_init_42 : decode cX2_init 42 = .ok (.newarray .int, 2) := by decide +kernel
theorem dX2_init_44 : decode cX2_init 44 = .ok (.putfield 24, 3) := by decide +kernel
theorem dX2_init_47 : decode cX2_init 47 = .ok (.return_, 1) := by decide +kernel
theorem dX2_clear_0 : decode cX2_clear 0 = .ok (.aload_n 0, 1) := by decide +kernel
theorem dX2_clear_1 : decode cX2_clear 1 = .ok (.iconst 0, 1) := by decide +kernel
theorem dX2_clear_2 : decode cX2_clear 2 = .ok (.putfield 27, 3) := by decide +kernel
theorem dX2_clear_5 : decode cX2_clear 5 = .ok (.return_, 1) := by decide +kernel
theorem dX2_add_0 : decode cX2_add 0 = .ok (.aload_n 0, 1) := by decide +kernel
theorem dX2_add_1 : decode cX2_add 1 = .ok (.getfield 11, 3) := by decide +kernel
theorem dX2_add_4 : decode cX2_add 4 = .ok (.aload_n 0, 1) := by decide +kernel
theorem dX2_add_5 : decode cX2_add 5 = .ok (.getfield 27, 3) := by decide +kernel
theorem dX2_add_8 : decode cX2_add 8 = .ok (.iload_n 1, 1) := by decide +kernel
theorem dX2_add_9 : decode cX2_add 9 = .ok (.invokestatic 31, 3) := by decide +kernel
theorem dX2_add_12 : decode cX2_add 12 = .ok (.aload_n 0, 1) := by decide +kernel
theorem dX2_add_13 : decode cX2_add 13 = .ok (.getfield 15, 3) := by decide +kernel
theorem dX2_add_16 : decode cX2_add 16 = .ok (.aload_n 0, 1) := by decide +kernel
theorem dX2_add_17 : decode cX2_add 17 = .ok (.getfield 27, 3) := by decide +kernel
theorem dX2_add_20 : decode cX2_add 20 = .ok (.iload_n 2, 1) := by decide +kernel
theorem dX2_add_21 : decode cX2_add 21 = .ok (.invokestatic 31, 3) := by decide +kernel
theorem dX2_add_24 : decode cX2_add 24 = .ok (.aload_n 0, 1) := by decide +kernel
theorem dX2_add_25 : decode cX2_add 25 = .ok (.dup, 1) := by decide +kernel
theorem dX2_add_26 : decode cX2_add 26 = .ok (.getfield 27, 3) := by decide +kernel
theorem dX2_add_29 : decode cX2_add 29 = .ok (.iconst 1, 1) := by decide +kernel
theorem dX2_add_30 : decode cX2_add 30 = .ok (.iadd, 1) := by decide +kernel
theorem dX2_add_31 : decode cX2_add 31 = .ok (.putfield 27, 3) := by decide +kernel
theorem dX2_add_34 : decode cX2_add 34 = .ok (.return_, 1) := by decide +kernel
theorem dX2_findEvenest_0 : decode cX2_findEvenest 0 = .ok (.aload_n 0, 1) := by decide +kernel
theorem dX2_findEvenest_1 : decode cX2_findEvenest 1 = .ok (.iconst 0, 1) := by decide +kernel
theorem dX2_findEvenest_2 : decode cX2_findEvenest 2 = .ok (.invokevirtual 35, 3) := by decide +kernel
theorem dX2_findEvenest_5 : decode cX2_findEvenest 5 = .ok (.aload_n 0, 1) := by decide +kernel
theorem dX2_findEvenest_6 : decode cX2_findEvenest 6 = .ok (.invokevirtual 39, 3) := by decide +kernel
theorem dX2_findEvenest_9 : decode cX2_findEvenest 9 = .ok (.istore_n 1, 1) := by decide +kernel
theorem dX2_findEvenest_10 : decode cX2_findEvenest 10 = .ok (.iconst 0, 1) := by decide +kernel
theorem dX2_findEvenest_11 : decode cX2_findEvenest 11 = .ok (.istore_n 2, 1) := by decide +kernel
theorem dX2_findEvenest_12 : decode cX2_findEvenest 12 = .ok (.iconst 0, 1) := by decide +kernel
theorem dX2_findEvenest_13 : decode cX2_findEvenest 13 = .ok (.istore_n 3, 1) := by decide +kernel
theorem dX2_findEvenest_14 : decode cX2_findEvenest 14 = .ok (.iload_n 3, 1) := by decide +kernel
theorem dX2_findEvenest_15 : decode cX2_findEvenest 15 = .ok (.aload_n 0, 1) := by decide +kernel
theorem dX2_findEvenest_16 : decode cX2_findEvenest 16 = .ok (.getfield 27, 3) := by decide +kernel
theorem dX2_findEvenest_19 : decode cX2_findEvenest 19 = .ok (.if_icmp .ge 20, 3) := by decide +kernel
theorem dX2_findEvenest_22 : decode cX2_findEvenest 22 = .ok (.iload_n 2, 1) := by decide +kernel
theorem dX2_findEvenest_23 : decode cX2_findEvenest 23 = .ok (.aload_n 0, 1) := by decide +kernel
theorem dX2_findEvenest_24 : decode cX2_findEvenest 24 = .ok (.getfield 15, 3) := by decide +kernel
theorem dX2_findEvenest_27 : decode cX2_findEvenest 27 = .ok (.iload_n 3, 1) := by decide +kernel
theorem dX2_findEvenest_28 : decode cX2_findEvenest 28 = .ok (.invokestatic 43, 3) := by decide +kernel
theorem dX2_findEvenest_31 : decode cX2_findEvenest 31 = .ok (.iadd, 1) := by decide +kernel
theorem dX2_findEvenest_32 : decode cX2_findEvenest 32 = .ok (.istore_n 2, 1) := by decide +kernel
theorem dX2_findEvenest_33 : decode cX2_findEvenest 33 = .ok (.iinc 3 1, 3) := by decide +kernel
theorem dX2_findEvenest_36 : decode cX2_findEvenest 36 = .ok (.goto (-22), 3) := by decide +kernel
theorem dX2_findEvenest_39 : decode cX2_findEvenest 39 = .ok (.iconst 0, 1) := by decide +kernel
theorem dX2_findEvenest_40 : decode cX2_findEvenest 40 = .ok (.istore_n 3, 1) := by decide +kernel
theorem dX2_findEvenest_41 : decode cX2_findEvenest 41 = .ok (.aload_n 0, 1) := by decide +kernel
theorem dX2_findEvenest_42 : decode cX2_findEvenest 42 = .ok (.iload_n 2, 1) := by decide +kernel
theorem dX2_findEvenest_43 : decode cX2_findEvenest 43 = .ok (.putfield 47, 3) := by decide +kernel
theorem dX2_findEvenest_46 : decode cX2_findEvenest 46 = .ok (.iconst 0, 1) := by decide +kernel
theorem dX2_findEvenest_47 : decode cX2_findEvenest 47 = .ok (.istore 4, 2) := by decide +kernel
theorem dX2_findEvenest_49 : decode cX2_findEvenest 49 = .ok (.iload 4, 2) := by decide +kernel
theorem dX2_findEvenest_51 : decode cX2_findEvenest 51 = .ok (.iload_n 1, 1) := by decide +kernel
theorem dX2_findEvenest_52 : decode cX2_findEvenest 52 = .ok (.if_icmp .ge 78, 3) := by decide +kernel
theorem dX2_findEvenest_55 : decode cX2_findEvenest 55 = .ok (.aload_n 0, 1) := by decide +kernel
theorem dX2_findEvenest_56 : decode cX2_findEvenest 56 = .ok (.getfield 18, 3) := by decide +kernel
theorem dX2_findEvenest_59 : decode cX2_findEvenest 59 = .ok (.iload 4, 2) := by decide +kernel
theorem dX2_findEvenest_61 : decode cX2_findEvenest 61 = .ok (.invokestatic 43, 3) := by decide +kernel
theorem dX2_findEvenest_64 : decode cX2_findEvenest 64 = .ok (.istore 5, 2) := by decide +kernel
theorem dX2_findEvenest_66 : decode cX2_findEvenest 66 = .ok (.iload_n 2, 1) := by decide +kernel
theorem dX2_findEvenest_67 : decode cX2_findEvenest 67 = .ok (.iconst 2, 1) := by decide +kernel
theorem dX2_findEvenest_68 : decode cX2_findEvenest 68 = .ok (.iload 5, 2) := by decide +kernel
theorem dX2_findEvenest_70 : decode cX2_findEvenest 70 = .ok (.imul, 1) := by decide +kernel
theorem dX2_findEvenest_71 : decode cX2_findEvenest 71 = .ok (.isub, 1) := by decide +kernel
theorem dX2_findEvenest_72 : decode cX2_findEvenest 72 = .ok (.istore 6, 2) := by decide +kernel
theorem dX2_findEvenest_74 : decode cX2_findEvenest 74 = .ok (.aload_n 0, 1) := by decide +kernel
theorem dX2_findEvenest_75 : decode cX2_findEvenest 75 = .ok (.iload 6, 2) := by decide +kernel
theorem dX2_findEvenest_77 : decode cX2_findEvenest 77 = .ok (.iconst 1, 1) := by decide +kernel
theorem dX2_findEvenest_78 : decode cX2_findEvenest 78 = .ok (.iadd, 1) := by decide +kernel
theorem dX2_findEvenest_79 : decode cX2_findEvenest 79 = .ok (.iconst 2, 1) := by decide +kernel
theorem dX2_findEvenest_80 : decode cX2_findEvenest 80 = .ok (.idiv, 1) := by decide +kernel
theorem dX2_findEvenest_81 : decode cX2_findEvenest 81 = .ok (.invokevirtual 50, 3) := by decide +kernel
theorem dX2_findEvenest_84 : decode cX2_findEvenest 84 = .ok (.istore 7, 2) := by decide +kernel
theorem dX2_findEvenest_86 : decode cX2_findEvenest 86 = .ok (.iload 7, 2) := by decide +kernel
theorem dX2_findEvenest_88 : decode cX2_findEvenest 88 = .ok (.ifCond .le 18, 3) := by decide +kernel
theorem dX2_findEvenest_91 : decode cX2_findEvenest 91 = .ok (.aload_n 0, 1) := by decide +kernel
theorem dX2_findEvenest_92 : decode cX2_findEvenest 92 = .ok (.aload_n 0, 1) := by decide +kernel
theorem dX2_findEvenest_93 : decode cX2_findEvenest 93 = .ok (.iload 7, 2) := by decide +kernel
theorem dX2_findEvenest_95 : decode cX2_findEvenest 95 = .ok (.iconst 1, 1) := by decide +kernel
theorem dX2_findEvenest_96 : decode cX2_findEvenest 96 = .ok (.isub, 1) := by decide +kernel
theorem dX2_findEvenest_97 : decode cX2_findEvenest 97 = .ok (.invokevirtual 54, 3) := by decide +kernel
theorem dX2_findEvenest_100 : decode cX2_findEvenest 100 = .ok (.invokevirtual 50, 3) := by decide +kernel
theorem dX2_findEvenest_103 : decode cX2_findEvenest 103 = .ok (.goto 5, 3) := by decide +kernel
theorem dX2_findEvenest_106 : decode cX2_findEvenest 106 = .ok (.iload 7, 2) := by decide +kernel
theorem dX2_findEvenest_108 : decode cX2_findEvenest 108 = .ok (.istore 8, 2) := by decide +kernel
theorem dX2_findEvenest_110 : decode cX2_findEvenest 110 = .ok (.aload_n 0, 1) := by decide +kernel
theorem dX2_findEvenest_111 : decode cX2_findEvenest 111 = .ok (.iload 8, 2) := by decide +kernel
theorem dX2_findEvenest_113 : decode cX2_findEvenest 113 = .ok (.iload 7, 2) := by decide +kernel
theorem dX2_findEvenest_115 : decode cX2_findEvenest 115 = .ok (.iload 4, 2) := by decide +kernel
theorem dX2_findEvenest_117 : decode cX2_findEvenest 117 = .ok (.iload 6, 2) := by decide +kernel
theorem dX2_findEvenest_119 : decode cX2_findEvenest 119 = .ok (.iload_n 3, 1) := by decide +kernel
theorem dX2_findEvenest_120 : decode cX2_findEvenest 120 = .ok (.invokevirtual 57, 3) := by decide +kernel
theorem dX2_findEvenest_123 : decode cX2_findEvenest 123 = .ok (.istore_n 3, 1) := by decide +kernel
theorem dX2_findEvenest_124 : decode cX2_findEvenest 124 = .ok (.iinc 4 1, 3) := by decide +kernel
theorem dX2_findEvenest_127 : decode cX2_findEvenest 127 = .ok (.goto (-78), 3) := by decide +kernel
theorem dX2_findEvenest_130 : decode cX2_findEvenest 130 = .ok (.aload_n 0, 1) := by decide +kernel
theorem dX2_findEvenest_131 : decode cX2_findEvenest 131 = .ok (.aload_n 0, 1) := by decide +kernel
theorem dX2_findEvenest_132 : decode cX2_findEvenest 132 = .ok (.iload_n 3, 1) := by decide +kernel
theorem dX2_findEvenest_133 : decode cX2_findEvenest 133 = .ok (.invokevirtual 61, 3) := by decide +kernel
theorem dX2_findEvenest_136 : decode cX2_findEvenest 136 = .ok (.putfield 64, 3) := by decide +kernel
theorem dX2_findEvenest_139 : decode cX2_findEvenest 139 = .ok (.return_, 1) := by decide +kernel
theorem dX2_better_0 : decode cX2_better 0 = .ok (.iload 4, 2) := by decide +kernel
theorem dX2_better_2 : decode cX2_better 2 = .ok (.iconst 2, 1) := by decide +kernel
theorem dX2_better_3 : decode cX2_better 3 = .ok (.aload_n 0, 1) := by decide +kernel
theorem dX2_better_4 : decode cX2_better 4 = .ok (.iload_n 1, 1) := by decide +kernel
theorem dX2_better_5 : decode cX2_better 5 = .ok (.invokevirtual 54, 3) := by decide +kernel
theorem dX2_better_8 : decode cX2_better 8 = .ok (.imul, 1) := by decide +kernel
theorem dX2_better_9 : decode cX2_better 9 = .ok (.isub, 1) := by decide +kernel
theorem dX2_better_10 : decode cX2_better 10 = .ok (.invokestatic 67, 3) := by decide +kernel
theorem dX2_better_13 : decode cX2_better 13 = .ok (.istore 6, 2) := by decide +kernel
theorem dX2_better_15 : decode cX2_better 15 = .ok (.iload_n 2, 1) := by decide +kernel
theorem dX2_better_16 : decode cX2_better 16 = .ok (.aload_n 0, 1) := by decide +kernel
theorem dX2_better_17 : decode cX2_better 17 = .ok (.getfield 72, 3) := by decide +kernel
theorem dX2_better_20 : decode cX2_better 20 = .ok (.if_icmp .ge 19, 3) := by decide +kernel
theorem dX2_better_23 : decode cX2_better 23 = .ok (.iload 4, 2) := by decide +kernel
theorem dX2_better_25 : decode cX2_better 25 = .ok (.iconst 2, 1) := by decide +kernel
theorem dX2_better_26 : decode cX2_better 26 = .ok (.aload_n 0, 1) := by decide +kernel
theorem dX2_better_27 : decode cX2_better 27 = .ok (.iload_n 2, 1) := by decide +kernel
theorem dX2_better_28 : decode cX2_better 28 = .ok (.invokevirtual 54, 3) := by decide +kernel
theorem dX2_better_31 : decode cX2_better 31 = .ok (.imul, 1) := by decide +kernel
theorem dX2_better_32 : decode cX2_better 32 = .ok (.isub, 1) := by decide +kernel
theorem dX2_better_33 : decode cX2_better 33 = .ok (.invokestatic 67, 3) := by decide +kernel
theorem dX2_better_36 : decode cX2_better 36 = .ok (.goto 7, 3) := by decide +kernel
theorem dX2_better_39 : decode cX2_better 39 = .ok (.iload 6, 2) := by decide +kernel
theorem dX2_better_41 : decode cX2_better 41 = .ok (.iconst 1, 1) := by decide +kernel
theorem dX2_better_42 : decode cX2_better 42 = .ok (.iadd, 1) := by decide +kernel
theorem dX2_better_43 : decode cX2_better 43 = .ok (.istore 7, 2) := by decide +kernel
theorem dX2_better_45 : decode cX2_better 45 = .ok (.iload 7, 2) := by decide +kernel
theorem dX2_better_47 : decode cX2_better 47 = .ok (.iload 6, 2) := by decide +kernel
theorem dX2_better_49 : decode cX2_better 49 = .ok (.if_icmp .lt 23, 3) := by decide +kernel
theorem dX2_better_52 : decode cX2_better 52 = .ok (.iload 7, 2) := by decide +kernel
theorem dX2_better_54 : decode cX2_better 54 = .ok (.iload 6, 2) := by decide +kernel
theorem dX2_better_56 : decode cX2_better 56 = .ok (.if_icmp .ne 20, 3) := by decide +kernel
theorem dX2_better_59 : decode cX2_better 59 = .ok (.aload_n 0, 1) := by decide +kernel
theorem dX2_better_60 : decode cX2_better 60 = .ok (.iload_n 2, 1) := by decide +kernel
theorem dX2_better_61 : decode cX2_better 61 = .ok (.invokevirtual 75, 3) := by decide +kernel
theorem dX2_better_64 : decode cX2_better 64 = .ok (.aload_n 0, 1) := by decide +kernel
theorem dX2_better_65 : decode cX2_better 65 = .ok (.iload_n 1, 1) := by decide +kernel
theorem dX2_better_66 : decode cX2_better 66 = .ok (.invokevirtual 75, 3) := by decide +kernel
theorem dX2_better_69 : decode cX2_better 69 = .ok (.if_icmp .ge 7, 3) := by decide +kernel
theorem dX2_better_72 : decode cX2_better 72 = .ok (.iconst 1, 1) := by decide +kernel
theorem dX2_better_73 : decode cX2_better 73 = .ok (.goto 4, 3) := by decide +kernel
theorem dX2_better_76 : decode cX2_better 76 = .ok (.iconst 0, 1) := by decide +kernel
theorem dX2_better_77 : decode cX2_better 77 = .ok (.istore 8, 2) := by decide +kernel
theorem dX2_better_79 : decode cX2_better 79 = .ok (.iload 8, 2) := by decide +kernel
theorem dX2_better_81 : decode cX2_better 81 = .ok (.ifCond .eq 8, 3) := by decide +kernel
theorem dX2_better_84 : decode cX2_better 84 = .ok (.iload 7, 2) := by decide +kernel
theorem dX2_better_86 : decode cX2_better 86 = .ok (.goto 5, 3) := by decide +kernel
theorem dX2_better_89 : decode cX2_better 89 = .ok (.iload 6, 2) := by decide +kernel
theorem dX2_better_91 : decode cX2_better 91 = .ok (.istore 9, 2) := by decide +kernel
theorem dX2_better_93 : decode cX2_better 93 = .ok (.iload 9, 2) := by decide +kernel
theorem dX2_better_95 : decode cX2_better 95 = .ok (.aload_n 0, 1) := by decide +kernel
theorem dX2_better_96 : decode cX2_better 96 = .ok (.getfield 47, 3) := by decide +kernel
theorem dX2_better_99 : decode cX2_better 99 = .ok (.if_icmp .lt 6, 3) := by decide +kernel
theorem dX2_better_102 : decode cX2_better 102 = .ok (.iload 5, 2) := by decide +kernel
theorem dX2_better_104 : decode cX2_better 104 = .ok (.ireturn, 1) := by decide +kernel
theorem dX2_better_105 : decode cX2_better 105 = .ok (.aload_n 0, 1) := by decide +kernel
theorem dX2_better_106 : decode cX2_better 106 = .ok (.iload 9, 2) := by decide +kernel
theorem dX2_better_108 : decode cX2_better 108 = .ok (.putfield 47, 3) := by decide +kernel
theorem dX2_better_111 : decode cX2_better 111 = .ok (.iload_n 3, 1) := by decide +kernel
theorem dX2_better_112 : decode cX2_better 112 = .ok (.bipush 8, 2) := by decide +kernel
theorem dX2_better_114 : decode cX2_better 114 = .ok (.ishl, 1) := by decide +kernel
theorem dX2_better_115 : decode cX2_better 115 = .ok (.aload_n 0, 1) := by decide +kernel
theorem dX2_better_116 : decode cX2_better 116 = .ok (.iload 8, 2) := by decide +kernel
theorem dX2_better_118 : decode cX2_better 118 = .ok (.ifCond .eq 7, 3) := by decide +kernel
theorem dX2_better_121 : decode cX2_better 121 = .ok (.iload_n 2, 1) := by decide +kernel
theorem dX2_better_122 : decode cX2_better 122 = .ok (.goto 4, 3) := by decide +kernel
theorem dX2_better_125 : decode cX2_better 125 = .ok (.iload_n 1, 1) := by decide +kernel
theorem dX2_better_126 : decode cX2_better 126 = .ok (.invokevirtual 75, 3) := by decide +kernel
theorem dX2_better_129 : decode cX2_better 129 = .ok (.ior, 1) := by decide +kernel
theorem dX2_better_130 : decode cX2_better 130 = .ok (.ireturn, 1) := by decide +kernel
theorem dX2_findFewest_0 : decode cX2_findFewest 0 = .ok (.aload_n 0, 1) := by decide +kernel
theorem dX2_findFewest_1 : decode cX2_findFewest 1 = .ok (.iconst 1, 1) := by decide +kernel
theorem dX2_findFewest_2 : decode cX2_findFewest 2 = .ok (.invokevirtual 35, 3) := by decide +kernel
theorem dX2_findFewest_5 : decode cX2_findFewest 5 = .ok (.aload_n 0, 1) := by decide +kernel
theorem dX2_findFewest_6 : decode cX2_findFewest 6 = .ok (.invokevirtual 39, 3) := by decide +kernel
theorem dX2_findFewest_9 : decode cX2_findFewest 9 = .ok (.istore_n 2, 1) := by decide +kernel
theorem dX2_findFewest_10 : decode cX2_findFewest 10 = .ok (.bipush (-4), 2) := by decide +kernel
theorem dX2_findFewest_12 : decode cX2_findFewest 12 = .ok (.istore_n 3, 1) := by decide +kernel
theorem dX2_findFewest_13 : decode cX2_findFewest 13 = .ok (.bipush 17, 2) := by decide +kernel
theorem dX2_findFewest_15 : decode cX2_findFewest 15 = .ok (.istore 4, 2) := by decide +kernel
theorem dX2_findFewest_17 : decode cX2_findFewest 17 = .ok (.iconst 0, 1) := by decide +kernel
theorem dX2_findFewest_18 : decode cX2_findFewest 18 = .ok (.istore 5, 2) := by decide +kernel
theorem dX2_findFewest_20 : decode cX2_findFewest 20 = .ok (.iload 5, 2) := by decide +kernel
theorem dX2_findFewest_22 : decode cX2_findFewest 22 = .ok (.iload_n 2, 1) := by decide +kernel
theorem dX2_findFewest_23 : decode cX2_findFewest 23 = .ok (.if_icmp .ge 103, 3) := by decide +kernel
theorem dX2_findFewest_26 : decode cX2_findFewest 26 = .ok (.iload_n 1, 1) := by decide +kernel
theorem dX2_findFewest_27 : decode cX2_findFewest 27 = .ok (.aload_n 0, 1) := by decide +kernel
theorem dX2_findFewest_28 : decode cX2_findFewest 28 = .ok (.getfield 18, 3) := by decide +kernel
theorem dX2_findFewest_31 : decode cX2_findFewest 31 = .ok (.iload 5, 2) := by decide +kernel
theorem dX2_findFewest_33 : decode cX2_findFewest 33 = .ok (.invokestatic 43, 3) := by decide +kernel
theorem dX2_findFewest_36 : decode cX2_findFewest 36 = .ok (.isub, 1) := by decide +kernel
theorem dX2_findFewest_37 : decode cX2_findFewest 37 = .ok (.istore 6, 2) := by decide +kernel
theorem dX2_findFewest_39 : decode cX2_findFewest 39 = .ok (.iload 6, 2) := by decide +kernel
theorem dX2_findFewest_41 : decode cX2_findFewest 41 = .ok (.ifCond .ge 10, 3) := by decide +kernel
theorem dX2_findFewest_44 : decode cX2_findFewest 44 = .ok (.aload_n 0, 1) := by decide +kernel
theorem dX2_findFewest_45 : decode cX2_findFewest 45 = .ok (.getfield 72, 3) := by decide +kernel
theorem dX2_findFewest_48 : decode cX2_findFewest 48 = .ok (.goto 9, 3) := by decide +kernel
theorem dX2_findFewest_51 : decode cX2_findFewest 51 = .ok (.aload_n 0, 1) := by decide +kernel
theorem dX2_findFewest_52 : decode cX2_findFewest 52 = .ok (.iload 6, 2) := by decide +kernel
theorem dX2_findFewest_54 : decode cX2_findFewest 54 = .ok (.invokevirtual 50, 3) := by decide +kernel
theorem dX2_findFewest_57 : decode cX2_findFewest 57 = .ok (.istore 7, 2) := by decide +kernel
theorem dX2_findFewest_59 : decode cX2_findFewest 59 = .ok (.iload 7, 2) := by decide +kernel
theorem dX2_findFewest_61 : decode cX2_findFewest 61 = .ok (.aload_n 0, 1) := by decide +kernel
theorem dX2_findFewest_62 : decode cX2_findFewest 62 = .ok (.getfield 72, 3) := by decide +kernel
theorem dX2_findFewest_65 : decode cX2_findFewest 65 = .ok (.if_icmp .ge 55, 3) := by decide +kernel
theorem dX2_findFewest_68 : decode cX2_findFewest 68 = .ok (.aload_n 0, 1) := by decide +kernel
theorem dX2_findFewest_69 : decode cX2_findFewest 69 = .ok (.iload 7, 2) := by decide +kernel
theorem dX2_findFewest_71 : decode cX2_findFewest 71 = .ok (.invokevirtual 54, 3) := by decide +kernel
theorem dX2_findFewest_74 : decode cX2_findFewest 74 = .ok (.iload 6, 2) := by decide +kernel
theorem dX2_findFewest_76 : decode cX2_findFewest 76 = .ok (.if_icmp .ne 44, 3) := by decide +kernel
theorem dX2_findFewest_79 : decode cX2_findFewest 79 = .ok (.iload 5, 2) := by decide +kernel
theorem dX2_findFewest_81 : decode cX2_findFewest 81 = .ok (.invokestatic 78, 3) := by decide +kernel
theorem dX2_findFewest_84 : decode cX2_findFewest 84 = .ok (.aload_n 0, 1) := by decide +kernel
theorem dX2_findFewest_85 : decode cX2_findFewest 85 = .ok (.iload 7, 2) := by decide +kernel
theorem dX2_findFewest_87 : decode cX2_findFewest 87 = .ok (.invokevirtual 75, 3) := by decide +kernel
theorem dX2_findFewest_90 : decode cX2_findFewest 90 = .ok (.invokestatic 78, 3) := by decide +kernel
theorem dX2_findFewest_93 : decode cX2_findFewest 93 = .ok (.iadd, 1) := by decide +kernel
theorem dX2_findFewest_94 : decode cX2_findFewest 94 = .ok (.istore 8, 2) := by decide +kernel
theorem dX2_findFewest_96 : decode cX2_findFewest 96 = .ok (.iload 8, 2) := by decide +kernel
theorem dX2_findFewest_98 : decode cX2_findFewest 98 = .ok (.iload 4, 2) := by decide +kernel
theorem dX2_findFewest_100 : decode cX2_findFewest 100 = .ok (.if_icmp .ge 20, 3) := by decide +kernel
theorem dX2_findFewest_103 : decode cX2_findFewest 103 = .ok (.iload 8, 2) := by decide +kernel
theorem dX2_findFewest_105 : decode cX2_findFewest 105 = .ok (.istore 4, 2) := by decide +kernel
theorem dX2_findFewest_107 : decode cX2_findFewest 107 = .ok (.iload 5, 2) := by decide +kernel
theorem dX2_findFewest_109 : decode cX2_findFewest 109 = .ok (.bipush 8, 2) := by decide +kernel
theorem dX2_findFewest_111 : decode cX2_findFewest 111 = .ok (.ishl, 1) := by decide +kernel
theorem dX2_findFewest_112 : decode cX2_findFewest 112 = .ok (.aload_n 0, 1) := by decide +kernel
theorem dX2_findFewest_113 : decode cX2_findFewest 113 = .ok (.iload 7, 2) := by decide +kernel
theorem dX2_findFewest_115 : decode cX2_findFewest 115 = .ok (.invokevirtual 75, 3) := by decide +kernel
theorem dX2_findFewest_118 : decode cX2_findFewest 118 = .ok (.ior, 1) := by decide +kernel
theorem dX2_findFewest_119 : decode cX2_findFewest 119 = .ok (.istore_n 3, 1) := by decide +kernel
theorem dX2_findFewest_120 : decode cX2_findFewest 120 = .ok (.iinc 5 1, 3) := by decide +kernel
theorem dX2_findFewest_123 : decode cX2_findFewest 123 = .ok (.goto (-103), 3) := by decide +kernel
theorem dX2_findFewest_126 : decode cX2_findFewest 126 = .ok (.aload_n 0, 1) := by decide +kernel
theorem dX2_findFewest_127 : decode cX2_findFewest 127 = .ok (.iload_n 3, 1) := by decide +kernel
theorem dX2_findFewest_128 : decode cX2_findFewest 128 = .ok (.bipush (-4), 2) := by decide +kernel
theorem dX2_findFewest_130 : decode cX2_findFewest 130 = .ok (.if_icmp .ne 8, 3) := by decide +kernel
theorem dX2_findFewest_133 : decode cX2_findFewest 133 = .ok (.bipush (-4), 2) := by decide +kernel
theorem dX2_findFewest_135 : decode cX2_findFewest 135 = .ok (.goto 8, 3) := by decide +kernel
theorem dX2_findFewest_138 : decode cX2_findFewest 138 = .ok (.aload_n 0, 1) := by decide +kernel
theorem dX2_findFewest_139 : decode cX2_findFewest 139 = .ok (.iload_n 3, 1) := by decide +kernel
theorem dX2_findFewest_140 : decode cX2_findFewest 140 = .ok (.invokevirtual 61, 3) := by decide +kernel
theorem dX2_findFewest_143 : decode cX2_findFewest 143 = .ok (.putfield 64, 3) := by decide +kernel
theorem dX2_findFewest_146 : decode cX2_findFewest 146 = .ok (.return_, 1) := by decide +kernel
theorem dX2_spreadLow_0 : decode cX2_spreadLow 0 = .ok (.aload_n 0, 1) := by decide +kernel
theorem dX2_spreadLow_1 : decode cX2_spreadLow 1 = .ok (.getfield 21, 3) := by decide +kernel
theorem dX2_spreadLow_4 : decode cX2_spreadLow 4 = .ok (.iconst 0, 1) := by decide +kernel
theorem dX2_spreadLow_5 : decode cX2_spreadLow 5 = .ok (.iconst 0, 1) := by decide +kernel
theorem dX2_spreadLow_6 : decode cX2_spreadLow 6 = .ok (.invokestatic 31, 3) := by decide +kernel
theorem dX2_spreadLow_9 : decode cX2_spreadLow 9 = .ok (.aload_n 0, 1) := by decide +kernel
theorem dX2_spreadLow_10 : decode cX2_spreadLow 10 = .ok (.iconst 1, 1) := by decide +kernel
theorem dX2_spreadLow_11 : decode cX2_spreadLow 11 = .ok (.putfield 72, 3) := by decide +kernel
theorem dX2_spreadLow_14 : decode cX2_spreadLow 14 = .ok (.iconst 0, 1) := by decide +kernel
theorem dX2_spreadLow_15 : decode cX2_spreadLow 15 = .ok (.istore_n 2, 1) := by decide +kernel
theorem dX2_spreadLow_16 : decode cX2_spreadLow 16 = .ok (.iload_n 2, 1) := by decide +kernel
theorem dX2_spreadLow_17 : decode cX2_spreadLow 17 = .ok (.aload_n 0, 1) := by decide +kernel
theorem dX2_spreadLow_18 : decode cX2_spreadLow 18 = .ok (.getfield 27, 3) := by decide +kernel
theorem dX2_spreadLow_21 : decode cX2_spreadLow 21 = .ok (.if_icmp .ge 39, 3) := by decide +kernel
theorem dX2_spreadLow_24 : decode cX2_spreadLow 24 = .ok (.iload_n 2, 1) := by decide +kernel
theorem dX2_spreadLow_25 : decode cX2_spreadLow 25 = .ok (.bipush 8, 2) := by decide +kernel
theorem dX2_spreadLow_27 : decode cX2_spreadLow 27 = .ok (.if_icmp .ge 33, 3) := by decide +kernel
theorem dX2_spreadLow_30 : decode cX2_spreadLow 30 = .ok (.aload_n 0, 1) := by decide +kernel
theorem dX2_spreadLow_31 : decode cX2_spreadLow 31 = .ok (.aload_n 0, 1) := by decide +kernel
theorem dX2_spreadLow_32 : decode cX2_spreadLow 32 = .ok (.getfield 15, 3) := by decide +kernel
theorem dX2_spreadLow_35 : decode cX2_spreadLow 35 = .ok (.iload_n 2, 1) := by decide +kernel
theorem dX2_spreadLow_36 : decode cX2_spreadLow 36 = .ok (.invokestatic 43, 3) := by decide +kernel
theorem dX2_spreadLow_39 : decode cX2_spreadLow 39 = .ok (.bipush 12, 2) := by decide +kernel
theorem dX2_spreadLow_41 : decode cX2_spreadLow 41 = .ok (.ishl, 1) := by decide +kernel
theorem dX2_spreadLow_42 : decode cX2_spreadLow 42 = .ok (.iload_n 1, 1) := by decide +kernel
theorem dX2_spreadLow_43 : decode cX2_spreadLow 43 = .ok (.bipush 8, 2) := by decide +kernel
theorem dX2_spreadLow_45 : decode cX2_spreadLow 45 = .ok (.ishl, 1) := by decide +kernel
theorem dX2_spreadLow_46 : decode cX2_spreadLow 46 = .ok (.ior, 1) := by decide +kernel
theorem dX2_spreadLow_47 : decode cX2_spreadLow 47 = .ok (.iconst 1, 1) := by decide +kernel
theorem dX2_spreadLow_48 : decode cX2_spreadLow 48 = .ok (.iload_n 2, 1) := by decide +kernel
theorem dX2_spreadLow_49 : decode cX2_spreadLow 49 = .ok (.ishl, 1) := by decide +kernel
theorem dX2_spreadLow_50 : decode cX2_spreadLow 50 = .ok (.ior, 1) := by decide +kernel
theorem dX2_spreadLow_51 : decode cX2_spreadLow 51 = .ok (.invokevirtual 83, 3) := by decide +kernel
theorem dX2_spreadLow_54 : decode cX2_spreadLow 54 = .ok (.iinc 2 1, 3) := by decide +kernel
theorem dX2_spreadLow_57 : decode cX2_spreadLow 57 = .ok (.goto (-41), 3) := by decide +kernel
theorem dX2_spreadLow_60 : decode cX2_spreadLow 60 = .ok (.return_, 1) := by decide +kernel
theorem dX2_mergeWith_0 : decode cX2_mergeWith 0 = .ok (.iconst 0, 1) := by decide +kernel
theorem dX2_mergeWith_1 : decode cX2_mergeWith 1 = .ok (.istore_n 2, 1) := by decide +kernel
theorem dX2_mergeWith_2 : decode cX2_mergeWith 2 = .ok (.iconst 0, 1) := by decide +kernel
theorem dX2_mergeWith_3 : decode cX2_mergeWith 3 = .ok (.istore_n 3, 1) := by decide +kernel
theorem dX2_mergeWith_4 : decode cX2_mergeWith 4 = .ok (.iconst 2, 1) := by decide +kernel
theorem dX2_mergeWith_5 : decode cX2_mergeWith 5 = .ok (.aload_n 0, 1) := by decide +kernel
theorem dX2_mergeWith_6 : decode cX2_mergeWith 6 = .ok (.getfield 72, 3) := by decide +kernel
theorem dX2_mergeWith_9 : decode cX2_mergeWith 9 = .ok (.imul, 1) := by decide +kernel
theorem dX2_mergeWith_10 : decode cX2_mergeWith 10 = .ok (.istore 4, 2) := by decide +kernel
theorem dX2_mergeWith_12 : decode cX2_mergeWith 12 = .ok (.iconst 0, 1) := by decide +kernel
theorem dX2_mergeWith_13 : decode cX2_mergeWith 13 = .ok (.istore 5, 2) := by decide +kernel
theorem dX2_mergeWith_15 : decode cX2_mergeWith 15 = .ok (.iload 5, 2) := by decide +kernel
theorem dX2_mergeWith_17 : decode cX2_mergeWith 17 = .ok (.iload 4, 2) := by decide +kernel
theorem dX2_mergeWith_19 : decode cX2_mergeWith 19 = .ok (.if_icmp .ge 108, 3) := by decide +kernel
theorem dX2_mergeWith_22 : decode cX2_mergeWith 22 = .ok (.aload_n 0, 1) := by decide +kernel
theorem dX2_mergeWith_23 : decode cX2_mergeWith 23 = .ok (.getfield 21, 3) := by decide +kernel
theorem dX2_mergeWith_26 : decode cX2_mergeWith 26 = .ok (.iload_n 2, 1) := by decide +kernel
theorem dX2_mergeWith_27 : decode cX2_mergeWith 27 = .ok (.invokestatic 43, 3) := by decide +kernel
theorem dX2_mergeWith_30 : decode cX2_mergeWith 30 = .ok (.istore 6, 2) := by decide +kernel
theorem dX2_mergeWith_32 : decode cX2_mergeWith 32 = .ok (.aload_n 0, 1) := by decide +kernel
theorem dX2_mergeWith_33 : decode cX2_mergeWith 33 = .ok (.getfield 21, 3) := by decide +kernel
theorem dX2_mergeWith_36 : decode cX2_mergeWith 36 = .ok (.iload_n 3, 1) := by decide +kernel
theorem dX2_mergeWith_37 : decode cX2_mergeWith 37 = .ok (.invokestatic 43, 3) := by decide +kernel
theorem dX2_mergeWith_40 : decode cX2_mergeWith 40 = .ok (.iload_n 1, 1) := by decide +kernel
theorem dX2_mergeWith_41 : decode cX2_mergeWith 41 = .ok (.iadd, 1) := by decide +kernel
theorem dX2_mergeWith_42 : decode cX2_mergeWith 42 = .ok (.istore 7, 2) := by decide +kernel
theorem dX2_mergeWith_44 : decode cX2_mergeWith 44 = .ok (.iload_n 2, 1) := by decide +kernel
theorem dX2_mergeWith_45 : decode cX2_mergeWith 45 = .ok (.aload_n 0, 1) := by decide +kernel
theorem dX2_mergeWith_46 : decode cX2_mergeWith 46 = .ok (.getfield 72, 3) := by decide +kernel
theorem dX2_mergeWith_49 : decode cX2_mergeWith 49 = .ok (.if_icmp .ge 22, 3) := by decide +kernel
theorem dX2_mergeWith_52 : decode cX2_mergeWith 52 = .ok (.iload_n 3, 1) := by decide +kernel
theorem dX2_mergeWith_53 : decode cX2_mergeWith 53 = .ok (.aload_n 0, 1) := by decide +kernel
theorem dX2_mergeWith_54 : decode cX2_mergeWith 54 = .ok (.getfield 72, 3) := by decide +kernel
theorem dX2_mergeWith_57 : decode cX2_mergeWith 57 = .ok (.if_icmp .ge 10, 3) := by decide +kernel
theorem dX2_mergeWith_60 : decode cX2_mergeWith 60 = .ok (.iload 6, 2) := by decide +kernel
theorem dX2_mergeWith_62 : decode cX2_mergeWith 62 = .ok (.iload 7, 2) := by decide +kernel
theorem dX2_mergeWith_64 : decode cX2_mergeWith 64 = .ok (.if_icmp .ge 7, 3) := by decide +kernel
theorem dX2_mergeWith_67 : decode cX2_mergeWith 67 = .ok (.iconst 1, 1) := by decide +kernel
theorem dX2_mergeWith_68 : decode cX2_mergeWith 68 = .ok (.goto 4, 3) := by decide +kernel
theorem dX2_mergeWith_71 : decode cX2_mergeWith 71 = .ok (.iconst 0, 1) := by decide +kernel
theorem dX2_mergeWith_72 : decode cX2_mergeWith 72 = .ok (.istore 8, 2) := by decide +kernel
theorem dX2_mergeWith_74 : decode cX2_mergeWith 74 = .ok (.aload_n 0, 1) := by decide +kernel
theorem dX2_mergeWith_75 : decode cX2_mergeWith 75 = .ok (.getfield 24, 3) := by decide +kernel
theorem dX2_mergeWith_78 : decode cX2_mergeWith 78 = .ok (.iload 5, 2) := by decide +kernel
theorem dX2_mergeWith_80 : decode cX2_mergeWith 80 = .ok (.iload 8, 2) := by decide +kernel
theorem dX2_mergeWith_82 : decode cX2_mergeWith 82 = .ok (.ifCond .eq 8, 3) := by decide +kernel
theorem dX2_mergeWith_85 : decode cX2_mergeWith 85 = .ok (.iload 6, 2) := by decide +kernel
theorem dX2_mergeWith_87 : decode cX2_mergeWith 87 = .ok (.goto 5, 3) := by decide +kernel
theorem dX2_mergeWith_90 : decode cX2_mergeWith 90 = .ok (.iload 7, 2) := by decide +kernel
theorem dX2_mergeWith_92 : decode cX2_mergeWith 92 = .ok (.invokestatic 31, 3) := by decide +kernel
theorem dX2_mergeWith_95 : decode cX2_mergeWith 95 = .ok (.iload_n 2, 1) := by decide +kernel
theorem dX2_mergeWith_96 : decode cX2_mergeWith 96 = .ok (.iload 8, 2) := by decide +kernel
theorem dX2_mergeWith_98 : decode cX2_mergeWith 98 = .ok (.ifCond .eq 7, 3) := by decide +kernel
theorem dX2_mergeWith_101 : decode cX2_mergeWith 101 = .ok (.iconst 1, 1) := by decide +kernel
theorem dX2_mergeWith_102 : decode cX2_mergeWith 102 = .ok (.goto 4, 3) := by decide +kernel
theorem dX2_mergeWith_105 : decode cX2_mergeWith 105 = .ok (.iconst 0, 1) := by decide +kernel
theorem dX2_mergeWith_106 : decode cX2_mergeWith 106 = .ok (.iadd, 1) := by decide +kernel
theorem dX2_mergeWith_107 : decode cX2_mergeWith 107 = .ok (.istore_n 2, 1) := by decide +kernel
theorem dX2_mergeWith_108 : decode cX2_mergeWith 108 = .ok (.iload_n 3, 1) := by decide +kernel
theorem dX2_mergeWith_109 : decode cX2_mergeWith 109 = .ok (.iload 8, 2) := by decide +kernel
theorem dX2_mergeWith_111 : decode cX2_mergeWith 111 = .ok (.ifCond .eq 7, 3) := by decide +kernel
theorem dX2_mergeWith_114 : decode cX2_mergeWith 114 = .ok (.iconst 0, 1) := by decide +kernel
theorem dX2_mergeWith_115 : decode cX2_mergeWith 115 = .ok (.goto 4, 3) := by decide +kernel
theorem dX2_mergeWith_118 : decode cX2_mergeWith 118 = .ok (.iconst 1, 1) := by decide +kernel
theorem dX2_mergeWith_119 : decode cX2_mergeWith 119 = .ok (.iadd, 1) := by decide +kernel
theorem dX2_mergeWith_120 : decode cX2_mergeWith 120 = .ok (.istore_n 3, 1) := by decide +kernel
theorem dX2_mergeWith_121 : decode cX2_mergeWith 121 = .ok (.iinc 5 1, 3) := by decide +kernel
theorem dX2_mergeWith_124 : decode cX2_mergeWith 124 = .ok (.goto (-109), 3) := by decide +kernel
theorem dX2_mergeWith_127 : decode cX2_mergeWith 127 = .ok (.aload_n 0, 1) := by decide +kernel
theorem dX2_mergeWith_128 : decode cX2_mergeWith 128 = .ok (.getfield 24, 3) := by decide +kernel
theorem dX2_mergeWith_131 : decode cX2_mergeWith 131 = .ok (.astore 5, 2) := by decide +kernel
theorem dX2_mergeWith_133 : decode cX2_mergeWith 133 = .ok (.aload_n 0, 1) := by decide +kernel
theorem dX2_mergeWith_134 : decode cX2_mergeWith 134 = .ok (.aload_n 0, 1) := by decide +kernel
theorem dX2_mergeWith_135 : decode cX2_mergeWith 135 = .ok (.getfield 21, 3) := by decide +kernel
theorem dX2_mergeWith_138 : decode cX2_mergeWith 138 = .ok (.putfield 24, 3) := by decide +kernel
theorem dX2_mergeWith_141 : decode cX2_mergeWith 141 = .ok (.aload_n 0, 1) := by decide +kernel
theorem dX2_mergeWith_142 : decode cX2_mergeWith 142 = .ok (.aload 5, 2) := by decide +kernel
theorem dX2_mergeWith_144 : decode cX2_mergeWith 144 = .ok (.putfield 21, 3) := by decide +kernel
theorem dX2_mergeWith_147 : decode cX2_mergeWith 147 = .ok (.aload_n 0, 1) := by decide +kernel
theorem dX2_mergeWith_148 : decode cX2_mergeWith 148 = .ok (.iload 4, 2) := by decide +kernel
theorem dX2_mergeWith_150 : decode cX2_mergeWith 150 = .ok (.putfield 72, 3) := by decide +kernel
theorem dX2_mergeWith_153 : decode cX2_mergeWith 153 = .ok (.return_, 1) := by decide +kernel
theorem dX2_spreadHigh_0 : decode cX2_spreadHigh 0 = .ok (.iconst 1, 1) := by decide +kernel
theorem dX2_spreadHigh_1 : decode cX2_spreadHigh 1 = .ok (.istore_n 1, 1) := by decide +kernel
theorem dX2_spreadHigh_2 : decode cX2_spreadHigh 2 = .ok (.aload_n 0, 1) := by decide +kernel
theorem dX2_spreadHigh_3 : decode cX2_spreadHigh 3 = .ok (.getfield 18, 3) := by decide +kernel
theorem dX2_spreadHigh_6 : decode cX2_spreadHigh 6 = .ok (.iconst 0, 1) := by decide +kernel
theorem dX2_spreadHigh_7 : decode cX2_spreadHigh 7 = .ok (.iconst 0, 1) := by decide +kernel
theorem dX2_spreadHigh_8 : decode cX2_spreadHigh 8 = .ok (.invokestatic 31, 3) := by decide +kernel
theorem dX2_spreadHigh_11 : decode cX2_spreadHigh 11 = .ok (.bipush 8, 2) := by decide +kernel
theorem dX2_spreadHigh_13 : decode cX2_spreadHigh 13 = .ok (.istore_n 2, 1) := by decide +kernel
theorem dX2_spreadHigh_14 : decode cX2_spreadHigh 14 = .ok (.iload_n 2, 1) := by decide +kernel
theorem dX2_spreadHigh_15 : decode cX2_spreadHigh 15 = .ok (.aload_n 0, 1) := by decide +kernel
theorem dX2_spreadHigh_16 : decode cX2_spreadHigh 16 = .ok (.getfield 27, 3) := by decide +kernel
theorem dX2_spreadHigh_19 : decode cX2_spreadHigh 19 = .ok (.if_icmp .ge 59, 3) := by decide +kernel
theorem dX2_spreadHigh_22 : decode cX2_spreadHigh 22 = .ok (.iload_n 2, 1) := by decide +kernel
theorem dX2_spreadHigh_23 : decode cX2_spreadHigh 23 = .ok (.bipush 16, 2) := by decide +kernel
theorem dX2_spreadHigh_25 : decode cX2_spreadHigh 25 = .ok (.if_icmp .ge 53, 3) := by decide +kernel
theorem dX2_spreadHigh_28 : decode cX2_spreadHigh 28 = .ok (.iconst 0, 1) := by decide +kernel
theorem dX2_spreadHigh_29 : decode cX2_spreadHigh 29 = .ok (.istore_n 3, 1) := by decide +kernel
theorem dX2_spreadHigh_30 : decode cX2_spreadHigh 30 = .ok (.iload_n 3, 1) := by decide +kernel
theorem dX2_spreadHigh_31 : decode cX2_spreadHigh 31 = .ok (.iload_n 1, 1) := by decide +kernel
theorem dX2_spreadHigh_32 : decode cX2_spreadHigh 32 = .ok (.if_icmp .ge 36, 3) := by decide +kernel
theorem dX2_spreadHigh_35 : decode cX2_spreadHigh 35 = .ok (.aload_n 0, 1) := by decide +kernel
theorem dX2_spreadHigh_36 : decode cX2_spreadHigh 36 = .ok (.getfield 18, 3) := by decide +kernel
theorem dX2_spreadHigh_39 : decode cX2_spreadHigh 39 = .ok (.iload_n 1, 1) := by decide +kernel
theorem dX2_spreadHigh_40 : decode cX2_spreadHigh 40 = .ok (.iload_n 3, 1) := by decide +kernel
theorem dX2_spreadHigh_41 : decode cX2_spreadHigh 41 = .ok (.iadd, 1) := by decide +kernel
theorem dX2_spreadHigh_42 : decode cX2_spreadHigh 42 = .ok (.aload_n 0, 1) := by decide +kernel
theorem dX2_spreadHigh_43 : decode cX2_spreadHigh 43 = .ok (.getfield 18, 3) := by decide +kernel
theorem dX2_spreadHigh_46 : decode cX2_spreadHigh 46 = .ok (.iload_n 3, 1) := by decide +kernel
theorem dX2_spreadHigh_47 : decode cX2_spreadHigh 47 = .ok (.invokestatic 43, 3) := by decide +kernel
theorem dX2_spreadHigh_50 : decode cX2_spreadHigh 50 = .ok (.aload_n 0, 1) := by decide +kernel
theorem dX2_spreadHigh_51 : decode cX2_spreadHigh 51 = .ok (.getfield 15, 3) := by decide +kernel
theorem dX2_spreadHigh_54 : decode cX2_spreadHigh 54 = .ok (.iload_n 2, 1) := by decide +kernel
theorem dX2_spreadHigh_55 : decode cX2_spreadHigh 55 = .ok (.invokestatic 43, 3) := by decide +kernel
theorem dX2_spreadHigh_58 : decode cX2_spreadHigh 58 = .ok (.iadd, 1) := by decide +kernel
theorem dX2_spreadHigh_59 : decode cX2_spreadHigh 59 = .ok (.invokestatic 31, 3) := by decide +kernel
theorem dX2_spreadHigh_62 : decode cX2_spreadHigh 62 = .ok (.iinc 3 1, 3) := by decide +kernel
theorem dX2_spreadHigh_65 : decode cX2_spreadHigh 65 = .ok (.goto (-35), 3) := by decide +kernel
theorem dX2_spreadHigh_68 : decode cX2_spreadHigh 68 = .ok (.iload_n 1, 1) := by decide +kernel
theorem dX2_spreadHigh_69 : decode cX2_spreadHigh 69 = .ok (.iconst 2, 1) := by decide +kernel
theorem dX2_spreadHigh_70 : decode cX2_spreadHigh 70 = .ok (.imul, 1) := by decide +kernel
theorem dX2_spreadHigh_71 : decode cX2_spreadHigh 71 = .ok (.istore_n 1, 1) := by decide +kernel
theorem dX2_spreadHigh_72 : decode cX2_spreadHigh 72 = .ok (.iinc 2 1, 3) := by decide +kernel
theorem dX2_spreadHigh_75 : decode cX2_spreadHigh 75 = .ok (.goto (-61), 3) := by decide +kernel
theorem dX2_spreadHigh_78 : decode cX2_spreadHigh 78 = .ok (.iload_n 1, 1) := by decide +kernel
theorem dX2_spreadHigh_79 : decode cX2_spreadHigh 79 = .ok (.ireturn, 1) := by decide +kernel
theorem dX2_firstFrom_0 : decode cX2_firstFrom 0 = .ok (.iconst 0, 1) := by decide +kernel
theorem dX2_firstFrom_1 : decode cX2_firstFrom 1 = .ok (.istore_n 2, 1) := by decide +kernel
theorem dX2_firstFrom_2 : decode cX2_firstFrom 2 = .ok (.sipush 256, 3) := by decide +kernel
theorem dX2_firstFrom_5 : decode cX2_firstFrom 5 = .ok (.istore_n 3, 1) := by decide +kernel
theorem dX2_firstFrom_6 : decode cX2_firstFrom 6 = .ok (.iload_n 3, 1) := by decide +kernel
theorem dX2_firstFrom_7 : decode cX2_firstFrom 7 = .ok (.ifCond .le 43, 3) := by decide +kernel
theorem dX2_firstFrom_10 : decode cX2_firstFrom 10 = .ok (.iload_n 2, 1) := by decide +kernel
theorem dX2_firstFrom_11 : decode cX2_firstFrom 11 = .ok (.iload_n 3, 1) := by decide +kernel
theorem dX2_firstFrom_12 : decode cX2_firstFrom 12 = .ok (.iadd, 1) := by decide +kernel
theorem dX2_firstFrom_13 : decode cX2_firstFrom 13 = .ok (.istore 4, 2) := by decide +kernel
theorem dX2_firstFrom_15 : decode cX2_firstFrom 15 = .ok (.iload 4, 2) := by decide +kernel
theorem dX2_firstFrom_17 : decode cX2_firstFrom 17 = .ok (.aload_n 0, 1) := by decide +kernel
theorem dX2_firstFrom_18 : decode cX2_firstFrom 18 = .ok (.getfield 72, 3) := by decide +kernel
theorem dX2_firstFrom_21 : decode cX2_firstFrom 21 = .ok (.if_icmp .gt 20, 3) := by decide +kernel
theorem dX2_firstFrom_24 : decode cX2_firstFrom 24 = .ok (.aload_n 0, 1) := by decide +kernel
theorem dX2_firstFrom_25 : decode cX2_firstFrom 25 = .ok (.iload 4, 2) := by decide +kernel
theorem dX2_firstFrom_27 : decode cX2_firstFrom 27 = .ok (.iconst 1, 1) := by decide +kernel
theorem dX2_firstFrom_28 : decode cX2_firstFrom 28 = .ok (.isub, 1) := by decide +kernel
theorem dX2_firstFrom_29 : decode cX2_firstFrom 29 = .ok (.invokevirtual 54, 3) := by decide +kernel
theorem dX2_firstFrom_32 : decode cX2_firstFrom 32 = .ok (.iload_n 1, 1) := by decide +kernel
theorem dX2_firstFrom_33 : decode cX2_firstFrom 33 = .ok (.if_icmp .ge 8, 3) := by decide +kernel
theorem dX2_firstFrom_36 : decode cX2_firstFrom 36 = .ok (.iload 4, 2) := by decide +kernel
theorem dX2_firstFrom_38 : decode cX2_firstFrom 38 = .ok (.goto 4, 3) := by decide +kernel
theorem dX2_firstFrom_41 : decode cX2_firstFrom 41 = .ok (.iload_n 2, 1) := by decide +kernel
theorem dX2_firstFrom_42 : decode cX2_firstFrom 42 = .ok (.istore_n 2, 1) := by decide +kernel
theorem dX2_firstFrom_43 : decode cX2_firstFrom 43 = .ok (.iload_n 3, 1) := by decide +kernel
theorem dX2_firstFrom_44 : decode cX2_firstFrom 44 = .ok (.iconst 2, 1) := by decide +kernel
theorem dX2_firstFrom_45 : decode cX2_firstFrom 45 = .ok (.idiv, 1) := by decide +kernel
theorem dX2_firstFrom_46 : decode cX2_firstFrom 46 = .ok (.istore_n 3, 1) := by decide +kernel
theorem dX2_firstFrom_47 : decode cX2_firstFrom 47 = .ok (.goto (-41), 3) := by decide +kernel
theorem dX2_firstFrom_50 : decode cX2_firstFrom 50 = .ok (.iload_n 2, 1) := by decide +kernel
theorem dX2_firstFrom_51 : decode cX2_firstFrom 51 = .ok (.ireturn, 1) := by decide +kernel
theorem dX2_sumAt_0 : decode cX2_sumAt 0 = .ok (.aload_n 0, 1) := by decide +kernel
theorem dX2_sumAt_1 : decode cX2_sumAt 1 = .ok (.getfield 21, 3) := by decide +kernel
theorem dX2_sumAt_4 : decode cX2_sumAt 4 = .ok (.iload_n 1, 1) := by decide +kernel
theorem dX2_sumAt_5 : decode cX2_sumAt 5 = .ok (.invokestatic 43, 3) := by decide +kernel
theorem dX2_sumAt_8 : decode cX2_sumAt 8 = .ok (.bipush 12, 2) := by decide +kernel
theorem dX2_sumAt_10 : decode cX2_sumAt 10 = .ok (.ishr, 1) := by decide +kernel
theorem dX2_sumAt_11 : decode cX2_sumAt 11 = .ok (.ireturn, 1) := by decide +kernel
theorem dX2_bitsAt_0 : decode cX2_bitsAt 0 = .ok (.aload_n 0, 1) := by decide +kernel
theorem dX2_bitsAt_1 : decode cX2_bitsAt 1 = .ok (.getfield 21, 3) := by decide +kernel
theorem dX2_bitsAt_4 : decode cX2_bitsAt 4 = .ok (.iload_n 1, 1) := by decide +kernel
theorem dX2_bitsAt_5 : decode cX2_bitsAt 5 = .ok (.invokestatic 43, 3) := by decide +kernel
theorem dX2_bitsAt_8 : decode cX2_bitsAt 8 = .ok (.sipush 255, 3) := by decide +kernel
theorem dX2_bitsAt_11 : decode cX2_bitsAt 11 = .ok (.iand, 1) := by decide +kernel
theorem dX2_bitsAt_12 : decode cX2_bitsAt 12 = .ok (.ireturn, 1) := by decide +kernel
theorem dX2_asCords_0 : decode cX2_asCords 0 = .ok (.iconst 0, 1) := by decide +kernel
theorem dX2_asCords_1 : decode cX2_asCords 1 = .ok (.istore_n 2, 1) := by decide +kernel
theorem dX2_asCords_2 : decode cX2_asCords 2 = .ok (.iconst 0, 1) := by decide +kernel
theorem dX2_asCords_3 : decode cX2_asCords 3 = .ok (.istore_n 3, 1) := by decide +kernel
theorem dX2_asCords_4 : decode cX2_asCords 4 = .ok (.iload_n 3, 1) := by decide +kernel
theorem dX2_asCords_5 : decode cX2_asCords 5 = .ok (.aload_n 0, 1) := by decide +kernel
theorem dX2_asCords_6 : decode cX2_asCords 6 = .ok (.getfield 27, 3) := by decide +kernel
theorem dX2_asCords_9 : decode cX2_asCords 9 = .ok (.if_icmp .ge 26, 3) := by decide +kernel
theorem dX2_asCords_12 : decode cX2_asCords 12 = .ok (.iload_n 2, 1) := by decide +kernel
theorem dX2_asCords_13 : decode cX2_asCords 13 = .ok (.iload_n 1, 1) := by decide +kernel
theorem dX2_asCords_14 : decode cX2_asCords 14 = .ok (.iload_n 3, 1) := by decide +kernel
theorem dX2_asCords_15 : decode cX2_asCords 15 = .ok (.ishr, 1) := by decide +kernel
theorem dX2_asCords_16 : decode cX2_asCords 16 = .ok (.iconst 1, 1) := by decide +kernel
theorem dX2_asCords_17 : decode cX2_asCords 17 = .ok (.iand, 1) := by decide +kernel
theorem dX2_asCords_18 : decode cX2_asCords 18 = .ok (.aload_n 0, 1) := by decide +kernel
theorem dX2_asCords_19 : decode cX2_asCords 19 = .ok (.getfield 11, 3) := by decide +kernel
theorem dX2_asCords_22 : decode cX2_asCords 22 = .ok (.iload_n 3, 1) := by decide +kernel
theorem dX2_asCords_23 : decode cX2_asCords 23 = .ok (.invokestatic 43, 3) := by decide +kernel
theorem dX2_asCords_26 : decode cX2_asCords 26 = .ok (.ishl, 1) := by decide +kernel
theorem dX2_asCords_27 : decode cX2_asCords 27 = .ok (.ior, 1) := by decide +kernel
theorem dX2_asCords_28 : decode cX2_asCords 28 = .ok (.istore_n 2, 1) := by decide +kernel
theorem dX2_asCords_29 : decode cX2_asCords 29 = .ok (.iinc 3 1, 3) := by decide +kernel
theorem dX2_asCords_32 : decode cX2_asCords 32 = .ok (.goto (-28), 3) := by decide +kernel
theorem dX2_asCords_35 : decode cX2_asCords 35 = .ok (.iload_n 2, 1) := by decide +kernel
theorem dX2_asCords_36 : decode cX2_asCords 36 = .ok (.ireturn, 1) := by decide +kernel
theorem dX3_init_0 : decode cX3_init 0 = .ok (.aload_n 0, 1) := by decide +kernel
theorem dX3_init_1 : decode cX3_init 1 = .ok (.invokespecial 1, 3) := by decide +kernel
theorem dX3_init_4 : decode cX3_init 4 = .ok (.aload_n 0, 1) := by decide +kernel
theorem dX3_init_5 : decode cX3_init 5 = .ok (.iload_n 1, 1) := by decide +kernel
theorem dX3_init_6 : decode cX3_init 6 = .ok (.iconst 1, 1) := by decide +kernel
theorem dX3_init_7 : decode cX3_init 7 = .ok (.invokestatic 7, 3) := by decide +kernel
theorem dX3_init_10 : decode cX3_init 10 = .ok (.putfield 13, 3) := by decide +kernel
theorem dX3_init_13 : decode cX3_init 13 = .ok (.aload_n 0, 1) := by decide +kernel
theorem dX3_init_14 : decode cX3_init 14 = .ok (.aload_n 0, 1) := by decide +kernel
theorem dX3_init_15 : decode cX3_init 15 = .ok (.getfield 13, 3) := by decide +kernel
theorem dX3_init_18 : decode cX3_init 18 = .ok (.sipush 179, 3) := by decide +kernel
theorem dX3_init_21 : decode cX3_init 21 = .ok (.imul, 1) := by decide +kernel
theorem dX3_init_22 : decode cX3_init 22 = .ok (.newarray .int, 2) := by decide +kernel
theorem dX3_init_24 : decode cX3_init 24 = .ok (.putfield 21, 3) := by decide +kernel
theorem dX3_init_27 : decode cX3_init 27 = .ok (.return_, 1) := by decide +kernel
theorem dX3_clear_0 : decode cX3_clear 0 = .ok (.aload_n 0, 1) := by decide +kernel
theorem dX3_clear_1 : decode cX3_clear 1 = .ok (.iconst 0, 1) := by decide +kernel
theorem dX3_clear_2 : decode cX3_clear 2 = .ok (.putfield 25, 3) := by decide +kernel
theorem dX3_clear_5 : decode cX3_clear 5 = .ok (.return_, 1) := by decide +kernel
theorem dX3_add_0 : decode cX3_add 0 = .ok (.aload_n 0, 1) := by decide +kernel
theorem dX3_add_1 : decode cX3_add 1 = .ok (.getfield 25, 3) := by decide +kernel
theorem dX3_add_4 : decode cX3_add 4 = .ok (.aload_n 0, 1) := by decide +kernel
theorem dX3_add_5 : decode cX3_add 5 = .ok (.getfield 13, 3) := by decide +kernel
theorem dX3_add_8 : decode cX3_add 8 = .ok (.if_icmp .lt 52, 3) := by decide +kernel
theorem dX3_add_11 : decode cX3_add 11 = .ok (.iconst 1, 1) := by decide +kernel
theorem dX3_add_12 : decode cX3_add 12 = .ok (.istore_n 2, 1) := by decide +kernel
theorem dX3_add_13 : decode cX3_add 13 = .ok (.iload_n 2, 1) := by decide +kernel
theorem dX3_add_14 : decode cX3_add 14 = .ok (.aload_n 0, 1) := by decide +kernel
theorem dX3_add_15 : decode cX3_add 15 = .ok (.getfield 13, 3) := by decide +kernel
theorem dX3_add_18 : decode cX3_add 18 = .ok (.if_icmp .ge 32, 3) := by decide +kernel
theorem dX3_add_21 : decode cX3_add 21 = .ok (.aload_n 0, 1) := by decide +kernel
theorem dX3_add_22 : decode cX3_add 22 = .ok (.getfield 21, 3) := by decide +kernel
theorem dX3_add_25 : decode cX3_add 25 = .ok (.iload_n 2, 1) := by decide +kernel
theorem dX3_add_26 : decode cX3_add 26 = .ok (.sipush 179, 3) := by decide +kernel
theorem dX3_add_29 : decode cX3_add 29 = .ok (.imul, 1) := by decide +kernel
theorem dX3_add_30 : decode cX3_add 30 = .ok (.aload_n 0, 1) := by decide +kernel
theorem dX3_add_31 : decode cX3_add 31 = .ok (.getfield 21, 3) := by decide +kernel
theorem dX3_add_34 : decode cX3_add 34 = .ok (.iload_n 2, 1) := by decide +kernel
theorem dX3_add_35 : decode cX3_add 35 = .ok (.iconst 1, 1) := by decide +kernel
theorem dX3_add_36 : decode cX3_add 36 = .ok (.isub, 1) := by decide +kernel
theorem dX3_add_37 : decode cX3_add 37 = .ok (.sipush 179, 3) := by decide +kernel
theorem dX3_add_40 : decode cX3_add 40 = .ok (.imul, 1) := by decide +kernel
theorem dX3_add_41 : decode cX3_add 41 = .ok (.invokestatic 28, 3) := by decide +kernel
theorem dX3_add_44 : decode cX3_add 44 = .ok (.iinc 2 1, 3) := by decide +kernel
theorem dX3_add_47 : decode cX3_add 47 = .ok (.goto (-34), 3) := by decide +kernel
theorem dX3_add_50 : decode cX3_add 50 = .ok (.aload_n 0, 1) := by decide +kernel
theorem dX3_add_51 : decode cX3_add 51 = .ok (.aload_n 0, 1) := by decide +kernel
theorem dX3_add_52 : decode cX3_add 52 = .ok (.getfield 13, 3) := by decide +kernel
theorem dX3_add_55 : decode cX3_add 55 = .ok (.iconst 1, 1) := by decide +kernel
theorem dX3_add_56 : decode cX3_add 56 = .ok (.isub, 1) := by decide +kernel
theorem dX3_add_57 : decode cX3_add 57 = .ok (.putfield 25, 3) := by decide +kernel
theorem dX3_add_60 : decode cX3_add 60 = .ok (.aload_n 1, 1) := by decide +kernel
theorem dX3_add_61 : decode cX3_add 61 = .ok (.iconst 0, 1) := by decide +kernel
theorem dX3_add_62 : decode cX3_add 62 = .ok (.aload_n 0, 1) := by decide +kernel
theorem dX3_add_63 : decode cX3_add 63 = .ok (.getfield 21, 3) := by decide +kernel
theorem dX3_add_66 : decode cX3_add 66 = .ok (.aload_n 0, 1) := by decide +kernel
theorem dX3_add_67 : decode cX3_add 67 = .ok (.getfield 25, 3) := by decide +kernel
theorem dX3_add_70 : decode cX3_add 70 = .ok (.sipush 179, 3) := by decide +kernel
theorem dX3_add_73 : decode cX3_add 73 = .ok (.imul, 1) := by decide +kernel
theorem dX3_add_74 : decode cX3_add 74 = .ok (.invokestatic 28, 3) := by decide +kernel
theorem dX3_add_77 : decode cX3_add 77 = .ok (.aload_n 0, 1) := by decide +kernel
theorem dX3_add_78 : decode cX3_add 78 = .ok (.dup, 1) := by decide +kernel
theorem dX3_add_79 : decode cX3_add 79 = .ok (.getfield 25, 3) := by decide +kernel
theorem dX3_add_82 : decode cX3_add 82 = .ok (.iconst 1, 1) := by decide +kernel
theorem dX3_add_83 : decode cX3_add 83 = .ok (.iadd, 1) := by decide +kernel
theorem dX3_add_84 : decode cX3_add 84 = .ok (.putfield 25, 3) := by decide +kernel
theorem dX3_add_87 : decode cX3_add 87 = .ok (.return_, 1) := by decide +kernel
theorem dX3_takeInto_0 : decode cX3_takeInto 0 = .ok (.aload_n 0, 1) := by decide +kernel
theorem dX3_takeInto_1 : decode cX3_takeInto 1 = .ok (.getfield 25, 3) := by decide +kernel
theorem dX3_takeInto_4 : decode cX3_takeInto 4 = .ok (.ifCond .le 30, 3) := by decide +kernel
theorem dX3_takeInto_7 : decode cX3_takeInto 7 = .ok (.aload_n 0, 1) := by decide +kernel
theorem dX3_takeInto_8 : decode cX3_takeInto 8 = .ok (.dup, 1) := by decide +kernel
theorem dX3_takeInto_9 : decode cX3_takeInto 9 = .ok (.getfield 25, 3) := by decide +kernel
theorem dX3_takeInto_12 : decode cX3_takeInto 12 = .ok (.iconst 1, 1) := by decide +kernel
theorem dX3_takeInto_13 : decode cX3_takeInto 13 = .ok (.isub, 1) := by decide +kernel
theorem dX3_takeInto_14 : decode cX3_takeInto 14 = .ok (.putfield 25, 3) := by decide +kernel
theorem dX3_takeInto_17 : decode cX3_takeInto 17 = .ok (.aload_n 0, 1) := by decide +kernel
theorem dX3_takeInto_18 : decode cX3_takeInto 18 = .ok (.getfield 21, 3) := by decide +kernel
theorem dX3_takeInto_21 : decode cX3_takeInto 21 = .ok (.aload_n 0, 1) := by decide +kernel
theorem dX3_takeInto_22 : decode cX3_takeInto 22 = .ok (.getfield 25, 3) := by decide +kernel
theorem dX3_takeInto_25 : decode cX3_takeInto 25 = .ok (.sipush 179, 3) := by decide +kernel
theorem dX3_takeInto_28 : decode cX3_takeInto 28 = .ok (.imul, 1) := by decide +kernel
theorem dX3_takeInto_29 : decode cX3_takeInto 29 = .ok (.aload_n 1, 1) := by decide +kernel
theorem dX3_takeInto_30 : decode cX3_takeInto 30 = .ok (.iconst 0, 1) := by decide +kernel
theorem dX3_takeInto_31 : decode cX3_takeInto 31 = .ok (.invokestatic 28, 3) := by decide +kernel
theorem dX3_takeInto_34 : decode cX3_takeInto 34 = .ok (.return_, 1) := by decide +kernel
theorem dX4_init_0 : decode cX4_init 0 = .ok (.aload_n 0, 1) := by decide +kernel
theorem dX4_init_1 : decode cX4_init 1 = .ok (.invokespecial 1, 3) := by decide +kernel
theorem dX4_init_4 : decode cX4_init 4 = .ok (.aload_n 0, 1) := by decide +kernel
theorem dX4_init_5 : decode cX4_init 5 = .ok (.sipush 200, 3) := by decide +kernel
theorem dX4_init_8 : decode cX4_init 8 = .ok (.newarray .char, 2) := by decide +kernel
theorem dX4_init_10 : decode cX4_init 10 = .ok (.putfield 9, 3) := by decide +kernel
theorem dX4_init_13 : decode cX4_init 13 = .ok (.aload_n 0, 1) := by decide +kernel
theorem dX4_init_14 : decode cX4_init 14 = .ok (.new 13, 3) := by decide +kernel
theorem dX4_init_17 : decode cX4_init 17 = .ok (.dup, 1) := by decide +kernel
theorem dX4_init_18 : decode cX4_init 18 = .ok (.invokespecial 15, 3) := by decide +kernel
theorem dX4_init_21 : decode cX4_init 21 = .ok (.putfield 16, 3) := by decide +kernel
theorem dX4_init_24 : decode cX4_init 24 = .ok (.aload_n 0, 1) := by decide +kernel
theorem dX4_init_25 : decode cX4_init 25 = .ok (.new 20, 3) := by decide +kernel
theorem dX4_init_28 : decode cX4_init 28 = .ok (.dup, 1) := by decide +kernel
theorem dX4_init_29 : decode cX4_init 29 = .ok (.invokespecial 22, 3) := by decide +kernel
theorem dX4_init_32 : decode cX4_init 32 = .ok (.putfield 23, 3) := by decide +kernel
theorem dX4_init_35 : decode cX4_init 35 = .ok (.aload_n 0, 1) := by decide +kernel
theorem dX4_init_36 : decode cX4_init 36 = .ok (.new 27, 3) := by decide +kernel
theorem dX4_init_39 : decode cX4_init 39 = .ok (.dup, 1) := by decide +kernel
theorem dX4_init_40 : decode cX4_init 40 = .ok (.bipush 8, 2) := by decide +kernel
theorem dX4_init_42 : decode cX4_init 42 = .ok (.invokespecial 29, 3) := by decide +kernel
theorem dX4_init_45 : decode cX4_init 45 = .ok (.putfield 32, 3) := by decide +kernel
theorem dX4_init_48 : decode cX4_init 48 = .ok (.aload_n 0, 1) := by decide +kernel
theorem dX4_init_49 : decode cX4_init 49 = .ok (.new 27, 3) := by decide +kernel
theorem dX4_init_52 : decode cX4_init 52 = .ok (.dup, 1) := by decide +kernel
theorem dX4_init_53 : decode cX4_init 53 = .ok (.iconst 2, 1) := by decide +kernel
theorem dX4_init_54 : decode cX4_init 54 = .ok (.invokespecial 29, 3) := by decide +kernel
theorem dX4_init_57 : decode cX4_init 57 = .ok (.putfield 36, 3) := by decide +kernel
theorem dX4_init_60 : decode cX4_init 60 = .ok (.aload_n 0, 1) := by decide +kernel
theorem dX4_init_61 : decode cX4_init 61 = .ok (.new 39, 3) := by decide +kernel
theorem dX4_init_64 : decode cX4_init 64 = .ok (.dup, 1) := by decide +kernel
theorem dX4_init_65 : decode cX4_init 65 = .ok (.invokespecial 41, 3) := by decide +kernel
theorem dX4_init_68 : decode cX4_init 68 = .ok (.putfield 42, 3) := by decide +kernel
theorem dX4_init_71 : decode cX4_init 71 = .ok (.aload_n 0, 1) := by decide +kernel
theorem dX4_init_72 : decode cX4_init 72 = .ok (.iconst 4, 1) := by decide +kernel
theorem dX4_init_73 : decode cX4_init 73 = .ok (.newarray .int, 2) := by decide +kernel
theorem dX4_init_75 : decode cX4_init 75 = .ok (.putfield 46, 3) := by decide +kernel
theorem dX4_init_78 : decode cX4_init 78 = .ok (.aload_n 0, 1) := by decide +kernel
theorem dX4_init_79 : decode cX4_init 79 = .ok (.iconst 4, 1) := by decide +kernel
theorem dX4_init_80 : decode cX4_init 80 = .ok (.newarray .int, 2) := by decide +kernel
theorem dX4_init_82 : decode cX4_init 82 = .ok (.putfield 50, 3) := by decide +kernel
theorem dX4_init_85 : decode cX4_init 85 = .ok (.aload_n 0, 1) := by decide +kernel
theorem dX4_init_86 : decode cX4_init 86 = .ok (.bipush 16, 2) := by decide +kernel
theorem dX4_init_88 : decode cX4_init 88 = .ok (.newarray .int, 2) := by decide +kernel
theorem dX4_init_90 : decode cX4_init 90 = .ok (.putfield 53, 3) := by decide +kernel
theorem dX4_init_93 : decode cX4_init 93 = .ok (.aload_n 0, 1) := by decide +kernel
theorem dX4_init_94 : decode cX4_init 94 = .ok (.bipush 16, 2) := by decide +kernel
theorem dX4_init_96 : decode cX4_init 96 = .ok (.newarray .int, 2) := by decide +kernel
theorem dX4_init_98 : decode cX4_init 98 = .ok (.putfield 56, 3) := by decide +kernel
theorem dX4_init_101 : decode cX4_init 101 = .ok (.aload_n 0, 1) := by decide +kernel
theorem dX4_init_102 : decode cX4_init 102 = .ok (.getfield 16, 3) := by decide +kernel
theorem dX4_init_105 : decode cX4_init 105 = .ok (.ldc 59, 2) := by decide +kernel
theorem dX4_init_107 : decode cX4_init 107 = .ok (.invokevirtual 61, 3) := by decide +kernel
theorem dX4_init_110 : decode cX4_init 110 = .ok (.ldc 59, 2) := by decide +kernel
theorem dX4_init_112 : decode cX4_init 112 = .ok (.invokevirtual 67, 3) := by decide +kernel
theorem dX4_init_115 : decode cX4_init 115 = .ok (.invokevirtual 71, 3) := by decide +kernel
theorem dX4_init_118 : decode cX4_init 118 = .ok (.pop, 1) := by decide +kernel
theorem dX4_init_119 : decode cX4_init 119 = .ok (.aload_n 0, 1) := by decide +kernel
theorem dX4_init_120 : decode cX4_init 120 = .ok (.getfield 23, 3) := by decide +kernel
theorem dX4_init_123 : decode cX4_init 123 = .ok (.aload_n 0, 1) := by decide +kernel
theorem dX4_init_124 : decode cX4_init 124 = .ok (.getfield 16, 3) := by decide +kernel
theorem dX4_init_127 : decode cX4_init 127 = .ok (.getfield 75, 3) := by decide +kernel
theorem dX4_init_130 : decode cX4_init 130 = .ok (.getfield 78, 3) := by decide +kernel
theorem dX4_init_133 : decode cX4_init 133 = .ok (.invokevirtual 81, 3) := by decide +kernel
theorem dX4_init_136 : decode cX4_init 136 = .ok (.return_, 1) := by decide +kernel
theorem dX4_write_0 : decode cX4_write 0 = .ok (.iload_n 1, 1) := by decide +kernel
theorem dX4_write_1 : decode cX4_write 1 = .ok (.bipush 32, 2) := by decide +kernel
theorem dX4_write_3 : decode cX4_write 3 = .ok (.if_icmp .lt 9, 3) := by decide +kernel
theorem dX4_write_6 : decode cX4_write 6 = .ok (.iload_n 1, 1) := by decide +kernel
theorem dX4_write_7 : decode cX4_write 7 = .ok (.bipush 126, 2) := by decide +kernel
theorem dX4_write_9 : decode cX4_write 9 = .ok (.if_icmp .le 5, 3) := by decide +kernel
theorem dX4_write_12 : decode cX4_write 12 = .ok (.iconst (-1), 1) := by decide +kernel
theorem dX4_write_13 : decode cX4_write 13 = .ok (.ireturn, 1) := by decide +kernel
theorem dX4_write_14 : decode cX4_write 14 = .ok (.aload_n 0, 1) := by decide +kernel
theorem dX4_write_15 : decode cX4_write 15 = .ok (.getfield 85, 3) := by decide +kernel
theorem dX4_write_18 : decode cX4_write 18 = .ok (.ifCond .lt 15, 3) := by decide +kernel
theorem dX4_write_21 : decode cX4_write 21 = .ok (.aload_n 0, 1) := by decide +kernel
theorem dX4_write_22 : decode cX4_write 22 = .ok (.getfield 85, 3) := by decide +kernel
theorem dX4_write_25 : decode cX4_write 25 = .ok (.aload_n 0, 1) := by decide +kernel
theorem dX4_write_26 : decode cX4_write 26 = .ok (.getfield 9, 3) := by decide +kernel
theorem dX4_write_29 : decode cX4_write 29 = .ok (.arraylength, 1) := by decide +kernel
theorem dX4_write_30 : decode cX4_write 30 = .ok (.if_icmp .lt 6, 3) := by decide +kernel
theorem dX4_write_33 : decode cX4_write 33 = .ok (.bipush (-3), 2) := by decide +kernel
theorem dX4_write_35 : decode cX4_write 35 = .ok (.ireturn, 1) := by decide +kernel
theorem dX4_write_36 : decode cX4_write 36 = .ok (.aload_n 0, 1) := by decide +kernel
theorem dX4_write_37 : decode cX4_write 37 = .ok (.getfield 9, 3) := by decide +kernel
theorem dX4_write_40 : decode cX4_write 40 = .ok (.aload_n 0, 1) := by decide +kernel
theorem dX4_write_41 : decode cX4_write 41 = .ok (.getfield 85, 3) := by decide +kernel
theorem dX4_write_44 : decode cX4_write 44 = .ok (.iload_n 1, 1) := by decide +kernel
theorem dX4_write_45 : decode cX4_write 45 = .ok (.i2c, 1) := by decide +kernel
theorem dX4_write_46 : decode cX4_write 46 = .ok (.castore, 1) := by decide +kernel
theorem dX4_write_47 : decode cX4_write 47 = .ok (.aload_n 0, 1) := by decide +kernel
theorem dX4_write_48 : decode cX4_write 48 = .ok (.dup, 1) := by decide +kernel
theorem dX4_write_49 : decode cX4_write 49 = .ok (.getfield 85, 3) := by decide +kernel
theorem dX4_write_52 : decode cX4_write 52 = .ok (.iconst 1, 1) := by decide +kernel
theorem dX4_write_53 : decode cX4_write 53 = .ok (.iadd, 1) := by decide +kernel
theorem dX4_write_54 : decode cX4_write 54 = .ok (.putfield 85, 3) := by decide +kernel
theorem dX4_write_57 : decode cX4_write 57 = .ok (.aload_n 0, 1) := by decide +kernel
theorem dX4_write_58 : decode cX4_write 58 = .ok (.getfield 85, 3) := by decide +kernel
theorem dX4_write_61 : decode cX4_write 61 = .ok (.ireturn, 1) := by decide +kernel
theorem dX4_wipe_0 : decode cX4_wipe 0 = .ok (.aload_n 0, 1) := by decide +kernel
theorem dX4_wipe_1 : decode cX4_wipe 1 = .ok (.getfield 85, 3) := by decide +kernel
theorem dX4_wipe_4 : decode cX4_wipe 4 = .ok (.istore_n 1, 1) := by decide +kernel
theorem dX4_wipe_5 : decode cX4_wipe 5 = .ok (.aload_n 0, 1) := by decide +kernel
theorem dX4_wipe_6 : decode cX4_wipe 6 = .ok (.iconst 0, 1) := by decide +kernel
theorem dX4_wipe_7 : decode cX4_wipe 7 = .ok (.putfield 85, 3) := by decide +kernel
theorem dX4_wipe_10 : decode cX4_wipe 10 = .ok (.iload_n 1, 1) := by decide +kernel
theorem dX4_wipe_11 : decode cX4_wipe 11 = .ok (.ireturn, 1) := by decide +kernel
theorem dX4_fault_0 : decode cX4_fault 0 = .ok (.aload_n 0, 1) := by decide +kernel
theorem dX4_fault_1 : decode cX4_fault 1 = .ok (.getfield 16, 3) := by decide +kernel
theorem dX4_fault_4 : decode cX4_fault 4 = .ok (.aload_n 0, 1) := by decide +kernel
theorem dX4_fault_5 : decode cX4_fault 5 = .ok (.getfield 9, 3) := by decide +kernel
theorem dX4_fault_8 : decode cX4_fault 8 = .ok (.aload_n 0, 1) := by decide +kernel
theorem dX4_fault_9 : decode cX4_fault 9 = .ok (.getfield 85, 3) := by decide +kernel
theorem dX4_fault_12 : decode cX4_fault 12 = .ok (.invokevirtual 71, 3) := by decide +kernel
theorem dX4_fault_15 : decode cX4_fault 15 = .ok (.ireturn, 1) := by decide +kernel
theorem dX4_lay_0 : decode cX4_lay 0 = .ok (.aload_n 0, 1) := by decide +kernel
theorem dX4_lay_1 : decode cX4_lay 1 = .ok (.getfield 85, 3) := by decide +kernel
theorem dX4_lay_4 : decode cX4_lay 4 = .ok (.ifCond .eq 23, 3) := by decide +kernel
theorem dX4_lay_7 : decode cX4_lay 7 = .ok (.aload_n 0, 1) := by decide +kernel
theorem dX4_lay_8 : decode cX4_lay 8 = .ok (.getfield 16, 3) := by decide +kernel
theorem dX4_lay_11 : decode cX4_lay 11 = .ok (.aload_n 0, 1) := by decide +kernel
theorem dX4_lay_12 : decode cX4_lay 12 = .ok (.getfield 9, 3) := by decide +kernel
theorem dX4_lay_15 : decode cX4_lay 15 = .ok (.aload_n 0, 1) := by decide +kernel
theorem dX4_lay_16 : decode cX4_lay 16 = .ok (.getfield 85, 3) := by decide +kernel
theorem dX4_lay_19 : decode cX4_lay 19 = .ok (.invokevirtual 71, 3) := by decide +kernel
theorem dX4_lay_22 : decode cX4_lay 22 = .ok (.bipush (-4), 2) := by decide +kernel
theorem dX4_lay_24 : decode cX4_lay 24 = .ok (.if_icmp .eq 6, 3) := by decide +kernel
theorem dX4_lay_27 : decode cX4_lay 27 = .ok (.bipush (-2), 2) := by decide +kernel
theorem dX4_lay_29 : decode cX4_lay 29 = .ok (.ireturn, 1) := by decide +kernel
theorem dX4_lay_30 : decode cX4_lay 30 = .ok (.aload_n 0, 1) := by decide +kernel
theorem dX4_lay_31 : decode cX4_lay 31 = .ok (.getfield 23, 3) := by decide +kernel
theorem dX4_lay_34 : decode cX4_lay 34 = .ok (.aload_n 0, 1) := by decide +kernel
theorem dX4_lay_35 : decode cX4_lay 35 = .ok (.getfield 16, 3) := by decide +kernel
theorem dX4_lay_38 : decode cX4_lay 38 = .ok (.getfield 75, 3) := by decide +kernel
theorem dX4_lay_41 : decode cX4_lay 41 = .ok (.getfield 78, 3) := by decide +kernel
theorem dX4_lay_44 : decode cX4_lay 44 = .ok (.invokevirtual 81, 3) := by decide +kernel
theorem dX4_lay_47 : decode cX4_lay 47 = .ok (.aload_n 0, 1) := by decide +kernel
theorem dX4_lay_48 : decode cX4_lay 48 = .ok (.getfield 32, 3) := by decide +kernel
theorem dX4_lay_51 : decode cX4_lay 51 = .ok (.invokevirtual 88, 3) := by decide +kernel
theorem dX4_lay_54 : decode cX4_lay 54 = .ok (.aload_n 0, 1) := by decide +kernel
theorem dX4_lay_55 : decode cX4_lay 55 = .ok (.getfield 36, 3) := by decide +kernel
theorem dX4_lay_58 : decode cX4_lay 58 = .ok (.invokevirtual 88, 3) := by decide +kernel
theorem dX4_lay_61 : decode cX4_lay 61 = .ok (.aload_n 0, 1) := by decide +kernel
theorem dX4_lay_62 : decode cX4_lay 62 = .ok (.getfield 23, 3) := by decide +kernel
theorem dX4_lay_65 : decode cX4_lay 65 = .ok (.invokevirtual 91, 3) := by decide +kernel
theorem dX4_lay_68 : decode cX4_lay 68 = .ok (.ireturn, 1) := by decide +kernel
theorem dX4_cord_0 : decode cX4_cord 0 = .ok (.aload_n 0, 1) := by decide +kernel
theorem dX4_cord_1 : decode cX4_cord 1 = .ok (.getfield 23, 3) := by decide +kernel
theorem dX4_cord_4 : decode cX4_cord 4 = .ok (.iload_n 1, 1) := by decide +kernel
theorem dX4_cord_5 : decode cX4_cord 5 = .ok (.invokevirtual 94, 3) := by decide +kernel
theorem dX4_cord_8 : decode cX4_cord 8 = .ok (.ifCond .ne 5, 3) := by decide +kernel
theorem dX4_cord_11 : decode cX4_cord 11 = .ok (.iconst (-1), 1) := by decide +kernel
theorem dX4_cord_12 : decode cX4_cord 12 = .ok (.ireturn, 1) := by decide +kernel
theorem dX4_cord_13 : decode cX4_cord 13 = .ok (.iload_n 2, 1) := by decide +kernel
theorem dX4_cord_14 : decode cX4_cord 14 = .ok (.tableswitch 165 0 10 #[58, 67, 76, 85, 94, 103, 112, 129, 138, 147, 156], 58) := by decide +kernel
theorem dX4_cord_72 : decode cX4_cord 72 = .ok (.aload_n 0, 1) := by decide +kernel
theorem dX4_cord_73 : decode cX4_cord 73 = .ok (.getfield 23, 3) := by decide +kernel
theorem dX4_cord_76 : decode cX4_cord 76 = .ok (.iload_n 1, 1) := by decide +kernel
theorem dX4_cord_77 : decode cX4_cord 77 = .ok (.invokevirtual 98, 3) := by decide +kernel
theorem dX4_cord_80 : decode cX4_cord 80 = .ok (.ireturn, 1) := by decide +kernel
theorem dX4_cord_81 : decode cX4_cord 81 = .ok (.aload_n 0, 1) := by decide +kernel
theorem dX4_cord_82 : decode cX4_cord 82 = .ok (.getfield 23, 3) := by decide +kernel
theorem dX4_cord_85 : decode cX4_cord 85 = .ok (.iload_n 1, 1) := by decide +kernel
theorem dX4_cord_86 : decode cX4_cord 86 = .ok (.invokevirtual 102, 3) := by decide +kernel
theorem dX4_cord_89 : decode cX4_cord 89 = .ok (.ireturn, 1) := by decide +kernel
theorem dX4_cord_90 : decode cX4_cord 90 = .ok (.aload_n 0, 1) := by decide +kernel
theorem dX4_cord_91 : decode cX4_cord 91 = .ok (.getfield 23, 3) := by decide +kernel
theorem dX4_cord_94 : decode cX4_cord 94 = .ok (.iload_n 1, 1) := by decide +kernel
theorem dX4_cord_95 : decode cX4_cord 95 = .ok (.invokevirtual 105, 3) := by decide +kernel
theorem dX4_cord_98 : decode cX4_cord 98 = .ok (.ireturn, 1) := by decide +kernel
theorem dX4_cord_99 : decode cX4_cord 99 = .ok (.aload_n 0, 1) := by decide +kernel
theorem dX4_cord_100 : decode cX4_cord 100 = .ok (.getfield 23, 3) := by decide +kernel
theorem dX4_cord_103 : decode cX4_cord 103 = .ok (.iload_n 1, 1) := by decide +kernel
theorem dX4_cord_104 : decode cX4_cord 104 = .ok (.invokevirtual 108, 3) := by decide +kernel
theorem dX4_cord_107 : decode cX4_cord 107 = .ok (.ireturn, 1) := by decide +kernel
theorem dX4_cord_108 : decode cX4_cord 108 = .ok (.aload_n 0, 1) := by decide +kernel
theorem dX4_cord_109 : decode cX4_cord 109 = .ok (.getfield 23, 3) := by decide +kernel
theorem dX4_cord_112 : decode cX4_cord 112 = .ok (.iload_n 1, 1) := by decide +kernel
theorem dX4_cord_113 : decode cX4_cord 113 = .ok (.invokevirtual 111, 3) := by decide +kernel
theorem dX4_cord_116 : decode cX4_cord 116 = .ok (.ireturn, 1) := by decide +kernel
theorem dX4_cord_117 : decode cX4_cord 117 = .ok (.aload_n 0, 1) := by decide +kernel
theorem dX4_cord_118 : decode cX4_cord 118 = .ok (.getfield 23, 3) := by decide +kernel
theorem dX4_cord_121 : decode cX4_cord 121 = .ok (.iload_n 1, 1) := by decide +kernel
theorem dX4_cord_122 : decode cX4_cord 122 = .ok (.invokevirtual 114, 3) := by decide +kernel
theorem dX4_cord_125 : decode cX4_cord 125 = .ok (.ireturn, 1) := by decide +kernel
theorem dX4_cord_126 : decode cX4_cord 126 = .ok (.aload_n 0, 1) := by decide +kernel
theorem dX4_cord_127 : decode cX4_cord 127 = .ok (.getfield 23, 3) := by decide +kernel
theorem dX4_cord_130 : decode cX4_cord 130 = .ok (.iload_n 1, 1) := by decide +kernel
theorem dX4_cord_131 : decode cX4_cord 131 = .ok (.invokevirtual 117, 3) := by decide +kernel
theorem dX4_cord_134 : decode cX4_cord 134 = .ok (.ifCond .eq 7, 3) := by decide +kernel
theorem dX4_cord_137 : decode cX4_cord 137 = .ok (.iconst 1, 1) := by decide +kernel
theorem dX4_cord_138 : decode cX4_cord 138 = .ok (.goto 4, 3) := by decide +kernel
theorem dX4_cord_141 : decode cX4_cord 141 = .ok (.iconst 0, 1) := by decide +kernel
theorem dX4_cord_142 : decode cX4_cord 142 = .ok (.ireturn, 1) := by decide +kernel
theorem dX4_cord_143 : decode cX4_cord 143 = .ok (.aload_n 0, 1) := by decide +kernel
theorem dX4_cord_144 : decode cX4_cord 144 = .ok (.getfield 23, 3) := by decide +kernel
theorem dX4_cord_147 : decode cX4_cord 147 = .ok (.iload_n 1, 1) := by decide +kernel
theorem dX4_cord_148 : decode cX4_cord 148 = .ok (.invokevirtual 120, 3) := by decide +kernel
theorem dX4_cord_151 : decode cX4_cord 151 = .ok (.ireturn, 1) := by decide +kernel
theorem dX4_cord_152 : decode cX4_cord 152 = .ok (.aload_n 0, 1) := by decide +kernel
theorem dX4_cord_153 : decode cX4_cord 153 = .ok (.getfield 23, 3) := by decide +kernel
theorem dX4_cord_156 : decode cX4_cord 156 = .ok (.iload_n 1, 1) := by decide +kernel
theorem dX4_cord_157 : decode cX4_cord 157 = .ok (.invokevirtual 123, 3) := by decide +kernel
theorem dX4_cord_160 : decode cX4_cord 160 = .ok (.ireturn, 1) := by decide +kernel
theorem dX4_cord_161 : decode cX4_cord 161 = .ok (.aload_n 0, 1) := by decide +kernel
theorem dX4_cord_162 : decode cX4_cord 162 = .ok (.getfield 23, 3) := by decide +kernel
theorem dX4_cord_165 : decode cX4_cord 165 = .ok (.iload_n 1, 1) := by decide +kernel
theorem dX4_cord_166 : decode cX4_cord 166 = .ok (.invokevirtual 126, 3) := by decide +kernel
theorem dX4_cord_169 : decode cX4_cord 169 = .ok (.ireturn, 1) := by decide +kernel
theorem dX4_cord_170 : decode cX4_cord 170 = .ok (.aload_n 0, 1) := by decide +kernel
theorem dX4_cord_171 : decode cX4_cord 171 = .ok (.getfield 23, 3) := by decide +kernel
theorem dX4_cord_174 : decode cX4_cord 174 = .ok (.iload_n 1, 1) := by decide +kernel
theorem dX4_cord_175 : decode cX4_cord 175 = .ok (.invokevirtual 129, 3) := by decide +kernel
theorem dX4_cord_178 : decode cX4_cord 178 = .ok (.ireturn, 1) := by decide +kernel
theorem dX4_cord_179 : decode cX4_cord 179 = .ok (.iconst (-1), 1) := by decide +kernel
theorem dX4_cord_180 : decode cX4_cord 180 = .ok (.ireturn, 1) := by decide +kernel
theorem dX4_cluster_0 : decode cX4_cluster 0 = .ok (.aload_n 0, 1) := by decide +kernel
theorem dX4_cluster_1 : decode cX4_cluster 1 = .ok (.getfield 23, 3) := by decide +kernel
theorem dX4_cluster_4 : decode cX4_cluster 4 = .ok (.iload_n 1, 1) := by decide +kernel
theorem dX4_cluster_5 : decode cX4_cluster 5 = .ok (.iload_n 2, 1) := by decide +kernel
theorem dX4_cluster_6 : decode cX4_cluster 6 = .ok (.invokevirtual 132, 3) := by decide +kernel
theorem dX4_cluster_9 : decode cX4_cluster 9 = .ok (.ifCond .eq 15, 3) := by decide +kernel
theorem dX4_cluster_12 : decode cX4_cluster 12 = .ok (.aload_n 0, 1) := by decide +kernel
theorem dX4_cluster_13 : decode cX4_cluster 13 = .ok (.getfield 23, 3) := by decide +kernel
theorem dX4_cluster_16 : decode cX4_cluster 16 = .ok (.iload_n 1, 1) := by decide +kernel
theorem dX4_cluster_17 : decode cX4_cluster 17 = .ok (.iload_n 2, 1) := by decide +kernel
theorem dX4_cluster_18 : decode cX4_cluster 18 = .ok (.invokevirtual 136, 3) := by decide +kernel
theorem dX4_cluster_21 : decode cX4_cluster 21 = .ok (.goto 4, 3) := by decide +kernel
theorem dX4_cluster_24 : decode cX4_cluster 24 = .ok (.iconst (-1), 1) := by decide +kernel
theorem dX4_cluster_25 : decode cX4_cluster 25 = .ok (.ireturn, 1) := by decide +kernel
theorem dX4_group_0 : decode cX4_group 0 = .ok (.aload_n 0, 1) := by decide +kernel
theorem dX4_group_1 : decode cX4_group 1 = .ok (.getfield 23, 3) := by decide +kernel
theorem dX4_group_4 : decode cX4_group 4 = .ok (.iload_n 1, 1) := by decide +kernel
theorem dX4_group_5 : decode cX4_group 5 = .ok (.invokevirtual 140, 3) := by decide +kernel
theorem dX4_group_8 : decode cX4_group 8 = .ok (.ifCond .ne 5, 3) := by decide +kernel
theorem dX4_group_11 : decode cX4_group 11 = .ok (.iconst (-1), 1) := by decide +kernel
theorem dX4_group_12 : decode cX4_group 12 = .ok (.ireturn, 1) := by decide +kernel
theorem dX4_group_13 : decode cX4_group 13 = .ok (.iload_n 2, 1) := by decide +kernel
theorem dX4_group_14 : decode cX4_group 14 = .ok (.tableswitch 85 0 3 #[30, 39, 48, 57], 30) := by decide +kernel
theorem dX4_group_44 : decode cX4_group 44 = .ok (.aload_n 0, 1) := by decide +kernel
theorem dX4_group_45 : decode cX4_group 45 = .ok (.getfield 23, 3) := by decide +kernel
theorem dX4_group_48 : decode cX4_group 48 = .ok (.iload_n 1, 1) := by decide +kernel
theorem dX4_group_49 : decode cX4_group 49 = .ok (.invokevirtual 143, 3) := by decide +kernel
theorem dX4_group_52 : decode cX4_group 52 = .ok (.ireturn, 1) := by decide +kernel
theorem dX4_group_53 : decode cX4_group 53 = .ok (.aload_n 0, 1) := by decide +kernel
theorem dX4_group_54 : decode cX4_group 54 = .ok (.getfield 23, 3) := by decide +kernel
theorem dX4_group_57 : decode cX4_group 57 = .ok (.iload_n 1, 1) := by decide +kernel
theorem dX4_group_58 : decode cX4_group 58 = .ok (.invokevirtual 146, 3) := by decide +kernel
theorem dX4_group_61 : decode cX4_group 61 = .ok (.ireturn, 1) := by decide +kernel
theorem dX4_group_62 : decode cX4_group 62 = .ok (.aload_n 0, 1) := by decide +kernel
theorem dX4_group_63 : decode cX4_group 63 = .ok (.getfield 23, 3) := by decide +kernel
theorem dX4_group_66 : decode cX4_group 66 = .ok (.iload_n 1, 1) := by decide +kernel
theorem dX4_group_67 : decode cX4_group 67 = .ok (.invokevirtual 149, 3) := by decide +kernel
theorem dX4_group_70 : decode cX4_group 70 = .ok (.ireturn, 1) := by decide +kernel
theorem dX4_group_71 : decode cX4_group 71 = .ok (.aload_n 0, 1) := by decide +kernel
theorem dX4_group_72 : decode cX4_group 72 = .ok (.getfield 23, 3) := by decide +kernel
theorem dX4_group_75 : decode cX4_group 75 = .ok (.iload_n 1, 1) := by decide +kernel
theorem dX4_group_76 : decode cX4_group 76 = .ok (.invokevirtual 152, 3) := by decide +kernel
theorem dX4_group_79 : decode cX4_group 79 = .ok (.ifCond .eq 18, 3) := by decide +kernel
theorem dX4_group_82 : decode cX4_group 82 = .ok (.aload_n 0, 1) := by decide +kernel
theorem dX4_group_83 : decode cX4_group 83 = .ok (.getfield 23, 3) := by decide +kernel
theorem dX4_group_86 : decode cX4_group 86 = .ok (.iload_n 1, 1) := by decide +kernel
theorem dX4_group_87 : decode cX4_group 87 = .ok (.invokevirtual 155, 3) := by decide +kernel
theorem dX4_group_90 : decode cX4_group 90 = .ok (.ifCond .ne 7, 3) := by decide +kernel
theorem dX4_group_93 : decode cX4_group 93 = .ok (.iconst 1, 1) := by decide +kernel
theorem dX4_group_94 : decode cX4_group 94 = .ok (.goto 4, 3) := by decide +kernel
theorem dX4_group_97 : decode cX4_group 97 = .ok (.iconst 0, 1) := by decide +kernel
theorem dX4_group_98 : decode cX4_group 98 = .ok (.ireturn, 1) := by decide +kernel
theorem dX4_group_99 : decode cX4_group 99 = .ok (.iconst (-1), 1) := by decide +kernel
theorem dX4_group_100 : decode cX4_group 100 = .ok (.ireturn, 1) := by decide +kernel
theorem dX4_pendant_0 : decode cX4_pendant 0 = .ok (.aload_n 0, 1) := by decide +kernel
theorem dX4_pendant_1 : decode cX4_pendant 1 = .ok (.getfield 23, 3) := by decide +kernel
theorem dX4_pendant_4 : decode cX4_pendant 4 = .ok (.iload_n 1, 1) := by decide +kernel
theorem dX4_pendant_5 : decode cX4_pendant 5 = .ok (.invokevirtual 140, 3) := by decide +kernel
theorem dX4_pendant_8 : decode cX4_pendant 8 = .ok (.ifCond .eq 19, 3) := by decide +kernel
theorem dX4_pendant_11 : decode cX4_pendant 11 = .ok (.iload_n 2, 1) := by decide +kernel
theorem dX4_pendant_12 : decode cX4_pendant 12 = .ok (.ifCond .lt 15, 3) := by decide +kernel
theorem dX4_pendant_15 : decode cX4_pendant 15 = .ok (.aload_n 0, 1) := by decide +kernel
theorem dX4_pendant_16 : decode cX4_pendant 16 = .ok (.getfield 23, 3) := by decide +kernel
theorem dX4_pendant_19 : decode cX4_pendant 19 = .ok (.iload_n 1, 1) := by decide +kernel
theorem dX4_pendant_20 : decode cX4_pendant 20 = .ok (.iload_n 2, 1) := by decide +kernel
theorem dX4_pendant_21 : decode cX4_pendant 21 = .ok (.invokevirtual 158, 3) := by decide +kernel
theorem dX4_pendant_24 : decode cX4_pendant 24 = .ok (.goto 4, 3) := by decide +kernel
theorem dX4_pendant_27 : decode cX4_pendant 27 = .ok (.iconst (-1), 1) := by decide +kernel
theorem dX4_pendant_28 : decode cX4_pendant 28 = .ok (.ireturn, 1) := by decide +kernel
theorem dX4_tie_0 : decode cX4_tie 0 = .ok (.aload_n 0, 1) := by decide +kernel
theorem dX4_tie_1 : decode cX4_tie 1 = .ok (.getfield 23, 3) := by decide +kernel
theorem dX4_tie_4 : decode cX4_tie 4 = .ok (.iload_n 1, 1) := by decide +kernel
theorem dX4_tie_5 : decode cX4_tie 5 = .ok (.invokevirtual 94, 3) := by decide +kernel
theorem dX4_tie_8 : decode cX4_tie 8 = .ok (.ifCond .eq 7, 3) := by decide +kernel
theorem dX4_tie_11 : decode cX4_tie 11 = .ok (.iload_n 2, 1) := by decide +kernel
theorem dX4_tie_12 : decode cX4_tie 12 = .ok (.ifCond .ge 5, 3) := by decide +kernel
theorem dX4_tie_15 : decode cX4_tie 15 = .ok (.iconst (-1), 1) := by decide +kernel
theorem dX4_tie_16 : decode cX4_tie 16 = .ok (.ireturn, 1) := by decide +kernel
theorem dX4_tie_17 : decode cX4_tie 17 = .ok (.iload_n 2, 1) := by decide +kernel
theorem dX4_tie_18 : decode cX4_tie 18 = .ok (.aload_n 0, 1) := by decide +kernel
theorem dX4_tie_19 : decode cX4_tie 19 = .ok (.getfield 23, 3) := by decide +kernel
theorem dX4_tie_22 : decode cX4_tie 22 = .ok (.iload_n 1, 1) := by decide +kernel
theorem dX4_tie_23 : decode cX4_tie 23 = .ok (.invokevirtual 161, 3) := by decide +kernel
theorem dX4_tie_26 : decode cX4_tie 26 = .ok (.if_icmp .le 6, 3) := by decide +kernel
theorem dX4_tie_29 : decode cX4_tie 29 = .ok (.bipush (-2), 2) := by decide +kernel
theorem dX4_tie_31 : decode cX4_tie 31 = .ok (.ireturn, 1) := by decide +kernel
theorem dX4_tie_32 : decode cX4_tie 32 = .ok (.aload_n 0, 1) := by decide +kernel
theorem dX4_tie_33 : decode cX4_tie 33 = .ok (.getfield 23, 3) := by decide +kernel
theorem dX4_tie_36 : decode cX4_tie 36 = .ok (.iload_n 1, 1) := by decide +kernel
theorem dX4_tie_37 : decode cX4_tie 37 = .ok (.iload_n 2, 1) := by decide +kernel
theorem dX4_tie_38 : decode cX4_tie 38 = .ok (.invokevirtual 164, 3) := by decide +kernel
theorem dX4_tie_41 : decode cX4_tie 41 = .ok (.istore_n 3, 1) := by decide +kernel
theorem dX4_tie_42 : decode cX4_tie 42 = .ok (.aload_n 0, 1) := by decide +kernel
theorem dX4_tie_43 : decode cX4_tie 43 = .ok (.getfield 32, 3) := by decide +kernel
theorem dX4_tie_46 : decode cX4_tie 46 = .ok (.aload_n 0, 1) := by decide +kernel
theorem dX4_tie_47 : decode cX4_tie 47 = .ok (.getfield 23, 3) := by decide +kernel
theorem dX4_tie_50 : decode cX4_tie 50 = .ok (.getfield 78, 3) := by decide +kernel
theorem dX4_tie_53 : decode cX4_tie 53 = .ok (.invokevirtual 167, 3) := by decide +kernel
theorem dX4_tie_56 : decode cX4_tie 56 = .ok (.aload_n 0, 1) := by decide +kernel
theorem dX4_tie_57 : decode cX4_tie 57 = .ok (.getfield 23, 3) := by decide +kernel
theorem dX4_tie_60 : decode cX4_tie 60 = .ok (.iload_n 1, 1) := by decide +kernel
theorem dX4_tie_61 : decode cX4_tie 61 = .ok (.iload_n 2, 1) := by decide +kernel
theorem dX4_tie_62 : decode cX4_tie 62 = .ok (.invokevirtual 170, 3) := by decide +kernel
theorem dX4_tie_65 : decode cX4_tie 65 = .ok (.iload_n 3, 1) := by decide +kernel
theorem dX4_tie_66 : decode cX4_tie 66 = .ok (.ireturn, 1) := by decide +kernel
theorem dX4_more_0 : decode cX4_more 0 = .ok (.aload_n 0, 1) := by decide +kernel
theorem dX4_more_1 : decode cX4_more 1 = .ok (.getfield 23, 3) := by decide +kernel
theorem dX4_more_4 : decode cX4_more 4 = .ok (.iload_n 1, 1) := by decide +kernel
theorem dX4_more_5 : decode cX4_more 5 = .ok (.invokevirtual 94, 3) := by decide +kernel
theorem dX4_more_8 : decode cX4_more 8 = .ok (.ifCond .eq 17, 3) := by decide +kernel
theorem dX4_more_11 : decode cX4_more 11 = .ok (.iload_n 2, 1) := by decide +kernel
theorem dX4_more_12 : decode cX4_more 12 = .ok (.sipush (-9999), 3) := by decide +kernel
theorem dX4_more_15 : decode cX4_more 15 = .ok (.if_icmp .lt 10, 3) := by decide +kernel
theorem dX4_more_18 : decode cX4_more 18 = .ok (.iload_n 2, 1) := by decide +kernel
theorem dX4_more_19 : decode cX4_more 19 = .ok (.sipush 9999, 3) := by decide +kernel
theorem dX4_more_22 : decode cX4_more 22 = .ok (.if_icmp .le 5, 3) := by decide +kernel
theorem dX4_more_25 : decode cX4_more 25 = .ok (.iconst (-1), 1) := by decide +kernel
theorem dX4_more_26 : decode cX4_more 26 = .ok (.ireturn, 1) := by decide +kernel
theorem dX4_more_27 : decode cX4_more 27 = .ok (.aload_n 0, 1) := by decide +kernel
theorem dX4_more_28 : decode cX4_more 28 = .ok (.getfield 23, 3) := by decide +kernel
theorem dX4_more_31 : decode cX4_more 31 = .ok (.iload_n 1, 1) := by decide +kernel
theorem dX4_more_32 : decode cX4_more 32 = .ok (.invokevirtual 120, 3) := by decide +kernel
theorem dX4_more_35 : decode cX4_more 35 = .ok (.istore_n 3, 1) := by decide +kernel
theorem dX4_more_36 : decode cX4_more 36 = .ok (.iload_n 3, 1) := by decide +kernel
theorem dX4_more_37 : decode cX4_more 37 = .ok (.bipush (-4), 2) := by decide +kernel
theorem dX4_more_39 : decode cX4_more 39 = .ok (.if_icmp .eq 23, 3) := by decide +kernel
theorem dX4_more_42 : decode cX4_more 42 = .ok (.iload_n 3, 1) := by decide +kernel
theorem dX4_more_43 : decode cX4_more 43 = .ok (.iload_n 2, 1) := by decide +kernel
theorem dX4_more_44 : decode cX4_more 44 = .ok (.iadd, 1) := by decide +kernel
theorem dX4_more_45 : decode cX4_more 45 = .ok (.ifCond .lt 17, 3) := by decide +kernel
theorem dX4_more_48 : decode cX4_more 48 = .ok (.iload_n 3, 1) := by decide +kernel
theorem dX4_more_49 : decode cX4_more 49 = .ok (.iload_n 2, 1) := by decide +kernel
theorem dX4_more_50 : decode cX4_more 50 = .ok (.iadd, 1) := by decide +kernel
theorem dX4_more_51 : decode cX4_more 51 = .ok (.aload_n 0, 1) := by decide +kernel
theorem dX4_more_52 : decode cX4_more 52 = .ok (.getfield 23, 3) := by decide +kernel
theorem dX4_more_55 : decode cX4_more 55 = .ok (.iload_n 1, 1) := by decide +kernel
theorem dX4_more_56 : decode cX4_more 56 = .ok (.invokevirtual 161, 3) := by decide +kernel
theorem dX4_more_59 : decode cX4_more 59 = .ok (.if_icmp .le 6, 3) := by decide +kernel
theorem dX4_more_62 : decode cX4_more 62 = .ok (.bipush (-2), 2) := by decide +kernel
theorem dX4_more_64 : decode cX4_more 64 = .ok (.ireturn, 1) := by decide +kernel
theorem dX4_more_65 : decode cX4_more 65 = .ok (.aload_n 0, 1) := by decide +kernel
theorem dX4_more_66 : decode cX4_more 66 = .ok (.getfield 32, 3) := by decide +kernel
theorem dX4_more_69 : decode cX4_more 69 = .ok (.aload_n 0, 1) := by decide +kernel
theorem dX4_more_70 : decode cX4_more 70 = .ok (.getfield 23, 3) := by decide +kernel
theorem dX4_more_73 : decode cX4_more 73 = .ok (.getfield 78, 3) := by decide +kernel
theorem dX4_more_76 : decode cX4_more 76 = .ok (.invokevirtual 167, 3) := by decide +kernel
theorem dX4_more_79 : decode cX4_more 79 = .ok (.aload_n 0, 1) := by decide +kernel
theorem dX4_more_80 : decode cX4_more 80 = .ok (.getfield 23, 3) := by decide +kernel
theorem dX4_more_83 : decode cX4_more 83 = .ok (.iload_n 1, 1) := by decide +kernel
theorem dX4_more_84 : decode cX4_more 84 = .ok (.iload_n 3, 1) := by decide +kernel
theorem dX4_more_85 : decode cX4_more 85 = .ok (.iload_n 2, 1) := by decide +kernel
theorem dX4_more_86 : decode cX4_more 86 = .ok (.iadd, 1) := by decide +kernel
theorem dX4_more_87 : decode cX4_more 87 = .ok (.invokevirtual 170, 3) := by decide +kernel
theorem dX4_more_90 : decode cX4_more 90 = .ok (.iload_n 3, 1) := by decide +kernel
theorem dX4_more_91 : decode cX4_more 91 = .ok (.iload_n 2, 1) := by decide +kernel
theorem dX4_more_92 : decode cX4_more 92 = .ok (.iadd, 1) := by decide +kernel
theorem dX4_more_93 : decode cX4_more 93 = .ok (.ireturn, 1) := by decide +kernel
theorem dX4_knot_0 : decode cX4_knot 0 = .ok (.aload_n 0, 1) := by decide +kernel
theorem dX4_knot_1 : decode cX4_knot 1 = .ok (.getfield 23, 3) := by decide +kernel
theorem dX4_knot_4 : decode cX4_knot 4 = .ok (.iload_n 1, 1) := by decide +kernel
theorem dX4_knot_5 : decode cX4_knot 5 = .ok (.iload_n 2, 1) := by decide +kernel
theorem dX4_knot_6 : decode cX4_knot 6 = .ok (.invokevirtual 132, 3) := by decide +kernel
theorem dX4_knot_9 : decode cX4_knot 9 = .ok (.ifCond .eq 12, 3) := by decide +kernel
theorem dX4_knot_12 : decode cX4_knot 12 = .ok (.iload_n 3, 1) := by decide +kernel
theorem dX4_knot_13 : decode cX4_knot 13 = .ok (.iload 4, 2) := by decide +kernel
theorem dX4_knot_15 : decode cX4_knot 15 = .ok (.invokestatic 174, 3) := by decide +kernel
theorem dX4_knot_18 : decode cX4_knot 18 = .ok (.ifCond .ne 5, 3) := by decide +kernel
theorem dX4_knot_21 : decode cX4_knot 21 = .ok (.iconst (-1), 1) := by decide +kernel
theorem dX4_knot_22 : decode cX4_knot 22 = .ok (.ireturn, 1) := by decide +kernel
theorem dX4_knot_23 : decode cX4_knot 23 = .ok (.aload_n 0, 1) := by decide +kernel
theorem dX4_knot_24 : decode cX4_knot 24 = .ok (.getfield 32, 3) := by decide +kernel
theorem dX4_knot_27 : decode cX4_knot 27 = .ok (.aload_n 0, 1) := by decide +kernel
theorem dX4_knot_28 : decode cX4_knot 28 = .ok (.getfield 23, 3) := by decide +kernel
theorem dX4_knot_31 : decode cX4_knot 31 = .ok (.getfield 78, 3) := by decide +kernel
theorem dX4_knot_34 : decode cX4_knot 34 = .ok (.invokevirtual 167, 3) := by decide +kernel
theorem dX4_knot_37 : decode cX4_knot 37 = .ok (.aload_n 0, 1) := by decide +kernel
theorem dX4_knot_38 : decode cX4_knot 38 = .ok (.getfield 23, 3) := by decide +kernel
theorem dX4_knot_41 : decode cX4_knot 41 = .ok (.iload_n 1, 1) := by decide +kernel
theorem dX4_knot_42 : decode cX4_knot 42 = .ok (.iload_n 2, 1) := by decide +kernel
theorem dX4_knot_43 : decode cX4_knot 43 = .ok (.bipush 10, 2) := by decide +kernel
theorem dX4_knot_45 : decode cX4_knot 45 = .ok (.iload_n 3, 1) := by decide +kernel
theorem dX4_knot_46 : decode cX4_knot 46 = .ok (.imul, 1) := by decide +kernel
theorem dX4_knot_47 : decode cX4_knot 47 = .ok (.iload 4, 2) := by decide +kernel
theorem dX4_knot_49 : decode cX4_knot 49 = .ok (.iadd, 1) := by decide +kernel
theorem dX4_knot_50 : decode cX4_knot 50 = .ok (.invokevirtual 177, 3) := by decide +kernel
theorem dX4_knot_53 : decode cX4_knot 53 = .ok (.aload_n 0, 1) := by decide +kernel
theorem dX4_knot_54 : decode cX4_knot 54 = .ok (.getfield 23, 3) := by decide +kernel
theorem dX4_knot_57 : decode cX4_knot 57 = .ok (.iload_n 1, 1) := by decide +kernel
theorem dX4_knot_58 : decode cX4_knot 58 = .ok (.invokevirtual 129, 3) := by decide +kernel
theorem dX4_knot_61 : decode cX4_knot 61 = .ok (.ireturn, 1) := by decide +kernel
theorem dX4_dye_0 : decode cX4_dye 0 = .ok (.aload_n 0, 1) := by decide +kernel
theorem dX4_dye_1 : decode cX4_dye 1 = .ok (.getfield 23, 3) := by decide +kernel
theorem dX4_dye_4 : decode cX4_dye 4 = .ok (.iload_n 1, 1) := by decide +kernel
theorem dX4_dye_5 : decode cX4_dye 5 = .ok (.invokevirtual 94, 3) := by decide +kernel
theorem dX4_dye_8 : decode cX4_dye 8 = .ok (.ifCond .eq 10, 3) := by decide +kernel
theorem dX4_dye_11 : decode cX4_dye 11 = .ok (.iload_n 2, 1) := by decide +kernel
theorem dX4_dye_12 : decode cX4_dye 12 = .ok (.invokestatic 181, 3) := by decide +kernel
theorem dX4_dye_15 : decode cX4_dye 15 = .ok (.ifCond .ne 5, 3) := by decide +kernel
theorem dX4_dye_18 : decode cX4_dye 18 = .ok (.iconst (-1), 1) := by decide +kernel
theorem dX4_dye_19 : decode cX4_dye 19 = .ok (.ireturn, 1) := by decide +kernel
theorem dX4_dye_20 : decode cX4_dye 20 = .ok (.aload_n 0, 1) := by decide +kernel
theorem dX4_dye_21 : decode cX4_dye 21 = .ok (.getfield 23, 3) := by decide +kernel
theorem dX4_dye_24 : decode cX4_dye 24 = .ok (.iload_n 1, 1) := by decide +kernel
theorem dX4_dye_25 : decode cX4_dye 25 = .ok (.invokevirtual 98, 3) := by decide +kernel
theorem dX4_dye_28 : decode cX4_dye 28 = .ok (.istore_n 3, 1) := by decide +kernel
theorem dX4_dye_29 : decode cX4_dye 29 = .ok (.aload_n 0, 1) := by decide +kernel
theorem dX4_dye_30 : decode cX4_dye 30 = .ok (.getfield 32, 3) := by decide +kernel
theorem dX4_dye_33 : decode cX4_dye 33 = .ok (.aload_n 0, 1) := by decide +kernel
theorem dX4_dye_34 : decode cX4_dye 34 = .ok (.getfield 23, 3) := by decide +kernel
theorem dX4_dye_37 : decode cX4_dye 37 = .ok (.getfield 78, 3) := by decide +kernel
theorem dX4_dye_40 : decode cX4_dye 40 = .ok (.invokevirtual 167, 3) := by decide +kernel
theorem dX4_dye_43 : decode cX4_dye 43 = .ok (.aload_n 0, 1) := by decide +kernel
theorem dX4_dye_44 : decode cX4_dye 44 = .ok (.getfield 23, 3) := by decide +kernel
theorem dX4_dye_47 : decode cX4_dye 47 = .ok (.iload_n 1, 1) := by decide +kernel
theorem dX4_dye_48 : decode cX4_dye 48 = .ok (.iload_n 2, 1) := by decide +kernel
theorem dX4_dye_49 : decode cX4_dye 49 = .ok (.invokevirtual 184, 3) := by decide +kernel
theorem dX4_dye_52 : decode cX4_dye 52 = .ok (.iload_n 3, 1) := by decide +kernel
theorem dX4_dye_53 : decode cX4_dye 53 = .ok (.ireturn, 1) := by decide +kernel
theorem dX4_hang_0 : decode cX4_hang 0 = .ok (.aload_n 0, 1) := by decide +kernel
theorem dX4_hang_1 : decode cX4_hang 1 = .ok (.getfield 23, 3) := by decide +kernel
theorem dX4_hang_4 : decode cX4_hang 4 = .ok (.iload_n 1, 1) := by decide +kernel
theorem dX4_hang_5 : decode cX4_hang 5 = .ok (.invokevirtual 94, 3) := by decide +kernel
theorem dX4_hang_8 : decode cX4_hang 8 = .ok (.ifCond .eq 14, 3) := by decide +kernel
theorem dX4_hang_11 : decode cX4_hang 11 = .ok (.aload_n 0, 1) := by decide +kernel
theorem dX4_hang_12 : decode cX4_hang 12 = .ok (.getfield 23, 3) := by decide +kernel
theorem dX4_hang_15 : decode cX4_hang 15 = .ok (.iload_n 2, 1) := by decide +kernel
theorem dX4_hang_16 : decode cX4_hang 16 = .ok (.invokevirtual 140, 3) := by decide +kernel
theorem dX4_hang_19 : decode cX4_hang 19 = .ok (.ifCond .ne 5, 3) := by decide +kernel
theorem dX4_hang_22 : decode cX4_hang 22 = .ok (.iconst (-1), 1) := by decide +kernel
theorem dX4_hang_23 : decode cX4_hang 23 = .ok (.ireturn, 1) := by decide +kernel
theorem dX4_hang_24 : decode cX4_hang 24 = .ok (.aload_n 0, 1) := by decide +kernel
theorem dX4_hang_25 : decode cX4_hang 25 = .ok (.getfield 23, 3) := by decide +kernel
theorem dX4_hang_28 : decode cX4_hang 28 = .ok (.iload_n 1, 1) := by decide +kernel
theorem dX4_hang_29 : decode cX4_hang 29 = .ok (.invokevirtual 108, 3) := by decide +kernel
theorem dX4_hang_32 : decode cX4_hang 32 = .ok (.istore_n 3, 1) := by decide +kernel
theorem dX4_hang_33 : decode cX4_hang 33 = .ok (.aload_n 0, 1) := by decide +kernel
theorem dX4_hang_34 : decode cX4_hang 34 = .ok (.getfield 23, 3) := by decide +kernel
theorem dX4_hang_37 : decode cX4_hang 37 = .ok (.iload_n 1, 1) := by decide +kernel
theorem dX4_hang_38 : decode cX4_hang 38 = .ok (.invokevirtual 187, 3) := by decide +kernel
theorem dX4_hang_41 : decode cX4_hang 41 = .ok (.ifCond .eq 20, 3) := by decide +kernel
theorem dX4_hang_44 : decode cX4_hang 44 = .ok (.iload_n 3, 1) := by decide +kernel
theorem dX4_hang_45 : decode cX4_hang 45 = .ok (.iload_n 2, 1) := by decide +kernel
theorem dX4_hang_46 : decode cX4_hang 46 = .ok (.if_icmp .eq 15, 3) := by decide +kernel
theorem dX4_hang_49 : decode cX4_hang 49 = .ok (.aload_n 0, 1) := by decide +kernel
theorem dX4_hang_50 : decode cX4_hang 50 = .ok (.getfield 23, 3) := by decide +kernel
theorem dX4_hang_53 : decode cX4_hang 53 = .ok (.iload_n 3, 1) := by decide +kernel
theorem dX4_hang_54 : decode cX4_hang 54 = .ok (.invokevirtual 143, 3) := by decide +kernel
theorem dX4_hang_57 : decode cX4_hang 57 = .ok (.iconst 1, 1) := by decide +kernel
theorem dX4_hang_58 : decode cX4_hang 58 = .ok (.if_icmp .gt 6, 3) := by decide +kernel
theorem dX4_hang_61 : decode cX4_hang 61 = .ok (.bipush (-2), 2) := by decide +kernel
theorem dX4_hang_63 : decode cX4_hang 63 = .ok (.ireturn, 1) := by decide +kernel
theorem dX4_hang_64 : decode cX4_hang 64 = .ok (.aload_n 0, 1) := by decide +kernel
theorem dX4_hang_65 : decode cX4_hang 65 = .ok (.getfield 32, 3) := by decide +kernel
theorem dX4_hang_68 : decode cX4_hang 68 = .ok (.aload_n 0, 1) := by decide +kernel
theorem dX4_hang_69 : decode cX4_hang 69 = .ok (.getfield 23, 3) := by decide +kernel
theorem dX4_hang_72 : decode cX4_hang 72 = .ok (.getfield 78, 3) := by decide +kernel
theorem dX4_hang_75 : decode cX4_hang 75 = .ok (.invokevirtual 167, 3) := by decide +kernel
theorem dX4_hang_78 : decode cX4_hang 78 = .ok (.aload_n 0, 1) := by decide +kernel
theorem dX4_hang_79 : decode cX4_hang 79 = .ok (.getfield 23, 3) := by decide +kernel
theorem dX4_hang_82 : decode cX4_hang 82 = .ok (.iload_n 1, 1) := by decide +kernel
theorem dX4_hang_83 : decode cX4_hang 83 = .ok (.iload_n 2, 1) := by decide +kernel
theorem dX4_hang_84 : decode cX4_hang 84 = .ok (.invokevirtual 190, 3) := by decide +kernel
theorem dX4_hang_87 : decode cX4_hang 87 = .ok (.aload_n 0, 1) := by decide +kernel
theorem dX4_hang_88 : decode cX4_hang 88 = .ok (.getfield 23, 3) := by decide +kernel
theorem dX4_hang_91 : decode cX4_hang 91 = .ok (.iload_n 2, 1) := by decide +kernel
theorem dX4_hang_92 : decode cX4_hang 92 = .ok (.invokevirtual 143, 3) := by decide +kernel
theorem dX4_hang_95 : decode cX4_hang 95 = .ok (.ireturn, 1) := by decide +kernel
theorem dX4_undo_0 : decode cX4_undo 0 = .ok (.aload_n 0, 1) := by decide +kernel
theorem dX4_undo_1 : decode cX4_undo 1 = .ok (.getfield 32, 3) := by decide +kernel
theorem dX4_undo_4 : decode cX4_undo 4 = .ok (.getfield 193, 3) := by decide +kernel
theorem dX4_undo_7 : decode cX4_undo 7 = .ok (.ifCond .ne 6, 3) := by decide +kernel
theorem dX4_undo_10 : decode cX4_undo 10 = .ok (.bipush (-2), 2) := by decide +kernel
theorem dX4_undo_12 : decode cX4_undo 12 = .ok (.ireturn, 1) := by decide +kernel
theorem dX4_undo_13 : decode cX4_undo 13 = .ok (.aload_n 0, 1) := by decide +kernel
theorem dX4_undo_14 : decode cX4_undo 14 = .ok (.getfield 32, 3) := by decide +kernel
theorem dX4_undo_17 : decode cX4_undo 17 = .ok (.aload_n 0, 1) := by decide +kernel
theorem dX4_undo_18 : decode cX4_undo 18 = .ok (.getfield 23, 3) := by decide +kernel
theorem dX4_undo_21 : decode cX4_undo 21 = .ok (.getfield 78, 3) := by decide +kernel
theorem dX4_undo_24 : decode cX4_undo 24 = .ok (.invokevirtual 196, 3) := by decide +kernel
theorem dX4_undo_27 : decode cX4_undo 27 = .ok (.aload_n 0, 1) := by decide +kernel
theorem dX4_undo_28 : decode cX4_undo 28 = .ok (.getfield 32, 3) := by decide +kernel
theorem dX4_undo_31 : decode cX4_undo 31 = .ok (.getfield 193, 3) := by decide +kernel
theorem dX4_undo_34 : decode cX4_undo 34 = .ok (.ireturn, 1) := by decide +kernel
theorem dX4_wrong_0 : decode cX4_wrong 0 = .ok (.aload_n 0, 1) := by decide +kernel
theorem dX4_wrong_1 : decode cX4_wrong 1 = .ok (.getfield 23, 3) := by decide +kernel
theorem dX4_wrong_4 : decode cX4_wrong 4 = .ok (.iload_n 1, 1) := by decide +kernel
theorem dX4_wrong_5 : decode cX4_wrong 5 = .ok (.invokevirtual 140, 3) := by decide +kernel
theorem dX4_wrong_8 : decode cX4_wrong 8 = .ok (.ifCond .ne 5, 3) := by decide +kernel
theorem dX4_wrong_11 : decode cX4_wrong 11 = .ok (.iconst (-1), 1) := by decide +kernel
theorem dX4_wrong_12 : decode cX4_wrong 12 = .ok (.ireturn, 1) := by decide +kernel
theorem dX4_wrong_13 : decode cX4_wrong 13 = .ok (.aload_n 0, 1) := by decide +kernel
theorem dX4_wrong_14 : decode cX4_wrong 14 = .ok (.getfield 23, 3) := by decide +kernel
theorem dX4_wrong_17 : decode cX4_wrong 17 = .ok (.iload_n 1, 1) := by decide +kernel
theorem dX4_wrong_18 : decode cX4_wrong 18 = .ok (.invokevirtual 152, 3) := by decide +kernel
theorem dX4_wrong_21 : decode cX4_wrong 21 = .ok (.ifCond .eq 17, 3) := by decide +kernel
theorem dX4_wrong_24 : decode cX4_wrong 24 = .ok (.aload_n 0, 1) := by decide +kernel
theorem dX4_wrong_25 : decode cX4_wrong 25 = .ok (.getfield 23, 3) := by decide +kernel
theorem dX4_wrong_28 : decode cX4_wrong 28 = .ok (.iload_n 1, 1) := by decide +kernel
theorem dX4_wrong_29 : decode cX4_wrong 29 = .ok (.invokevirtual 155, 3) := by decide +kernel
theorem dX4_wrong_32 : decode cX4_wrong 32 = .ok (.ldc 199, 2) := by decide +kernel
theorem dX4_wrong_34 : decode cX4_wrong 34 = .ok (.iadd, 1) := by decide +kernel
theorem dX4_wrong_35 : decode cX4_wrong 35 = .ok (.goto 5, 3) := by decide +kernel
theorem dX4_wrong_38 : decode cX4_wrong 38 = .ok (.bipush (-4), 2) := by decide +kernel
theorem dX4_wrong_40 : decode cX4_wrong 40 = .ok (.ireturn, 1) := by decide +kernel
theorem dX4_mend_0 : decode cX4_mend 0 = .ok (.aload_n 0, 1) := by decide +kernel
theorem dX4_mend_1 : decode cX4_mend 1 = .ok (.getfield 23, 3) := by decide +kernel
theorem dX4_mend_4 : decode cX4_mend 4 = .ok (.iload_n 1, 1) := by decide +kernel
theorem dX4_mend_5 : decode cX4_mend 5 = .ok (.invokevirtual 140, 3) := by decide +kernel
theorem dX4_mend_8 : decode cX4_mend 8 = .ok (.ifCond .ne 5, 3) := by decide +kernel
theorem dX4_mend_11 : decode cX4_mend 11 = .ok (.iconst (-1), 1) := by decide +kernel
theorem dX4_mend_12 : decode cX4_mend 12 = .ok (.ireturn, 1) := by decide +kernel
theorem dX4_mend_13 : decode cX4_mend 13 = .ok (.aload_n 0, 1) := by decide +kernel
theorem dX4_mend_14 : decode cX4_mend 14 = .ok (.getfield 23, 3) := by decide +kernel
theorem dX4_mend_17 : decode cX4_mend 17 = .ok (.iload_n 1, 1) := by decide +kernel
theorem dX4_mend_18 : decode cX4_mend 18 = .ok (.invokevirtual 152, 3) := by decide +kernel
theorem dX4_mend_21 : decode cX4_mend 21 = .ok (.ifCond .ne 6, 3) := by decide +kernel
theorem dX4_mend_24 : decode cX4_mend 24 = .ok (.bipush (-4), 2) := by decide +kernel
theorem dX4_mend_26 : decode cX4_mend 26 = .ok (.ireturn, 1) := by decide +kernel
theorem dX4_mend_27 : decode cX4_mend 27 = .ok (.aload_n 0, 1) := by decide +kernel
theorem dX4_mend_28 : decode cX4_mend 28 = .ok (.iload_n 1, 1) := by decide +kernel
theorem dX4_mend_29 : decode cX4_mend 29 = .ok (.invokevirtual 200, 3) := by decide +kernel
theorem dX4_mend_32 : decode cX4_mend 32 = .ok (.aload_n 0, 1) := by decide +kernel
theorem dX4_mend_33 : decode cX4_mend 33 = .ok (.getfield 46, 3) := by decide +kernel
theorem dX4_mend_36 : decode cX4_mend 36 = .ok (.aload_n 0, 1) := by decide +kernel
theorem dX4_mend_37 : decode cX4_mend 37 = .ok (.getfield 50, 3) := by decide +kernel
theorem dX4_mend_40 : decode cX4_mend 40 = .ok (.iconst 0, 1) := by decide +kernel
theorem dX4_mend_41 : decode cX4_mend 41 = .ok (.aload_n 0, 1) := by decide +kernel
theorem dX4_mend_42 : decode cX4_mend 42 = .ok (.getfield 23, 3) := by decide +kernel
theorem dX4_mend_45 : decode cX4_mend 45 = .ok (.iload_n 1, 1) := by decide +kernel
theorem dX4_mend_46 : decode cX4_mend 46 = .ok (.invokevirtual 155, 3) := by decide +kernel
theorem dX4_mend_49 : decode cX4_mend 49 = .ok (.ineg, 1) := by decide +kernel
theorem dX4_mend_50 : decode cX4_mend 50 = .ok (.invokestatic 203, 3) := by decide +kernel
theorem dX4_mend_53 : decode cX4_mend 53 = .ok (.ireturn, 1) := by decide +kernel
theorem dX4_slip_0 : decode cX4_slip 0 = .ok (.aload_n 0, 1) := by decide +kernel
theorem dX4_slip_1 : decode cX4_slip 1 = .ok (.getfield 23, 3) := by decide +kernel
theorem dX4_slip_4 : decode cX4_slip 4 = .ok (.iload_n 1, 1) := by decide +kernel
theorem dX4_slip_5 : decode cX4_slip 5 = .ok (.invokevirtual 140, 3) := by decide +kernel
theorem dX4_slip_8 : decode cX4_slip 8 = .ok (.ifCond .eq 12, 3) := by decide +kernel
theorem dX4_slip_11 : decode cX4_slip 11 = .ok (.iload_n 2, 1) := by decide +kernel
theorem dX4_slip_12 : decode cX4_slip 12 = .ok (.ifCond .lt 8, 3) := by decide +kernel
theorem dX4_slip_15 : decode cX4_slip 15 = .ok (.iload_n 2, 1) := by decide +kernel
theorem dX4_slip_16 : decode cX4_slip 16 = .ok (.iconst 1, 1) := by decide +kernel
theorem dX4_slip_17 : decode cX4_slip 17 = .ok (.if_icmp .le 5, 3) := by decide +kernel
theorem dX4_slip_20 : decode cX4_slip 20 = .ok (.iconst (-1), 1) := by decide +kernel
theorem dX4_slip_21 : decode cX4_slip 21 = .ok (.ireturn, 1) := by decide +kernel
theorem dX4_slip_22 : decode cX4_slip 22 = .ok (.iconst 0, 1) := by decide +kernel
theorem dX4_slip_23 : decode cX4_slip 23 = .ok (.istore_n 3, 1) := by decide +kernel
theorem dX4_slip_24 : decode cX4_slip 24 = .ok (.bipush (-4), 2) := by decide +kernel
theorem dX4_slip_26 : decode cX4_slip 26 = .ok (.istore 4, 2) := by decide +kernel
theorem dX4_slip_28 : decode cX4_slip 28 = .ok (.aload_n 0, 1) := by decide +kernel
theorem dX4_slip_29 : decode cX4_slip 29 = .ok (.getfield 23, 3) := by decide +kernel
theorem dX4_slip_32 : decode cX4_slip 32 = .ok (.iload_n 1, 1) := by decide +kernel
theorem dX4_slip_33 : decode cX4_slip 33 = .ok (.invokevirtual 152, 3) := by decide +kernel
theorem dX4_slip_36 : decode cX4_slip 36 = .ok (.ifCond .eq 125, 3) := by decide +kernel
theorem dX4_slip_39 : decode cX4_slip 39 = .ok (.aload_n 0, 1) := by decide +kernel
theorem dX4_slip_40 : decode cX4_slip 40 = .ok (.getfield 23, 3) := by decide +kernel
theorem dX4_slip_43 : decode cX4_slip 43 = .ok (.iload_n 1, 1) := by decide +kernel
theorem dX4_slip_44 : decode cX4_slip 44 = .ok (.invokevirtual 155, 3) := by decide +kernel
theorem dX4_slip_47 : decode cX4_slip 47 = .ok (.istore 5, 2) := by decide +kernel
theorem dX4_slip_49 : decode cX4_slip 49 = .ok (.iconst 0, 1) := by decide +kernel
theorem dX4_slip_50 : decode cX4_slip 50 = .ok (.istore 6, 2) := by decide +kernel
theorem dX4_slip_52 : decode cX4_slip 52 = .ok (.iload 6, 2) := by decide +kernel
theorem dX4_slip_54 : decode cX4_slip 54 = .ok (.aload_n 0, 1) := by decide +kernel
theorem dX4_slip_55 : decode cX4_slip 55 = .ok (.getfield 23, 3) := by decide +kernel
theorem dX4_slip_58 : decode cX4_slip 58 = .ok (.invokevirtual 91, 3) := by decide +kernel
theorem dX4_slip_61 : decode cX4_slip 61 = .ok (.if_icmp .ge 100, 3) := by decide +kernel
theorem dX4_slip_64 : decode cX4_slip 64 = .ok (.iconst 0, 1) := by decide +kernel
theorem dX4_slip_65 : decode cX4_slip 65 = .ok (.istore 7, 2) := by decide +kernel
theorem dX4_slip_67 : decode cX4_slip 67 = .ok (.iload 7, 2) := by decide +kernel
theorem dX4_slip_69 : decode cX4_slip 69 = .ok (.aload_n 0, 1) := by decide +kernel
theorem dX4_slip_70 : decode cX4_slip 70 = .ok (.getfield 23, 3) := by decide +kernel
theorem dX4_slip_73 : decode cX4_slip 73 = .ok (.iload 6, 2) := by decide +kernel
theorem dX4_slip_75 : decode cX4_slip 75 = .ok (.invokevirtual 102, 3) := by decide +kernel
theorem dX4_slip_78 : decode cX4_slip 78 = .ok (.if_icmp .ge 77, 3) := by decide +kernel
theorem dX4_slip_81 : decode cX4_slip 81 = .ok (.aload_n 0, 1) := by decide +kernel
theorem dX4_slip_82 : decode cX4_slip 82 = .ok (.getfield 23, 3) := by decide +kernel
theorem dX4_slip_85 : decode cX4_slip 85 = .ok (.iload 6, 2) := by decide +kernel
theorem dX4_slip_87 : decode cX4_slip 87 = .ok (.iload_n 1, 1) := by decide +kernel
theorem dX4_slip_88 : decode cX4_slip 88 = .ok (.invokevirtual 207, 3) := by decide +kernel
theorem dX4_slip_91 : decode cX4_slip 91 = .ok (.ifCond .eq 16, 3) := by decide +kernel
theorem dX4_slip_94 : decode cX4_slip 94 = .ok (.aload_n 0, 1) := by decide +kernel
theorem dX4_slip_95 : decode cX4_slip 95 = .ok (.iload 6, 2) := by decide +kernel
theorem dX4_slip_97 : decode cX4_slip 97 = .ok (.iload 7, 2) := by decide +kernel
theorem dX4_slip_99 : decode cX4_slip 99 = .ok (.iload 5, 2) := by decide +kernel
theorem dX4_slip_101 : decode cX4_slip 101 = .ok (.invokevirtual 210, 3) := by decide +kernel
theorem dX4_slip_104 : decode cX4_slip 104 = .ok (.goto 5, 3) := by decide +kernel
theorem dX4_slip_107 : decode cX4_slip 107 = .ok (.bipush (-4), 2) := by decide +kernel
theorem dX4_slip_109 : decode cX4_slip 109 = .ok (.istore 8, 2) := by decide +kernel
theorem dX4_slip_111 : decode cX4_slip 111 = .ok (.iload 8, 2) := by decide +kernel
theorem dX4_slip_113 : decode cX4_slip 113 = .ok (.bipush (-4), 2) := by decide +kernel
theorem dX4_slip_115 : decode cX4_slip 115 = .ok (.if_icmp .eq 34, 3) := by decide +kernel
theorem dX4_slip_118 : decode cX4_slip 118 = .ok (.iinc 3 1, 3) := by decide +kernel
theorem dX4_slip_121 : decode cX4_slip 121 = .ok (.iload 4, 2) := by decide +kernel
theorem dX4_slip_123 : decode cX4_slip 123 = .ok (.bipush (-4), 2) := by decide +kernel
theorem dX4_slip_125 : decode cX4_slip 125 = .ok (.if_icmp .ne 20, 3) := by decide +kernel
theorem dX4_slip_128 : decode cX4_slip 128 = .ok (.bipush 100, 2) := by decide +kernel
theorem dX4_slip_130 : decode cX4_slip 130 = .ok (.iload 6, 2) := by decide +kernel
theorem dX4_slip_132 : decode cX4_slip 132 = .ok (.imul, 1) := by decide +kernel
theorem dX4_slip_133 : decode cX4_slip 133 = .ok (.bipush 10, 2) := by decide +kernel
theorem dX4_slip_135 : decode cX4_slip 135 = .ok (.iload 7, 2) := by decide +kernel
theorem dX4_slip_137 : decode cX4_slip 137 = .ok (.imul, 1) := by decide +kernel
theorem dX4_slip_138 : decode cX4_slip 138 = .ok (.iadd, 1) := by decide +kernel
theorem dX4_slip_139 : decode cX4_slip 139 = .ok (.iload 8, 2) := by decide +kernel
theorem dX4_slip_141 : decode cX4_slip 141 = .ok (.iadd, 1) := by decide +kernel
theorem dX4_slip_142 : decode cX4_slip 142 = .ok (.goto 5, 3) := by decide +kernel
theorem dX4_slip_145 : decode cX4_slip 145 = .ok (.iload 4, 2) := by decide +kernel
theorem dX4_slip_147 : decode cX4_slip 147 = .ok (.istore 4, 2) := by decide +kernel
theorem dX4_slip_149 : decode cX4_slip 149 = .ok (.iinc 7 1, 3) := by decide +kernel
theorem dX4_slip_152 : decode cX4_slip 152 = .ok (.goto (-85), 3) := by decide +kernel
theorem dX4_slip_155 : decode cX4_slip 155 = .ok (.iinc 6 1, 3) := by decide +kernel
theorem dX4_slip_158 : decode cX4_slip 158 = .ok (.goto (-106), 3) := by decide +kernel
theorem dX4_slip_161 : decode cX4_slip 161 = .ok (.iload_n 2, 1) := by decide +kernel
theorem dX4_slip_162 : decode cX4_slip 162 = .ok (.ifCond .ne 7, 3) := by decide +kernel
theorem dX4_slip_165 : decode cX4_slip 165 = .ok (.iload_n 3, 1) := by decide +kernel
theorem dX4_slip_166 : decode cX4_slip 166 = .ok (.goto 5, 3) := by decide +kernel
theorem dX4_slip_169 : decode cX4_slip 169 = .ok (.iload 4, 2) := by decide +kernel
theorem dX4_slip_171 : decode cX4_slip 171 = .ok (.ireturn, 1) := by decide +kernel
theorem dX4_lost_0 : decode cX4_lost 0 = .ok (.aload_n 0, 1) := by decide +kernel
theorem dX4_lost_1 : decode cX4_lost 1 = .ok (.getfield 23, 3) := by decide +kernel
theorem dX4_lost_4 : decode cX4_lost 4 = .ok (.iload_n 1, 1) := by decide +kernel
theorem dX4_lost_5 : decode cX4_lost 5 = .ok (.invokevirtual 94, 3) := by decide +kernel
theorem dX4_lost_8 : decode cX4_lost 8 = .ok (.ifCond .ne 5, 3) := by decide +kernel
theorem dX4_lost_11 : decode cX4_lost 11 = .ok (.iconst (-1), 1) := by decide +kernel
theorem dX4_lost_12 : decode cX4_lost 12 = .ok (.ireturn, 1) := by decide +kernel
theorem dX4_lost_13 : decode cX4_lost 13 = .ok (.aload_n 0, 1) := by decide +kernel
theorem dX4_lost_14 : decode cX4_lost 14 = .ok (.getfield 23, 3) := by decide +kernel
theorem dX4_lost_17 : decode cX4_lost 17 = .ok (.iload_n 1, 1) := by decide +kernel
theorem dX4_lost_18 : decode cX4_lost 18 = .ok (.invokevirtual 187, 3) := by decide +kernel
theorem dX4_lost_21 : decode cX4_lost 21 = .ok (.ifCond .ne 6, 3) := by decide +kernel
theorem dX4_lost_24 : decode cX4_lost 24 = .ok (.bipush (-2), 2) := by decide +kernel
theorem dX4_lost_26 : decode cX4_lost 26 = .ok (.ireturn, 1) := by decide +kernel
theorem dX4_lost_27 : decode cX4_lost 27 = .ok (.aload_n 0, 1) := by decide +kernel
theorem dX4_lost_28 : decode cX4_lost 28 = .ok (.getfield 23, 3) := by decide +kernel
theorem dX4_lost_31 : decode cX4_lost 31 = .ok (.iload_n 1, 1) := by decide +kernel
theorem dX4_lost_32 : decode cX4_lost 32 = .ok (.invokevirtual 108, 3) := by decide +kernel
theorem dX4_lost_35 : decode cX4_lost 35 = .ok (.istore_n 2, 1) := by decide +kernel
theorem dX4_lost_36 : decode cX4_lost 36 = .ok (.aload_n 0, 1) := by decide +kernel
theorem dX4_lost_37 : decode cX4_lost 37 = .ok (.getfield 23, 3) := by decide +kernel
theorem dX4_lost_40 : decode cX4_lost 40 = .ok (.iload_n 2, 1) := by decide +kernel
theorem dX4_lost_41 : decode cX4_lost 41 = .ok (.invokevirtual 146, 3) := by decide +kernel
theorem dX4_lost_44 : decode cX4_lost 44 = .ok (.bipush (-4), 2) := by decide +kernel
theorem dX4_lost_46 : decode cX4_lost 46 = .ok (.if_icmp .ne 8, 3) := by decide +kernel
theorem dX4_lost_49 : decode cX4_lost 49 = .ok (.bipush (-4), 2) := by decide +kernel
theorem dX4_lost_51 : decode cX4_lost 51 = .ok (.goto 18, 3) := by decide +kernel
theorem dX4_lost_54 : decode cX4_lost 54 = .ok (.aload_n 0, 1) := by decide +kernel
theorem dX4_lost_55 : decode cX4_lost 55 = .ok (.getfield 23, 3) := by decide +kernel
theorem dX4_lost_58 : decode cX4_lost 58 = .ok (.aload_n 0, 1) := by decide +kernel
theorem dX4_lost_59 : decode cX4_lost 59 = .ok (.getfield 23, 3) := by decide +kernel
theorem dX4_lost_62 : decode cX4_lost 62 = .ok (.iload_n 2, 1) := by decide +kernel
theorem dX4_lost_63 : decode cX4_lost 63 = .ok (.invokevirtual 146, 3) := by decide +kernel
theorem dX4_lost_66 : decode cX4_lost 66 = .ok (.invokevirtual 123, 3) := by decide +kernel
theorem dX4_lost_69 : decode cX4_lost 69 = .ok (.istore_n 3, 1) := by decide +kernel
theorem dX4_lost_70 : decode cX4_lost 70 = .ok (.iload_n 3, 1) := by decide +kernel
theorem dX4_lost_71 : decode cX4_lost 71 = .ok (.bipush (-4), 2) := by decide +kernel
theorem dX4_lost_73 : decode cX4_lost 73 = .ok (.if_icmp .ne 6, 3) := by decide +kernel
theorem dX4_lost_76 : decode cX4_lost 76 = .ok (.bipush (-4), 2) := by decide +kernel
theorem dX4_lost_78 : decode cX4_lost 78 = .ok (.ireturn, 1) := by decide +kernel
theorem dX4_lost_79 : decode cX4_lost 79 = .ok (.iconst 0, 1) := by decide +kernel
theorem dX4_lost_80 : decode cX4_lost 80 = .ok (.istore 4, 2) := by decide +kernel
theorem dX4_lost_82 : decode cX4_lost 82 = .ok (.iload 4, 2) := by decide +kernel
theorem dX4_lost_84 : decode cX4_lost 84 = .ok (.aload_n 0, 1) := by decide +kernel
theorem dX4_lost_85 : decode cX4_lost 85 = .ok (.getfield 23, 3) := by decide +kernel
theorem dX4_lost_88 : decode cX4_lost 88 = .ok (.invokevirtual 91, 3) := by decide +kernel
theorem dX4_lost_91 : decode cX4_lost 91 = .ok (.if_icmp .ge 85, 3) := by decide +kernel
theorem dX4_lost_94 : decode cX4_lost 94 = .ok (.aload_n 0, 1) := by decide +kernel
theorem dX4_lost_95 : decode cX4_lost 95 = .ok (.getfield 23, 3) := by decide +kernel
theorem dX4_lost_98 : decode cX4_lost 98 = .ok (.aload_n 0, 1) := by decide +kernel
theorem dX4_lost_99 : decode cX4_lost 99 = .ok (.getfield 23, 3) := by decide +kernel
theorem dX4_lost_102 : decode cX4_lost 102 = .ok (.iload 4, 2) := by decide +kernel
theorem dX4_lost_104 : decode cX4_lost 104 = .ok (.invokevirtual 214, 3) := by decide +kernel
theorem dX4_lost_107 : decode cX4_lost 107 = .ok (.invokevirtual 187, 3) := by decide +kernel
theorem dX4_lost_110 : decode cX4_lost 110 = .ok (.ifCond .eq 20, 3) := by decide +kernel
theorem dX4_lost_113 : decode cX4_lost 113 = .ok (.aload_n 0, 1) := by decide +kernel
theorem dX4_lost_114 : decode cX4_lost 114 = .ok (.getfield 23, 3) := by decide +kernel
theorem dX4_lost_117 : decode cX4_lost 117 = .ok (.iload 4, 2) := by decide +kernel
theorem dX4_lost_119 : decode cX4_lost 119 = .ok (.invokevirtual 108, 3) := by decide +kernel
theorem dX4_lost_122 : decode cX4_lost 122 = .ok (.iload_n 2, 1) := by decide +kernel
theorem dX4_lost_123 : decode cX4_lost 123 = .ok (.if_icmp .ne 7, 3) := by decide +kernel
theorem dX4_lost_126 : decode cX4_lost 126 = .ok (.iconst 1, 1) := by decide +kernel
theorem dX4_lost_127 : decode cX4_lost 127 = .ok (.goto 4, 3) := by decide +kernel
theorem dX4_lost_130 : decode cX4_lost 130 = .ok (.iconst 0, 1) := by decide +kernel
theorem dX4_lost_131 : decode cX4_lost 131 = .ok (.istore 5, 2) := by decide +kernel
theorem dX4_lost_133 : decode cX4_lost 133 = .ok (.iload 5, 2) := by decide +kernel
theorem dX4_lost_135 : decode cX4_lost 135 = .ok (.ifCond .eq 35, 3) := by decide +kernel
theorem dX4_lost_138 : decode cX4_lost 138 = .ok (.iload 4, 2) := by decide +kernel
theorem dX4_lost_140 : decode cX4_lost 140 = .ok (.iload_n 1, 1) := by decide +kernel
theorem dX4_lost_141 : decode cX4_lost 141 = .ok (.if_icmp .eq 29, 3) := by decide +kernel
theorem dX4_lost_144 : decode cX4_lost 144 = .ok (.aload_n 0, 1) := by decide +kernel
theorem dX4_lost_145 : decode cX4_lost 145 = .ok (.getfield 23, 3) := by decide +kernel
theorem dX4_lost_148 : decode cX4_lost 148 = .ok (.iload 4, 2) := by decide +kernel
theorem dX4_lost_150 : decode cX4_lost 150 = .ok (.invokevirtual 120, 3) := by decide +kernel
theorem dX4_lost_153 : decode cX4_lost 153 = .ok (.istore 6, 2) := by decide +kernel
theorem dX4_lost_155 : decode cX4_lost 155 = .ok (.iload 6, 2) := by decide +kernel
theorem dX4_lost_157 : decode cX4_lost 157 = .ok (.bipush (-4), 2) := by decide +kernel
theorem dX4_lost_159 : decode cX4_lost 159 = .ok (.if_icmp .ne 6, 3) := by decide +kernel
theorem dX4_lost_162 : decode cX4_lost 162 = .ok (.bipush (-4), 2) := by decide +kernel
theorem dX4_lost_164 : decode cX4_lost 164 = .ok (.ireturn, 1) := by decide +kernel
theorem dX4_lost_165 : decode cX4_lost 165 = .ok (.iload_n 3, 1) := by decide +kernel
theorem dX4_lost_166 : decode cX4_lost 166 = .ok (.iload 6, 2) := by decide +kernel
theorem dX4_lost_168 : decode cX4_lost 168 = .ok (.isub, 1) := by decide +kernel
theorem dX4_lost_169 : decode cX4_lost 169 = .ok (.istore_n 3, 1) := by decide +kernel
theorem dX4_lost_170 : decode cX4_lost 170 = .ok (.iinc 4 1, 3) := by decide +kernel
theorem dX4_lost_173 : decode cX4_lost 173 = .ok (.goto (-91), 3) := by decide +kernel
theorem dX4_lost_176 : decode cX4_lost 176 = .ok (.iload_n 3, 1) := by decide +kernel
theorem dX4_lost_177 : decode cX4_lost 177 = .ok (.ifCond .lt 14, 3) := by decide +kernel
theorem dX4_lost_180 : decode cX4_lost 180 = .ok (.iload_n 3, 1) := by decide +kernel
theorem dX4_lost_181 : decode cX4_lost 181 = .ok (.sipush 9999, 3) := by decide +kernel
theorem dX4_lost_184 : decode cX4_lost 184 = .ok (.if_icmp .gt 7, 3) := by decide +kernel
theorem dX4_lost_187 : decode cX4_lost 187 = .ok (.iload_n 3, 1) := by decide +kernel
theorem dX4_lost_188 : decode cX4_lost 188 = .ok (.goto 5, 3) := by decide +kernel
theorem dX4_lost_191 : decode cX4_lost 191 = .ok (.bipush (-4), 2) := by decide +kernel
theorem dX4_lost_193 : decode cX4_lost 193 = .ok (.ireturn, 1) := by decide +kernel
theorem dX4_closed_0 : decode cX4_closed 0 = .ok (.aload_n 0, 1) := by decide +kernel
theorem dX4_closed_1 : decode cX4_closed 1 = .ok (.getfield 23, 3) := by decide +kernel
theorem dX4_closed_4 : decode cX4_closed 4 = .ok (.iload_n 1, 1) := by decide +kernel
theorem dX4_closed_5 : decode cX4_closed 5 = .ok (.invokevirtual 94, 3) := by decide +kernel
theorem dX4_closed_8 : decode cX4_closed 8 = .ok (.ifCond .eq 23, 3) := by decide +kernel
theorem dX4_closed_11 : decode cX4_closed 11 = .ok (.iload_n 2, 1) := by decide +kernel
theorem dX4_closed_12 : decode cX4_closed 12 = .ok (.iconst 1, 1) := by decide +kernel
theorem dX4_closed_13 : decode cX4_closed 13 = .ok (.if_icmp .lt 18, 3) := by decide +kernel
theorem dX4_closed_16 : decode cX4_closed 16 = .ok (.iload_n 2, 1) := by decide +kernel
theorem dX4_closed_17 : decode cX4_closed 17 = .ok (.bipush 6, 2) := by decide +kernel
theorem dX4_closed_19 : decode cX4_closed 19 = .ok (.if_icmp .gt 12, 3) := by decide +kernel
theorem dX4_closed_22 : decode cX4_closed 22 = .ok (.iload_n 3, 1) := by decide +kernel
theorem dX4_closed_23 : decode cX4_closed 23 = .ok (.ifCond .lt 8, 3) := by decide +kernel
theorem dX4_closed_26 : decode cX4_closed 26 = .ok (.iload_n 3, 1) := by decide +kernel
theorem dX4_closed_27 : decode cX4_closed 27 = .ok (.iconst 1, 1) := by decide +kernel
theorem dX4_closed_28 : decode cX4_closed 28 = .ok (.if_icmp .le 5, 3) := by decide +kernel
theorem dX4_closed_31 : decode cX4_closed 31 = .ok (.iconst (-1), 1) := by decide +kernel
theorem dX4_closed_32 : decode cX4_closed 32 = .ok (.ireturn, 1) := by decide +kernel
theorem dX4_closed_33 : decode cX4_closed 33 = .ok (.iconst 0, 1) := by decide +kernel
theorem dX4_closed_34 : decode cX4_closed 34 = .ok (.istore 4, 2) := by decide +kernel
theorem dX4_closed_36 : decode cX4_closed 36 = .ok (.iconst 0, 1) := by decide +kernel
theorem dX4_closed_37 : decode cX4_closed 37 = .ok (.istore 5, 2) := by decide +kernel
theorem dX4_closed_39 : decode cX4_closed 39 = .ok (.iconst 1, 1) := by decide +kernel
theorem dX4_closed_40 : decode cX4_closed 40 = .ok (.istore 6, 2) := by decide +kernel
theorem dX4_closed_42 : decode cX4_closed 42 = .ok (.iconst 0, 1) := by decide +kernel
theorem dX4_closed_43 : decode cX4_closed 43 = .ok (.istore 7, 2) := by decide +kernel
theorem dX4_closed_45 : decode cX4_closed 45 = .ok (.iload 7, 2) := by decide +kernel
theorem dX4_closed_47 : decode cX4_closed 47 = .ok (.aload_n 0, 1) := by decide +kernel
theorem dX4_closed_48 : decode cX4_closed 48 = .ok (.getfield 23, 3) := by decide +kernel
end
section
theorem dX4_closed_51 : decode cX4_closed 51 = .ok (.iload_n 1, 1) := by decide +kernel
theorem dX4_closed_52 : decode cX4_closed 52 = .ok (.invokevirtual 102, 3) := by decide +kernel
theorem dX4_closed_55 : decode cX4_closed 55 = .ok (.if_icmp .ge 87, 3) := by decide +kernel
theorem dX4_closed_58 : decode cX4_closed 58 = .ok (.aload_n 0, 1) := by decide +kernel
theorem dX4_closed_59 : decode cX4_closed 59 = .ok (.getfield 23, 3) := by decide +kernel
theorem dX4_closed_62 : decode cX4_closed 62 = .ok (.iload_n 1, 1) := by decide +kernel
theorem dX4_closed_63 : decode cX4_closed 63 = .ok (.iload 7, 2) := by decide +kernel
theorem dX4_closed_65 : decode cX4_closed 65 = .ok (.invokevirtual 136, 3) := by decide +kernel
theorem dX4_closed_68 : decode cX4_closed 68 = .ok (.istore 8, 2) := by decide +kernel
theorem dX4_closed_70 : decode cX4_closed 70 = .ok (.iload 8, 2) := by decide +kernel
theorem dX4_closed_72 : decode cX4_closed 72 = .ok (.invokestatic 217, 3) := by decide +kernel
theorem dX4_closed_75 : decode cX4_closed 75 = .ok (.iconst 1, 1) := by decide +kernel
theorem dX4_closed_76 : decode cX4_closed 76 = .ok (.if_icmp .ne 25, 3) := by decide +kernel
theorem dX4_closed_79 : decode cX4_closed 79 = .ok (.iinc 5 1, 3) := by decide +kernel
theorem dX4_closed_82 : decode cX4_closed 82 = .ok (.iload 4, 2) := by decide +kernel
theorem dX4_closed_84 : decode cX4_closed 84 = .ok (.iload 8, 2) := by decide +kernel
theorem dX4_closed_86 : decode cX4_closed 86 = .ok (.invokestatic 220, 3) := by decide +kernel
theorem dX4_closed_89 : decode cX4_closed 89 = .ok (.iload 5, 2) := by decide +kernel
theorem dX4_closed_91 : decode cX4_closed 91 = .ok (.invokestatic 223, 3) := by decide +kernel
theorem dX4_closed_94 : decode cX4_closed 94 = .ok (.imul, 1) := by decide +kernel
theorem dX4_closed_95 : decode cX4_closed 95 = .ok (.iadd, 1) := by decide +kernel
theorem dX4_closed_96 : decode cX4_closed 96 = .ok (.istore 4, 2) := by decide +kernel
theorem dX4_closed_98 : decode cX4_closed 98 = .ok (.goto 38, 3) := by decide +kernel
theorem dX4_closed_101 : decode cX4_closed 101 = .ok (.iload 8, 2) := by decide +kernel
theorem dX4_closed_103 : decode cX4_closed 103 = .ok (.invokestatic 217, 3) := by decide +kernel
theorem dX4_closed_106 : decode cX4_closed 106 = .ok (.ifCond .eq 30, 3) := by decide +kernel
theorem dX4_closed_109 : decode cX4_closed 109 = .ok (.iload 6, 2) := by decide +kernel
theorem dX4_closed_111 : decode cX4_closed 111 = .ok (.ifCond .eq 12, 3) := by decide +kernel
theorem dX4_closed_114 : decode cX4_closed 114 = .ok (.iload 4, 2) := by decide +kernel
theorem dX4_closed_116 : decode cX4_closed 116 = .ok (.ifCond .ne 7, 3) := by decide +kernel
theorem dX4_closed_119 : decode cX4_closed 119 = .ok (.iconst 1, 1) := by decide +kernel
theorem dX4_closed_120 : decode cX4_closed 120 = .ok (.goto 4, 3) := by decide +kernel
theorem dX4_closed_123 : decode cX4_closed 123 = .ok (.iconst 0, 1) := by decide +kernel
theorem dX4_closed_124 : decode cX4_closed 124 = .ok (.istore 6, 2) := by decide +kernel
theorem dX4_closed_126 : decode cX4_closed 126 = .ok (.iload 4, 2) := by decide +kernel
theorem dX4_closed_128 : decode cX4_closed 128 = .ok (.iload 8, 2) := by decide +kernel
theorem dX4_closed_130 : decode cX4_closed 130 = .ok (.invokestatic 220, 3) := by decide +kernel
theorem dX4_closed_133 : decode cX4_closed 133 = .ok (.iadd, 1) := by decide +kernel
theorem dX4_closed_134 : decode cX4_closed 134 = .ok (.istore 4, 2) := by decide +kernel
theorem dX4_closed_136 : decode cX4_closed 136 = .ok (.iinc 7 1, 3) := by decide +kernel
theorem dX4_closed_139 : decode cX4_closed 139 = .ok (.goto (-94), 3) := by decide +kernel
theorem dX4_closed_142 : decode cX4_closed 142 = .ok (.iload 6, 2) := by decide +kernel
theorem dX4_closed_144 : decode cX4_closed 144 = .ok (.ifCond .eq 14, 3) := by decide +kernel
theorem dX4_closed_147 : decode cX4_closed 147 = .ok (.iload_n 2, 1) := by decide +kernel
theorem dX4_closed_148 : decode cX4_closed 148 = .ok (.iconst 1, 1) := by decide +kernel
theorem dX4_closed_149 : decode cX4_closed 149 = .ok (.isub, 1) := by decide +kernel
theorem dX4_closed_150 : decode cX4_closed 150 = .ok (.iload 5, 2) := by decide +kernel
theorem dX4_closed_152 : decode cX4_closed 152 = .ok (.invokestatic 226, 3) := by decide +kernel
theorem dX4_closed_155 : decode cX4_closed 155 = .ok (.goto 4, 3) := by decide +kernel
theorem dX4_closed_158 : decode cX4_closed 158 = .ok (.iconst 0, 1) := by decide +kernel
theorem dX4_closed_159 : decode cX4_closed 159 = .ok (.istore 7, 2) := by decide +kernel
theorem dX4_closed_161 : decode cX4_closed 161 = .ok (.iload_n 3, 1) := by decide +kernel
theorem dX4_closed_162 : decode cX4_closed 162 = .ok (.ifCond .ne 6, 3) := by decide +kernel
theorem dX4_closed_165 : decode cX4_closed 165 = .ok (.iload 7, 2) := by decide +kernel
theorem dX4_closed_167 : decode cX4_closed 167 = .ok (.ireturn, 1) := by decide +kernel
theorem dX4_closed_168 : decode cX4_closed 168 = .ok (.iload 7, 2) := by decide +kernel
theorem dX4_closed_170 : decode cX4_closed 170 = .ok (.ifCond .ne 8, 3) := by decide +kernel
theorem dX4_closed_173 : decode cX4_closed 173 = .ok (.bipush (-4), 2) := by decide +kernel
theorem dX4_closed_175 : decode cX4_closed 175 = .ok (.goto 5, 3) := by decide +kernel
theorem dX4_closed_178 : decode cX4_closed 178 = .ok (.iload 4, 2) := by decide +kernel
theorem dX4_closed_180 : decode cX4_closed 180 = .ok (.ireturn, 1) := by decide +kernel
theorem dX4_order_0 : decode cX4_order 0 = .ok (.aload_n 0, 1) := by decide +kernel
theorem dX4_order_1 : decode cX4_order 1 = .ok (.getfield 23, 3) := by decide +kernel
theorem dX4_order_4 : decode cX4_order 4 = .ok (.iload_n 1, 1) := by decide +kernel
theorem dX4_order_5 : decode cX4_order 5 = .ok (.invokevirtual 140, 3) := by decide +kernel
theorem dX4_order_8 : decode cX4_order 8 = .ok (.ifCond .ne 5, 3) := by decide +kernel
theorem dX4_order_11 : decode cX4_order 11 = .ok (.iconst (-1), 1) := by decide +kernel
theorem dX4_order_12 : decode cX4_order 12 = .ok (.ireturn, 1) := by decide +kernel
theorem dX4_order_13 : decode cX4_order 13 = .ok (.aload_n 0, 1) := by decide +kernel
theorem dX4_order_14 : decode cX4_order 14 = .ok (.getfield 23, 3) := by decide +kernel
theorem dX4_order_17 : decode cX4_order 17 = .ok (.iload_n 1, 1) := by decide +kernel
theorem dX4_order_18 : decode cX4_order 18 = .ok (.invokevirtual 143, 3) := by decide +kernel
theorem dX4_order_21 : decode cX4_order 21 = .ok (.istore_n 2, 1) := by decide +kernel
theorem dX4_order_22 : decode cX4_order 22 = .ok (.iconst 0, 1) := by decide +kernel
theorem dX4_order_23 : decode cX4_order 23 = .ok (.istore_n 3, 1) := by decide +kernel
theorem dX4_order_24 : decode cX4_order 24 = .ok (.iconst 0, 1) := by decide +kernel
theorem dX4_order_25 : decode cX4_order 25 = .ok (.istore 4, 2) := by decide +kernel
theorem dX4_order_27 : decode cX4_order 27 = .ok (.iload 4, 2) := by decide +kernel
theorem dX4_order_29 : decode cX4_order 29 = .ok (.iload_n 2, 1) := by decide +kernel
theorem dX4_order_30 : decode cX4_order 30 = .ok (.if_icmp .ge 123, 3) := by decide +kernel
theorem dX4_order_33 : decode cX4_order 33 = .ok (.aload_n 0, 1) := by decide +kernel
theorem dX4_order_34 : decode cX4_order 34 = .ok (.getfield 23, 3) := by decide +kernel
theorem dX4_order_37 : decode cX4_order 37 = .ok (.aload_n 0, 1) := by decide +kernel
theorem dX4_order_38 : decode cX4_order 38 = .ok (.getfield 23, 3) := by decide +kernel
theorem dX4_order_41 : decode cX4_order 41 = .ok (.iload_n 1, 1) := by decide +kernel
theorem dX4_order_42 : decode cX4_order 42 = .ok (.iload 4, 2) := by decide +kernel
theorem dX4_order_44 : decode cX4_order 44 = .ok (.invokevirtual 158, 3) := by decide +kernel
theorem dX4_order_47 : decode cX4_order 47 = .ok (.invokevirtual 120, 3) := by decide +kernel
theorem dX4_order_50 : decode cX4_order 50 = .ok (.istore 5, 2) := by decide +kernel
theorem dX4_order_52 : decode cX4_order 52 = .ok (.iload 5, 2) := by decide +kernel
theorem dX4_order_54 : decode cX4_order 54 = .ok (.bipush (-4), 2) := by decide +kernel
theorem dX4_order_56 : decode cX4_order 56 = .ok (.if_icmp .ne 6, 3) := by decide +kernel
theorem dX4_order_59 : decode cX4_order 59 = .ok (.bipush (-4), 2) := by decide +kernel
theorem dX4_order_61 : decode cX4_order 61 = .ok (.ireturn, 1) := by decide +kernel
theorem dX4_order_62 : decode cX4_order 62 = .ok (.iconst 1, 1) := by decide +kernel
theorem dX4_order_63 : decode cX4_order 63 = .ok (.istore 6, 2) := by decide +kernel
theorem dX4_order_65 : decode cX4_order 65 = .ok (.iconst 0, 1) := by decide +kernel
theorem dX4_order_66 : decode cX4_order 66 = .ok (.istore 7, 2) := by decide +kernel
theorem dX4_order_68 : decode cX4_order 68 = .ok (.iload 7, 2) := by decide +kernel
theorem dX4_order_70 : decode cX4_order 70 = .ok (.iload 4, 2) := by decide +kernel
theorem dX4_order_72 : decode cX4_order 72 = .ok (.if_icmp .ge 46, 3) := by decide +kernel
theorem dX4_order_75 : decode cX4_order 75 = .ok (.aload_n 0, 1) := by decide +kernel
theorem dX4_order_76 : decode cX4_order 76 = .ok (.getfield 53, 3) := by decide +kernel
theorem dX4_order_79 : decode cX4_order 79 = .ok (.iload 7, 2) := by decide +kernel
theorem dX4_order_81 : decode cX4_order 81 = .ok (.invokestatic 229, 3) := by decide +kernel
theorem dX4_order_84 : decode cX4_order 84 = .ok (.iload 5, 2) := by decide +kernel
theorem dX4_order_86 : decode cX4_order 86 = .ok (.if_icmp .gt 22, 3) := by decide +kernel
theorem dX4_order_89 : decode cX4_order 89 = .ok (.iload 6, 2) := by decide +kernel
theorem dX4_order_91 : decode cX4_order 91 = .ok (.aload_n 0, 1) := by decide +kernel
theorem dX4_order_92 : decode cX4_order 92 = .ok (.getfield 56, 3) := by decide +kernel
theorem dX4_order_95 : decode cX4_order 95 = .ok (.iload 7, 2) := by decide +kernel
theorem dX4_order_97 : decode cX4_order 97 = .ok (.invokestatic 229, 3) := by decide +kernel
theorem dX4_order_100 : decode cX4_order 100 = .ok (.iconst 1, 1) := by decide +kernel
theorem dX4_order_101 : decode cX4_order 101 = .ok (.iadd, 1) := by decide +kernel
theorem dX4_order_102 : decode cX4_order 102 = .ok (.invokestatic 233, 3) := by decide +kernel
theorem dX4_order_105 : decode cX4_order 105 = .ok (.goto 5, 3) := by decide +kernel
theorem dX4_order_108 : decode cX4_order 108 = .ok (.iload 6, 2) := by decide +kernel
theorem dX4_order_110 : decode cX4_order 110 = .ok (.istore 6, 2) := by decide +kernel
theorem dX4_order_112 : decode cX4_order 112 = .ok (.iinc 7 1, 3) := by decide +kernel
theorem dX4_order_115 : decode cX4_order 115 = .ok (.goto (-47), 3) := by decide +kernel
theorem dX4_order_118 : decode cX4_order 118 = .ok (.aload_n 0, 1) := by decide +kernel
theorem dX4_order_119 : decode cX4_order 119 = .ok (.getfield 53, 3) := by decide +kernel
theorem dX4_order_122 : decode cX4_order 122 = .ok (.iload 4, 2) := by decide +kernel
theorem dX4_order_124 : decode cX4_order 124 = .ok (.iload 5, 2) := by decide +kernel
theorem dX4_order_126 : decode cX4_order 126 = .ok (.invokestatic 238, 3) := by decide +kernel
theorem dX4_order_129 : decode cX4_order 129 = .ok (.aload_n 0, 1) := by decide +kernel
theorem dX4_order_130 : decode cX4_order 130 = .ok (.getfield 56, 3) := by decide +kernel
theorem dX4_order_133 : decode cX4_order 133 = .ok (.iload 4, 2) := by decide +kernel
theorem dX4_order_135 : decode cX4_order 135 = .ok (.iload 6, 2) := by decide +kernel
theorem dX4_order_137 : decode cX4_order 137 = .ok (.invokestatic 238, 3) := by decide +kernel
theorem dX4_order_140 : decode cX4_order 140 = .ok (.iload_n 3, 1) := by decide +kernel
theorem dX4_order_141 : decode cX4_order 141 = .ok (.iload 6, 2) := by decide +kernel
theorem dX4_order_143 : decode cX4_order 143 = .ok (.invokestatic 233, 3) := by decide +kernel
theorem dX4_order_146 : decode cX4_order 146 = .ok (.istore_n 3, 1) := by decide +kernel
theorem dX4_order_147 : decode cX4_order 147 = .ok (.iinc 4 1, 3) := by decide +kernel
theorem dX4_order_150 : decode cX4_order 150 = .ok (.goto (-123), 3) := by decide +kernel
theorem dX4_order_153 : decode cX4_order 153 = .ok (.iload_n 2, 1) := by decide +kernel
theorem dX4_order_154 : decode cX4_order 154 = .ok (.iload_n 3, 1) := by decide +kernel
theorem dX4_order_155 : decode cX4_order 155 = .ok (.isub, 1) := by decide +kernel
theorem dX4_order_156 : decode cX4_order 156 = .ok (.ireturn, 1) := by decide +kernel
theorem dX4_share_0 : decode cX4_share 0 = .ok (.iload_n 1, 1) := by decide +kernel
theorem dX4_share_1 : decode cX4_share 1 = .ok (.iconst 5, 1) := by decide +kernel
theorem dX4_share_2 : decode cX4_share 2 = .ok (.if_icmp .eq 14, 3) := by decide +kernel
theorem dX4_share_5 : decode cX4_share 5 = .ok (.aload_n 0, 1) := by decide +kernel
theorem dX4_share_6 : decode cX4_share 6 = .ok (.getfield 23, 3) := by decide +kernel
theorem dX4_share_9 : decode cX4_share 9 = .ok (.iload_n 1, 1) := by decide +kernel
theorem dX4_share_10 : decode cX4_share 10 = .ok (.invokevirtual 140, 3) := by decide +kernel
theorem dX4_share_13 : decode cX4_share 13 = .ok (.ifCond .eq 12, 3) := by decide +kernel
theorem dX4_share_16 : decode cX4_share 16 = .ok (.iload_n 2, 1) := by decide +kernel
theorem dX4_share_17 : decode cX4_share 17 = .ok (.ifCond .lt 8, 3) := by decide +kernel
theorem dX4_share_20 : decode cX4_share 20 = .ok (.iload_n 2, 1) := by decide +kernel
theorem dX4_share_21 : decode cX4_share 21 = .ok (.iconst 1, 1) := by decide +kernel
theorem dX4_share_22 : decode cX4_share 22 = .ok (.if_icmp .le 5, 3) := by decide +kernel
theorem dX4_share_25 : decode cX4_share 25 = .ok (.iconst (-1), 1) := by decide +kernel
theorem dX4_share_26 : decode cX4_share 26 = .ok (.ireturn, 1) := by decide +kernel
theorem dX4_share_27 : decode cX4_share 27 = .ok (.aload_n 0, 1) := by decide +kernel
theorem dX4_share_28 : decode cX4_share 28 = .ok (.getfield 42, 3) := by decide +kernel
theorem dX4_share_31 : decode cX4_share 31 = .ok (.invokevirtual 242, 3) := by decide +kernel
theorem dX4_share_34 : decode cX4_share 34 = .ok (.iconst 0, 1) := by decide +kernel
theorem dX4_share_35 : decode cX4_share 35 = .ok (.istore_n 3, 1) := by decide +kernel
theorem dX4_share_36 : decode cX4_share 36 = .ok (.iload_n 3, 1) := by decide +kernel
theorem dX4_share_37 : decode cX4_share 37 = .ok (.aload_n 0, 1) := by decide +kernel
theorem dX4_share_38 : decode cX4_share 38 = .ok (.getfield 23, 3) := by decide +kernel
theorem dX4_share_41 : decode cX4_share 41 = .ok (.invokevirtual 91, 3) := by decide +kernel
theorem dX4_share_44 : decode cX4_share 44 = .ok (.if_icmp .ge 67, 3) := by decide +kernel
theorem dX4_share_47 : decode cX4_share 47 = .ok (.aload_n 0, 1) := by decide +kernel
theorem dX4_share_48 : decode cX4_share 48 = .ok (.getfield 23, 3) := by decide +kernel
theorem dX4_share_51 : decode cX4_share 51 = .ok (.iload_n 3, 1) := by decide +kernel
theorem dX4_share_52 : decode cX4_share 52 = .ok (.invokevirtual 187, 3) := by decide +kernel
theorem dX4_share_55 : decode cX4_share 55 = .ok (.ifCond .eq 50, 3) := by decide +kernel
theorem dX4_share_58 : decode cX4_share 58 = .ok (.iload_n 1, 1) := by decide +kernel
theorem dX4_share_59 : decode cX4_share 59 = .ok (.iconst 5, 1) := by decide +kernel
theorem dX4_share_60 : decode cX4_share 60 = .ok (.if_icmp .eq 15, 3) := by decide +kernel
theorem dX4_share_63 : decode cX4_share 63 = .ok (.aload_n 0, 1) := by decide +kernel
theorem dX4_share_64 : decode cX4_share 64 = .ok (.getfield 23, 3) := by decide +kernel
theorem dX4_share_67 : decode cX4_share 67 = .ok (.iload_n 3, 1) := by decide +kernel
theorem dX4_share_68 : decode cX4_share 68 = .ok (.invokevirtual 108, 3) := by decide +kernel
theorem dX4_share_71 : decode cX4_share 71 = .ok (.iload_n 1, 1) := by decide +kernel
theorem dX4_share_72 : decode cX4_share 72 = .ok (.if_icmp .ne 33, 3) := by decide +kernel
theorem dX4_share_75 : decode cX4_share 75 = .ok (.aload_n 0, 1) := by decide +kernel
theorem dX4_share_76 : decode cX4_share 76 = .ok (.getfield 23, 3) := by decide +kernel
theorem dX4_share_79 : decode cX4_share 79 = .ok (.iload_n 3, 1) := by decide +kernel
theorem dX4_share_80 : decode cX4_share 80 = .ok (.invokevirtual 120, 3) := by decide +kernel
theorem dX4_share_83 : decode cX4_share 83 = .ok (.istore 4, 2) := by decide +kernel
theorem dX4_share_85 : decode cX4_share 85 = .ok (.iload 4, 2) := by decide +kernel
theorem dX4_share_87 : decode cX4_share 87 = .ok (.bipush (-4), 2) := by decide +kernel
theorem dX4_share_89 : decode cX4_share 89 = .ok (.if_icmp .ne 6, 3) := by decide +kernel
theorem dX4_share_92 : decode cX4_share 92 = .ok (.bipush (-4), 2) := by decide +kernel
theorem dX4_share_94 : decode cX4_share 94 = .ok (.ireturn, 1) := by decide +kernel
theorem dX4_share_95 : decode cX4_share 95 = .ok (.aload_n 0, 1) := by decide +kernel
theorem dX4_share_96 : decode cX4_share 96 = .ok (.getfield 42, 3) := by decide +kernel
theorem dX4_share_99 : decode cX4_share 99 = .ok (.iload_n 3, 1) := by decide +kernel
theorem dX4_share_100 : decode cX4_share 100 = .ok (.iload 4, 2) := by decide +kernel
theorem dX4_share_102 : decode cX4_share 102 = .ok (.invokevirtual 243, 3) := by decide +kernel
theorem dX4_share_105 : decode cX4_share 105 = .ok (.iinc 3 1, 3) := by decide +kernel
theorem dX4_share_108 : decode cX4_share 108 = .ok (.goto (-72), 3) := by decide +kernel
theorem dX4_share_111 : decode cX4_share 111 = .ok (.aload_n 0, 1) := by decide +kernel
theorem dX4_share_112 : decode cX4_share 112 = .ok (.getfield 42, 3) := by decide +kernel
theorem dX4_share_115 : decode cX4_share 115 = .ok (.invokevirtual 245, 3) := by decide +kernel
theorem dX4_share_118 : decode cX4_share 118 = .ok (.iload_n 2, 1) := by decide +kernel
theorem dX4_share_119 : decode cX4_share 119 = .ok (.ifCond .ne 13, 3) := by decide +kernel
theorem dX4_share_122 : decode cX4_share 122 = .ok (.aload_n 0, 1) := by decide +kernel
theorem dX4_share_123 : decode cX4_share 123 = .ok (.getfield 42, 3) := by decide +kernel
theorem dX4_share_126 : decode cX4_share 126 = .ok (.getfield 248, 3) := by decide +kernel
theorem dX4_share_129 : decode cX4_share 129 = .ok (.goto 10, 3) := by decide +kernel
theorem dX4_share_132 : decode cX4_share 132 = .ok (.aload_n 0, 1) := by decide +kernel
theorem dX4_share_133 : decode cX4_share 133 = .ok (.getfield 42, 3) := by decide +kernel
theorem dX4_share_136 : decode cX4_share 136 = .ok (.getfield 251, 3) := by decide +kernel
theorem dX4_share_139 : decode cX4_share 139 = .ok (.ireturn, 1) := by decide +kernel
theorem dX4_make_0 : decode cX4_make 0 = .ok (.iload_n 1, 1) := by decide +kernel
theorem dX4_make_1 : decode cX4_make 1 = .ok (.ifCond .lt 10, 3) := by decide +kernel
theorem dX4_make_4 : decode cX4_make 4 = .ok (.iload_n 1, 1) := by decide +kernel
theorem dX4_make_5 : decode cX4_make 5 = .ok (.sipush 9999, 3) := by decide +kernel
theorem dX4_make_8 : decode cX4_make 8 = .ok (.if_icmp .le 5, 3) := by decide +kernel
theorem dX4_make_11 : decode cX4_make 11 = .ok (.iconst (-1), 1) := by decide +kernel
theorem dX4_make_12 : decode cX4_make 12 = .ok (.ireturn, 1) := by decide +kernel
theorem dX4_make_13 : decode cX4_make 13 = .ok (.aload_n 0, 1) := by decide +kernel
theorem dX4_make_14 : decode cX4_make 14 = .ok (.getfield 42, 3) := by decide +kernel
theorem dX4_make_17 : decode cX4_make 17 = .ok (.invokevirtual 242, 3) := by decide +kernel
theorem dX4_make_20 : decode cX4_make 20 = .ok (.iconst 0, 1) := by decide +kernel
theorem dX4_make_21 : decode cX4_make 21 = .ok (.istore_n 2, 1) := by decide +kernel
theorem dX4_make_22 : decode cX4_make 22 = .ok (.iload_n 2, 1) := by decide +kernel
theorem dX4_make_23 : decode cX4_make 23 = .ok (.aload_n 0, 1) := by decide +kernel
theorem dX4_make_24 : decode cX4_make 24 = .ok (.getfield 23, 3) := by decide +kernel
theorem dX4_make_27 : decode cX4_make 27 = .ok (.invokevirtual 91, 3) := by decide +kernel
theorem dX4_make_30 : decode cX4_make 30 = .ok (.if_icmp .ge 49, 3) := by decide +kernel
theorem dX4_make_33 : decode cX4_make 33 = .ok (.aload_n 0, 1) := by decide +kernel
theorem dX4_make_34 : decode cX4_make 34 = .ok (.getfield 23, 3) := by decide +kernel
theorem dX4_make_37 : decode cX4_make 37 = .ok (.iload_n 2, 1) := by decide +kernel
theorem dX4_make_38 : decode cX4_make 38 = .ok (.invokevirtual 187, 3) := by decide +kernel
theorem dX4_make_41 : decode cX4_make 41 = .ok (.ifCond .eq 32, 3) := by decide +kernel
theorem dX4_make_44 : decode cX4_make 44 = .ok (.aload_n 0, 1) := by decide +kernel
theorem dX4_make_45 : decode cX4_make 45 = .ok (.getfield 23, 3) := by decide +kernel
theorem dX4_make_48 : decode cX4_make 48 = .ok (.iload_n 2, 1) := by decide +kernel
theorem dX4_make_49 : decode cX4_make 49 = .ok (.invokevirtual 120, 3) := by decide +kernel
theorem dX4_make_52 : decode cX4_make 52 = .ok (.bipush (-4), 2) := by decide +kernel
theorem dX4_make_54 : decode cX4_make 54 = .ok (.if_icmp .eq 19, 3) := by decide +kernel
theorem dX4_make_57 : decode cX4_make 57 = .ok (.aload_n 0, 1) := by decide +kernel
theorem dX4_make_58 : decode cX4_make 58 = .ok (.getfield 42, 3) := by decide +kernel
theorem dX4_make_61 : decode cX4_make 61 = .ok (.iload_n 2, 1) := by decide +kernel
theorem dX4_make_62 : decode cX4_make 62 = .ok (.aload_n 0, 1) := by decide +kernel
theorem dX4_make_63 : decode cX4_make 63 = .ok (.getfield 23, 3) := by decide +kernel
theorem dX4_make_66 : decode cX4_make 66 = .ok (.iload_n 2, 1) := by decide +kernel
theorem dX4_make_67 : decode cX4_make 67 = .ok (.invokevirtual 120, 3) := by decide +kernel
theorem dX4_make_70 : decode cX4_make 70 = .ok (.invokevirtual 243, 3) := by decide +kernel
theorem dX4_make_73 : decode cX4_make 73 = .ok (.iinc 2 1, 3) := by decide +kernel
theorem dX4_make_76 : decode cX4_make 76 = .ok (.goto (-54), 3) := by decide +kernel
theorem dX4_make_79 : decode cX4_make 79 = .ok (.aload_n 0, 1) := by decide +kernel
theorem dX4_make_80 : decode cX4_make 80 = .ok (.getfield 42, 3) := by decide +kernel
theorem dX4_make_83 : decode cX4_make 83 = .ok (.iload_n 1, 1) := by decide +kernel
theorem dX4_make_84 : decode cX4_make 84 = .ok (.invokevirtual 254, 3) := by decide +kernel
theorem dX4_make_87 : decode cX4_make 87 = .ok (.aload_n 0, 1) := by decide +kernel
theorem dX4_make_88 : decode cX4_make 88 = .ok (.getfield 42, 3) := by decide +kernel
theorem dX4_make_91 : decode cX4_make 91 = .ok (.getfield 248, 3) := by decide +kernel
theorem dX4_make_94 : decode cX4_make 94 = .ok (.ireturn, 1) := by decide +kernel
theorem dX4_colours_0 : decode cX4_colours 0 = .ok (.iload_n 1, 1) := by decide +kernel
theorem dX4_colours_1 : decode cX4_colours 1 = .ok (.invokestatic 181, 3) := by decide +kernel
theorem dX4_colours_4 : decode cX4_colours 4 = .ok (.ifCond .eq 12, 3) := by decide +kernel
theorem dX4_colours_7 : decode cX4_colours 7 = .ok (.iload_n 2, 1) := by decide +kernel
theorem dX4_colours_8 : decode cX4_colours 8 = .ok (.ifCond .lt 8, 3) := by decide +kernel
theorem dX4_colours_11 : decode cX4_colours 11 = .ok (.iload_n 2, 1) := by decide +kernel
theorem dX4_colours_12 : decode cX4_colours 12 = .ok (.iconst 1, 1) := by decide +kernel
theorem dX4_colours_13 : decode cX4_colours 13 = .ok (.if_icmp .le 5, 3) := by decide +kernel
theorem dX4_colours_16 : decode cX4_colours 16 = .ok (.iconst (-1), 1) := by decide +kernel
theorem dX4_colours_17 : decode cX4_colours 17 = .ok (.ireturn, 1) := by decide +kernel
theorem dX4_colours_18 : decode cX4_colours 18 = .ok (.iconst 0, 1) := by decide +kernel
theorem dX4_colours_19 : decode cX4_colours 19 = .ok (.istore_n 3, 1) := by decide +kernel
theorem dX4_colours_20 : decode cX4_colours 20 = .ok (.iconst 0, 1) := by decide +kernel
theorem dX4_colours_21 : decode cX4_colours 21 = .ok (.istore 4, 2) := by decide +kernel
theorem dX4_colours_23 : decode cX4_colours 23 = .ok (.iconst 0, 1) := by decide +kernel
theorem dX4_colours_24 : decode cX4_colours 24 = .ok (.istore 5, 2) := by decide +kernel
theorem dX4_colours_26 : decode cX4_colours 26 = .ok (.iload 5, 2) := by decide +kernel
theorem dX4_colours_28 : decode cX4_colours 28 = .ok (.aload_n 0, 1) := by decide +kernel
theorem dX4_colours_29 : decode cX4_colours 29 = .ok (.getfield 23, 3) := by decide +kernel
theorem dX4_colours_32 : decode cX4_colours 32 = .ok (.invokevirtual 91, 3) := by decide +kernel
theorem dX4_colours_35 : decode cX4_colours 35 = .ok (.if_icmp .ge 37, 3) := by decide +kernel
theorem dX4_colours_38 : decode cX4_colours 38 = .ok (.aload_n 0, 1) := by decide +kernel
theorem dX4_colours_39 : decode cX4_colours 39 = .ok (.getfield 23, 3) := by decide +kernel
theorem dX4_colours_42 : decode cX4_colours 42 = .ok (.iload 5, 2) := by decide +kernel
theorem dX4_colours_44 : decode cX4_colours 44 = .ok (.invokevirtual 98, 3) := by decide +kernel
theorem dX4_colours_47 : decode cX4_colours 47 = .ok (.iload_n 1, 1) := by decide +kernel
theorem dX4_colours_48 : decode cX4_colours 48 = .ok (.if_icmp .ne 18, 3) := by decide +kernel
theorem dX4_colours_51 : decode cX4_colours 51 = .ok (.iinc 4 1, 3) := by decide +kernel
theorem dX4_colours_54 : decode cX4_colours 54 = .ok (.iload_n 3, 1) := by decide +kernel
theorem dX4_colours_55 : decode cX4_colours 55 = .ok (.aload_n 0, 1) := by decide +kernel
theorem dX4_colours_56 : decode cX4_colours 56 = .ok (.getfield 23, 3) := by decide +kernel
theorem dX4_colours_59 : decode cX4_colours 59 = .ok (.iload 5, 2) := by decide +kernel
theorem dX4_colours_61 : decode cX4_colours 61 = .ok (.invokevirtual 257, 3) := by decide +kernel
theorem dX4_colours_64 : decode cX4_colours 64 = .ok (.iadd, 1) := by decide +kernel
theorem dX4_colours_65 : decode cX4_colours 65 = .ok (.istore_n 3, 1) := by decide +kernel
theorem dX4_colours_66 : decode cX4_colours 66 = .ok (.iinc 5 1, 3) := by decide +kernel
theorem dX4_colours_69 : decode cX4_colours 69 = .ok (.goto (-43), 3) := by decide +kernel
theorem dX4_colours_72 : decode cX4_colours 72 = .ok (.iload_n 2, 1) := by decide +kernel
theorem dX4_colours_73 : decode cX4_colours 73 = .ok (.ifCond .ne 7, 3) := by decide +kernel
theorem dX4_colours_76 : decode cX4_colours 76 = .ok (.iload_n 3, 1) := by decide +kernel
theorem dX4_colours_77 : decode cX4_colours 77 = .ok (.goto 5, 3) := by decide +kernel
theorem dX4_colours_80 : decode cX4_colours 80 = .ok (.iload 4, 2) := by decide +kernel
theorem dX4_colours_82 : decode cX4_colours 82 = .ok (.ireturn, 1) := by decide +kernel
theorem dX4_path_0 : decode cX4_path 0 = .ok (.iload_n 1, 1) := by decide +kernel
theorem dX4_path_1 : decode cX4_path 1 = .ok (.invokestatic 181, 3) := by decide +kernel
theorem dX4_path_4 : decode cX4_path 4 = .ok (.ifCond .eq 10, 3) := by decide +kernel
theorem dX4_path_7 : decode cX4_path 7 = .ok (.iload_n 2, 1) := by decide +kernel
theorem dX4_path_8 : decode cX4_path 8 = .ok (.invokestatic 181, 3) := by decide +kernel
theorem dX4_path_11 : decode cX4_path 11 = .ok (.ifCond .ne 5, 3) := by decide +kernel
theorem dX4_path_14 : decode cX4_path 14 = .ok (.iconst (-1), 1) := by decide +kernel
theorem dX4_path_15 : decode cX4_path 15 = .ok (.ireturn, 1) := by decide +kernel
theorem dX4_path_16 : decode cX4_path 16 = .ok (.iconst 0, 1) := by decide +kernel
theorem dX4_path_17 : decode cX4_path 17 = .ok (.istore_n 3, 1) := by decide +kernel
theorem dX4_path_18 : decode cX4_path 18 = .ok (.iconst 0, 1) := by decide +kernel
theorem dX4_path_19 : decode cX4_path 19 = .ok (.istore 4, 2) := by decide +kernel
theorem dX4_path_21 : decode cX4_path 21 = .ok (.iload 4, 2) := by decide +kernel
theorem dX4_path_23 : decode cX4_path 23 = .ok (.aload_n 0, 1) := by decide +kernel
theorem dX4_path_24 : decode cX4_path 24 = .ok (.getfield 23, 3) := by decide +kernel
theorem dX4_path_27 : decode cX4_path 27 = .ok (.invokevirtual 91, 3) := by decide +kernel
theorem dX4_path_30 : decode cX4_path 30 = .ok (.if_icmp .ge 65, 3) := by decide +kernel
theorem dX4_path_33 : decode cX4_path 33 = .ok (.aload_n 0, 1) := by decide +kernel
theorem dX4_path_34 : decode cX4_path 34 = .ok (.getfield 23, 3) := by decide +kernel
theorem dX4_path_37 : decode cX4_path 37 = .ok (.iload 4, 2) := by decide +kernel
theorem dX4_path_39 : decode cX4_path 39 = .ok (.invokevirtual 105, 3) := by decide +kernel
theorem dX4_path_42 : decode cX4_path 42 = .ok (.istore 5, 2) := by decide +kernel
theorem dX4_path_44 : decode cX4_path 44 = .ok (.iload 5, 2) := by decide +kernel
theorem dX4_path_46 : decode cX4_path 46 = .ok (.bipush (-4), 2) := by decide +kernel
theorem dX4_path_48 : decode cX4_path 48 = .ok (.if_icmp .eq 41, 3) := by decide +kernel
theorem dX4_path_51 : decode cX4_path 51 = .ok (.aload_n 0, 1) := by decide +kernel
theorem dX4_path_52 : decode cX4_path 52 = .ok (.getfield 23, 3) := by decide +kernel
theorem dX4_path_55 : decode cX4_path 55 = .ok (.iload 5, 2) := by decide +kernel
theorem dX4_path_57 : decode cX4_path 57 = .ok (.invokevirtual 98, 3) := by decide +kernel
theorem dX4_path_60 : decode cX4_path 60 = .ok (.iload_n 1, 1) := by decide +kernel
theorem dX4_path_61 : decode cX4_path 61 = .ok (.if_icmp .ne 28, 3) := by decide +kernel
theorem dX4_path_64 : decode cX4_path 64 = .ok (.aload_n 0, 1) := by decide +kernel
theorem dX4_path_65 : decode cX4_path 65 = .ok (.getfield 23, 3) := by decide +kernel
theorem dX4_path_68 : decode cX4_path 68 = .ok (.iload 4, 2) := by decide +kernel
theorem dX4_path_70 : decode cX4_path 70 = .ok (.invokevirtual 98, 3) := by decide +kernel
theorem dX4_path_73 : decode cX4_path 73 = .ok (.iload_n 2, 1) := by decide +kernel
theorem dX4_path_74 : decode cX4_path 74 = .ok (.if_icmp .ne 15, 3) := by decide +kernel
theorem dX4_path_77 : decode cX4_path 77 = .ok (.iload_n 3, 1) := by decide +kernel
theorem dX4_path_78 : decode cX4_path 78 = .ok (.aload_n 0, 1) := by decide +kernel
theorem dX4_path_79 : decode cX4_path 79 = .ok (.getfield 23, 3) := by decide +kernel
theorem dX4_path_82 : decode cX4_path 82 = .ok (.iload 4, 2) := by decide +kernel
theorem dX4_path_84 : decode cX4_path 84 = .ok (.invokevirtual 257, 3) := by decide +kernel
theorem dX4_path_87 : decode cX4_path 87 = .ok (.iadd, 1) := by decide +kernel
theorem dX4_path_88 : decode cX4_path 88 = .ok (.istore_n 3, 1) := by decide +kernel
theorem dX4_path_89 : decode cX4_path 89 = .ok (.iinc 4 1, 3) := by decide +kernel
theorem dX4_path_92 : decode cX4_path 92 = .ok (.goto (-71), 3) := by decide +kernel
theorem dX4_path_95 : decode cX4_path 95 = .ok (.iload_n 3, 1) := by decide +kernel
theorem dX4_path_96 : decode cX4_path 96 = .ok (.ireturn, 1) := by decide +kernel
theorem dX4_same_0 : decode cX4_same 0 = .ok (.aload_n 0, 1) := by decide +kernel
theorem dX4_same_1 : decode cX4_same 1 = .ok (.getfield 23, 3) := by decide +kernel
theorem dX4_same_4 : decode cX4_same 4 = .ok (.iload_n 1, 1) := by decide +kernel
theorem dX4_same_5 : decode cX4_same 5 = .ok (.invokevirtual 94, 3) := by decide +kernel
theorem dX4_same_8 : decode cX4_same 8 = .ok (.ifCond .eq 19, 3) := by decide +kernel
theorem dX4_same_11 : decode cX4_same 11 = .ok (.aload_n 0, 1) := by decide +kernel
theorem dX4_same_12 : decode cX4_same 12 = .ok (.getfield 23, 3) := by decide +kernel
theorem dX4_same_15 : decode cX4_same 15 = .ok (.iload_n 2, 1) := by decide +kernel
theorem dX4_same_16 : decode cX4_same 16 = .ok (.invokevirtual 94, 3) := by decide +kernel
theorem dX4_same_19 : decode cX4_same 19 = .ok (.ifCond .eq 8, 3) := by decide +kernel
theorem dX4_same_22 : decode cX4_same 22 = .ok (.iload_n 1, 1) := by decide +kernel
theorem dX4_same_23 : decode cX4_same 23 = .ok (.iload_n 2, 1) := by decide +kernel
theorem dX4_same_24 : decode cX4_same 24 = .ok (.if_icmp .ne 5, 3) := by decide +kernel
theorem dX4_same_27 : decode cX4_same 27 = .ok (.iconst (-1), 1) := by decide +kernel
theorem dX4_same_28 : decode cX4_same 28 = .ok (.ireturn, 1) := by decide +kernel
theorem dX4_same_29 : decode cX4_same 29 = .ok (.aload_n 0, 1) := by decide +kernel
theorem dX4_same_30 : decode cX4_same 30 = .ok (.getfield 23, 3) := by decide +kernel
theorem dX4_same_33 : decode cX4_same 33 = .ok (.iload_n 1, 1) := by decide +kernel
theorem dX4_same_34 : decode cX4_same 34 = .ok (.invokevirtual 260, 3) := by decide +kernel
theorem dX4_same_37 : decode cX4_same 37 = .ok (.istore_n 3, 1) := by decide +kernel
theorem dX4_same_38 : decode cX4_same 38 = .ok (.iload_n 3, 1) := by decide +kernel
theorem dX4_same_39 : decode cX4_same 39 = .ok (.aload_n 0, 1) := by decide +kernel
theorem dX4_same_40 : decode cX4_same 40 = .ok (.getfield 23, 3) := by decide +kernel
theorem dX4_same_43 : decode cX4_same 43 = .ok (.iload_n 2, 1) := by decide +kernel
theorem dX4_same_44 : decode cX4_same 44 = .ok (.invokevirtual 260, 3) := by decide +kernel
theorem dX4_same_47 : decode cX4_same 47 = .ok (.if_icmp .ne 7, 3) := by decide +kernel
theorem dX4_same_50 : decode cX4_same 50 = .ok (.iconst 1, 1) := by decide +kernel
theorem dX4_same_51 : decode cX4_same 51 = .ok (.goto 4, 3) := by decide +kernel
theorem dX4_same_54 : decode cX4_same 54 = .ok (.iconst 0, 1) := by decide +kernel
theorem dX4_same_55 : decode cX4_same 55 = .ok (.istore 4, 2) := by decide +kernel
theorem dX4_same_57 : decode cX4_same 57 = .ok (.aload_n 0, 1) := by decide +kernel
theorem dX4_same_58 : decode cX4_same 58 = .ok (.getfield 23, 3) := by decide +kernel
theorem dX4_same_61 : decode cX4_same 61 = .ok (.iload_n 2, 1) := by decide +kernel
theorem dX4_same_62 : decode cX4_same 62 = .ok (.invokevirtual 111, 3) := by decide +kernel
theorem dX4_same_65 : decode cX4_same 65 = .ok (.aload_n 0, 1) := by decide +kernel
theorem dX4_same_66 : decode cX4_same 66 = .ok (.getfield 23, 3) := by decide +kernel
theorem dX4_same_69 : decode cX4_same 69 = .ok (.iload_n 1, 1) := by decide +kernel
theorem dX4_same_70 : decode cX4_same 70 = .ok (.invokevirtual 111, 3) := by decide +kernel
theorem dX4_same_73 : decode cX4_same 73 = .ok (.isub, 1) := by decide +kernel
theorem dX4_same_74 : decode cX4_same 74 = .ok (.istore 5, 2) := by decide +kernel
theorem dX4_same_76 : decode cX4_same 76 = .ok (.iconst 0, 1) := by decide +kernel
theorem dX4_same_77 : decode cX4_same 77 = .ok (.istore 6, 2) := by decide +kernel
theorem dX4_same_79 : decode cX4_same 79 = .ok (.iload 4, 2) := by decide +kernel
theorem dX4_same_81 : decode cX4_same 81 = .ok (.ifCond .eq 68, 3) := by decide +kernel
theorem dX4_same_84 : decode cX4_same 84 = .ok (.iload 6, 2) := by decide +kernel
theorem dX4_same_86 : decode cX4_same 86 = .ok (.iload_n 3, 1) := by decide +kernel
theorem dX4_same_87 : decode cX4_same 87 = .ok (.if_icmp .ge 62, 3) := by decide +kernel
theorem dX4_same_90 : decode cX4_same 90 = .ok (.aload_n 0, 1) := by decide +kernel
theorem dX4_same_91 : decode cX4_same 91 = .ok (.getfield 23, 3) := by decide +kernel
theorem dX4_same_94 : decode cX4_same 94 = .ok (.iload_n 1, 1) := by decide +kernel
theorem dX4_same_95 : decode cX4_same 95 = .ok (.iload 6, 2) := by decide +kernel
theorem dX4_same_97 : decode cX4_same 97 = .ok (.iadd, 1) := by decide +kernel
theorem dX4_same_98 : decode cX4_same 98 = .ok (.iload_n 2, 1) := by decide +kernel
theorem dX4_same_99 : decode cX4_same 99 = .ok (.iload 6, 2) := by decide +kernel
theorem dX4_same_101 : decode cX4_same 101 = .ok (.iadd, 1) := by decide +kernel
theorem dX4_same_102 : decode cX4_same 102 = .ok (.invokevirtual 263, 3) := by decide +kernel
theorem dX4_same_105 : decode cX4_same 105 = .ok (.ifCond .eq 35, 3) := by decide +kernel
theorem dX4_same_108 : decode cX4_same 108 = .ok (.aload_n 0, 1) := by decide +kernel
theorem dX4_same_109 : decode cX4_same 109 = .ok (.getfield 23, 3) := by decide +kernel
theorem dX4_same_112 : decode cX4_same 112 = .ok (.iload_n 2, 1) := by decide +kernel
theorem dX4_same_113 : decode cX4_same 113 = .ok (.iload 6, 2) := by decide +kernel
theorem dX4_same_115 : decode cX4_same 115 = .ok (.iadd, 1) := by decide +kernel
theorem dX4_same_116 : decode cX4_same 116 = .ok (.invokevirtual 111, 3) := by decide +kernel
theorem dX4_same_119 : decode cX4_same 119 = .ok (.aload_n 0, 1) := by decide +kernel
theorem dX4_same_120 : decode cX4_same 120 = .ok (.getfield 23, 3) := by decide +kernel
theorem dX4_same_123 : decode cX4_same 123 = .ok (.iload_n 1, 1) := by decide +kernel
theorem dX4_same_124 : decode cX4_same 124 = .ok (.iload 6, 2) := by decide +kernel
theorem dX4_same_126 : decode cX4_same 126 = .ok (.iadd, 1) := by decide +kernel
theorem dX4_same_127 : decode cX4_same 127 = .ok (.invokevirtual 111, 3) := by decide +kernel
theorem dX4_same_130 : decode cX4_same 130 = .ok (.isub, 1) := by decide +kernel
theorem dX4_same_131 : decode cX4_same 131 = .ok (.iload 5, 2) := by decide +kernel
theorem dX4_same_133 : decode cX4_same 133 = .ok (.if_icmp .ne 7, 3) := by decide +kernel
theorem dX4_same_136 : decode cX4_same 136 = .ok (.iconst 1, 1) := by decide +kernel
theorem dX4_same_137 : decode cX4_same 137 = .ok (.goto 4, 3) := by decide +kernel
theorem dX4_same_140 : decode cX4_same 140 = .ok (.iconst 0, 1) := by decide +kernel
theorem dX4_same_141 : decode cX4_same 141 = .ok (.istore 4, 2) := by decide +kernel
theorem dX4_same_143 : decode cX4_same 143 = .ok (.iinc 6 1, 3) := by decide +kernel
theorem dX4_same_146 : decode cX4_same 146 = .ok (.goto (-67), 3) := by decide +kernel
theorem dX4_same_149 : decode cX4_same 149 = .ok (.iload 4, 2) := by decide +kernel
theorem dX4_same_151 : decode cX4_same 151 = .ok (.ifCond .eq 7, 3) := by decide +kernel
theorem dX4_same_154 : decode cX4_same 154 = .ok (.iconst 1, 1) := by decide +kernel
theorem dX4_same_155 : decode cX4_same 155 = .ok (.goto 4, 3) := by decide +kernel
theorem dX4_same_158 : decode cX4_same 158 = .ok (.iconst 0, 1) := by decide +kernel
theorem dX4_same_159 : decode cX4_same 159 = .ok (.ireturn, 1) := by decide +kernel
theorem dX4_year_0 : decode cX4_year 0 = .ok (.iload_n 1, 1) := by decide +kernel
theorem dX4_year_1 : decode cX4_year 1 = .ok (.ifCond .lt 19, 3) := by decide +kernel
theorem dX4_year_4 : decode cX4_year 4 = .ok (.iload_n 1, 1) := by decide +kernel
theorem dX4_year_5 : decode cX4_year 5 = .ok (.sipush 9999, 3) := by decide +kernel
theorem dX4_year_8 : decode cX4_year 8 = .ok (.if_icmp .gt 12, 3) := by decide +kernel
theorem dX4_year_11 : decode cX4_year 11 = .ok (.iload_n 2, 1) := by decide +kernel
theorem dX4_year_12 : decode cX4_year 12 = .ok (.ifCond .lt 8, 3) := by decide +kernel
theorem dX4_year_15 : decode cX4_year 15 = .ok (.iload_n 2, 1) := by decide +kernel
theorem dX4_year_16 : decode cX4_year 16 = .ok (.iconst 1, 1) := by decide +kernel
theorem dX4_year_17 : decode cX4_year 17 = .ok (.if_icmp .le 5, 3) := by decide +kernel
theorem dX4_year_20 : decode cX4_year 20 = .ok (.iconst (-1), 1) := by decide +kernel
theorem dX4_year_21 : decode cX4_year 21 = .ok (.ireturn, 1) := by decide +kernel
theorem dX4_year_22 : decode cX4_year 22 = .ok (.iconst 0, 1) := by decide +kernel
theorem dX4_year_23 : decode cX4_year 23 = .ok (.istore_n 3, 1) := by decide +kernel
theorem dX4_year_24 : decode cX4_year 24 = .ok (.iconst 0, 1) := by decide +kernel
theorem dX4_year_25 : decode cX4_year 25 = .ok (.istore 4, 2) := by decide +kernel
theorem dX4_year_27 : decode cX4_year 27 = .ok (.iconst 0, 1) := by decide +kernel
theorem dX4_year_28 : decode cX4_year 28 = .ok (.istore 5, 2) := by decide +kernel
theorem dX4_year_30 : decode cX4_year 30 = .ok (.iload 5, 2) := by decide +kernel
theorem dX4_year_32 : decode cX4_year 32 = .ok (.aload_n 0, 1) := by decide +kernel
theorem dX4_year_33 : decode cX4_year 33 = .ok (.getfield 23, 3) := by decide +kernel
theorem dX4_year_36 : decode cX4_year 36 = .ok (.invokevirtual 91, 3) := by decide +kernel
theorem dX4_year_39 : decode cX4_year 39 = .ok (.if_icmp .ge 92, 3) := by decide +kernel
theorem dX4_year_42 : decode cX4_year 42 = .ok (.aload_n 0, 1) := by decide +kernel
theorem dX4_year_43 : decode cX4_year 43 = .ok (.getfield 23, 3) := by decide +kernel
theorem dX4_year_46 : decode cX4_year 46 = .ok (.iload 5, 2) := by decide +kernel
theorem dX4_year_48 : decode cX4_year 48 = .ok (.invokevirtual 187, 3) := by decide +kernel
theorem dX4_year_51 : decode cX4_year 51 = .ok (.ifCond .eq 15, 3) := by decide +kernel
theorem dX4_year_54 : decode cX4_year 54 = .ok (.aload_n 0, 1) := by decide +kernel
theorem dX4_year_55 : decode cX4_year 55 = .ok (.getfield 23, 3) := by decide +kernel
theorem dX4_year_58 : decode cX4_year 58 = .ok (.iload 5, 2) := by decide +kernel
theorem dX4_year_60 : decode cX4_year 60 = .ok (.invokevirtual 120, 3) := by decide +kernel
theorem dX4_year_63 : decode cX4_year 63 = .ok (.goto 5, 3) := by decide +kernel
theorem dX4_year_66 : decode cX4_year 66 = .ok (.bipush (-4), 2) := by decide +kernel
theorem dX4_year_68 : decode cX4_year 68 = .ok (.istore 6, 2) := by decide +kernel
theorem dX4_year_70 : decode cX4_year 70 = .ok (.iload 6, 2) := by decide +kernel
theorem dX4_year_72 : decode cX4_year 72 = .ok (.bipush (-4), 2) := by decide +kernel
theorem dX4_year_74 : decode cX4_year 74 = .ok (.if_icmp .eq 51, 3) := by decide +kernel
theorem dX4_year_77 : decode cX4_year 77 = .ok (.iload 6, 2) := by decide +kernel
theorem dX4_year_79 : decode cX4_year 79 = .ok (.iload_n 1, 1) := by decide +kernel
theorem dX4_year_80 : decode cX4_year 80 = .ok (.iload 5, 2) := by decide +kernel
theorem dX4_year_82 : decode cX4_year 82 = .ok (.invokestatic 266, 3) := by decide +kernel
theorem dX4_year_85 : decode cX4_year 85 = .ok (.iadd, 1) := by decide +kernel
theorem dX4_year_86 : decode cX4_year 86 = .ok (.iconst 0, 1) := by decide +kernel
theorem dX4_year_87 : decode cX4_year 87 = .ok (.invokestatic 233, 3) := by decide +kernel
theorem dX4_year_90 : decode cX4_year 90 = .ok (.aload_n 0, 1) := by decide +kernel
theorem dX4_year_91 : decode cX4_year 91 = .ok (.getfield 23, 3) := by decide +kernel
theorem dX4_year_94 : decode cX4_year 94 = .ok (.iload 5, 2) := by decide +kernel
theorem dX4_year_96 : decode cX4_year 96 = .ok (.invokevirtual 161, 3) := by decide +kernel
theorem dX4_year_99 : decode cX4_year 99 = .ok (.invokestatic 269, 3) := by decide +kernel
theorem dX4_year_102 : decode cX4_year 102 = .ok (.istore 7, 2) := by decide +kernel
theorem dX4_year_104 : decode cX4_year 104 = .ok (.iload_n 3, 1) := by decide +kernel
theorem dX4_year_105 : decode cX4_year 105 = .ok (.aload_n 0, 1) := by decide +kernel
theorem dX4_year_106 : decode cX4_year 106 = .ok (.getfield 23, 3) := by decide +kernel
theorem dX4_year_109 : decode cX4_year 109 = .ok (.iload 5, 2) := by decide +kernel
theorem dX4_year_111 : decode cX4_year 111 = .ok (.iload 7, 2) := by decide +kernel
theorem dX4_year_113 : decode cX4_year 113 = .ok (.invokevirtual 164, 3) := by decide +kernel
theorem dX4_year_116 : decode cX4_year 116 = .ok (.iadd, 1) := by decide +kernel
theorem dX4_year_117 : decode cX4_year 117 = .ok (.istore_n 3, 1) := by decide +kernel
theorem dX4_year_118 : decode cX4_year 118 = .ok (.iload 4, 2) := by decide +kernel
theorem dX4_year_120 : decode cX4_year 120 = .ok (.iload 7, 2) := by decide +kernel
theorem dX4_year_122 : decode cX4_year 122 = .ok (.iadd, 1) := by decide +kernel
theorem dX4_year_123 : decode cX4_year 123 = .ok (.istore 4, 2) := by decide +kernel
theorem dX4_year_125 : decode cX4_year 125 = .ok (.iinc 5 1, 3) := by decide +kernel
theorem dX4_year_128 : decode cX4_year 128 = .ok (.goto (-98), 3) := by decide +kernel
theorem dX4_year_131 : decode cX4_year 131 = .ok (.iload_n 2, 1) := by decide +kernel
theorem dX4_year_132 : decode cX4_year 132 = .ok (.ifCond .ne 7, 3) := by decide +kernel
theorem dX4_year_135 : decode cX4_year 135 = .ok (.iload_n 3, 1) := by decide +kernel
theorem dX4_year_136 : decode cX4_year 136 = .ok (.goto 5, 3) := by decide +kernel
theorem dX4_year_139 : decode cX4_year 139 = .ok (.iload 4, 2) := by decide +kernel
theorem dX4_year_141 : decode cX4_year 141 = .ok (.ireturn, 1) := by decide +kernel
theorem dX4_keep_0 : decode cX4_keep 0 = .ok (.aload_n 0, 1) := by decide +kernel
theorem dX4_keep_1 : decode cX4_keep 1 = .ok (.getfield 36, 3) := by decide +kernel
theorem dX4_keep_4 : decode cX4_keep 4 = .ok (.getfield 193, 3) := by decide +kernel
theorem dX4_keep_7 : decode cX4_keep 7 = .ok (.iconst 2, 1) := by decide +kernel
theorem dX4_keep_8 : decode cX4_keep 8 = .ok (.if_icmp .lt 6, 3) := by decide +kernel
theorem dX4_keep_11 : decode cX4_keep 11 = .ok (.bipush (-3), 2) := by decide +kernel
theorem dX4_keep_13 : decode cX4_keep 13 = .ok (.ireturn, 1) := by decide +kernel
theorem dX4_keep_14 : decode cX4_keep 14 = .ok (.aload_n 0, 1) := by decide +kernel
theorem dX4_keep_15 : decode cX4_keep 15 = .ok (.getfield 36, 3) := by decide +kernel
theorem dX4_keep_18 : decode cX4_keep 18 = .ok (.aload_n 0, 1) := by decide +kernel
theorem dX4_keep_19 : decode cX4_keep 19 = .ok (.getfield 23, 3) := by decide +kernel
theorem dX4_keep_22 : decode cX4_keep 22 = .ok (.getfield 78, 3) := by decide +kernel
theorem dX4_keep_25 : decode cX4_keep 25 = .ok (.invokevirtual 167, 3) := by decide +kernel
theorem dX4_keep_28 : decode cX4_keep 28 = .ok (.aload_n 0, 1) := by decide +kernel
theorem dX4_keep_29 : decode cX4_keep 29 = .ok (.getfield 36, 3) := by decide +kernel
theorem dX4_keep_32 : decode cX4_keep 32 = .ok (.getfield 193, 3) := by decide +kernel
theorem dX4_keep_35 : decode cX4_keep 35 = .ok (.ireturn, 1) := by decide +kernel
theorem dX4_back_0 : decode cX4_back 0 = .ok (.aload_n 0, 1) := by decide +kernel
theorem dX4_back_1 : decode cX4_back 1 = .ok (.getfield 36, 3) := by decide +kernel
theorem dX4_back_4 : decode cX4_back 4 = .ok (.getfield 193, 3) := by decide +kernel
theorem dX4_back_7 : decode cX4_back 7 = .ok (.ifCond .ne 6, 3) := by decide +kernel
theorem dX4_back_10 : decode cX4_back 10 = .ok (.bipush (-2), 2) := by decide +kernel
theorem dX4_back_12 : decode cX4_back 12 = .ok (.ireturn, 1) := by decide +kernel
theorem dX4_back_13 : decode cX4_back 13 = .ok (.aload_n 0, 1) := by decide +kernel
theorem dX4_back_14 : decode cX4_back 14 = .ok (.getfield 36, 3) := by decide +kernel
theorem dX4_back_17 : decode cX4_back 17 = .ok (.aload_n 0, 1) := by decide +kernel
theorem dX4_back_18 : decode cX4_back 18 = .ok (.getfield 23, 3) := by decide +kernel
theorem dX4_back_21 : decode cX4_back 21 = .ok (.getfield 78, 3) := by decide +kernel
theorem dX4_back_24 : decode cX4_back 24 = .ok (.invokevirtual 196, 3) := by decide +kernel
theorem dX4_back_27 : decode cX4_back 27 = .ok (.aload_n 0, 1) := by decide +kernel
theorem dX4_back_28 : decode cX4_back 28 = .ok (.getfield 32, 3) := by decide +kernel
theorem dX4_back_31 : decode cX4_back 31 = .ok (.invokevirtual 88, 3) := by decide +kernel
theorem dX4_back_34 : decode cX4_back 34 = .ok (.aload_n 0, 1) := by decide +kernel
theorem dX4_back_35 : decode cX4_back 35 = .ok (.getfield 36, 3) := by decide +kernel
theorem dX4_back_38 : decode cX4_back 38 = .ok (.getfield 193, 3) := by decide +kernel
theorem dX4_back_41 : decode cX4_back 41 = .ok (.ireturn, 1) := by decide +kernel
theorem dX4_count_0 : decode cX4_count 0 = .ok (.iload_n 1, 1) := by decide +kernel
theorem dX4_count_1 : decode cX4_count 1 = .ok (.tableswitch 108 0 7 #[47, 55, 63, 71, 79, 87, 95, 103], 47) := by decide +kernel
theorem dX4_count_48 : decode cX4_count 48 = .ok (.aload_n 0, 1) := by decide +kernel
theorem dX4_count_49 : decode cX4_count 49 = .ok (.getfield 23, 3) := by decide +kernel
theorem dX4_count_52 : decode cX4_count 52 = .ok (.invokevirtual 91, 3) := by decide +kernel
theorem dX4_count_55 : decode cX4_count 55 = .ok (.ireturn, 1) := by decide +kernel
theorem dX4_count_56 : decode cX4_count 56 = .ok (.aload_n 0, 1) := by decide +kernel
theorem dX4_count_57 : decode cX4_count 57 = .ok (.getfield 23, 3) := by decide +kernel
theorem dX4_count_60 : decode cX4_count 60 = .ok (.invokevirtual 272, 3) := by decide +kernel
theorem dX4_count_63 : decode cX4_count 63 = .ok (.ireturn, 1) := by decide +kernel
theorem dX4_count_64 : decode cX4_count 64 = .ok (.aload_n 0, 1) := by decide +kernel
theorem dX4_count_65 : decode cX4_count 65 = .ok (.getfield 23, 3) := by decide +kernel
theorem dX4_count_68 : decode cX4_count 68 = .ok (.invokevirtual 275, 3) := by decide +kernel
theorem dX4_count_71 : decode cX4_count 71 = .ok (.ireturn, 1) := by decide +kernel
theorem dX4_count_72 : decode cX4_count 72 = .ok (.aload_n 0, 1) := by decide +kernel
theorem dX4_count_73 : decode cX4_count 73 = .ok (.getfield 23, 3) := by decide +kernel
theorem dX4_count_76 : decode cX4_count 76 = .ok (.invokevirtual 278, 3) := by decide +kernel
theorem dX4_count_79 : decode cX4_count 79 = .ok (.ireturn, 1) := by decide +kernel
theorem dX4_count_80 : decode cX4_count 80 = .ok (.aload_n 0, 1) := by decide +kernel
theorem dX4_count_81 : decode cX4_count 81 = .ok (.getfield 23, 3) := by decide +kernel
theorem dX4_count_84 : decode cX4_count 84 = .ok (.invokevirtual 281, 3) := by decide +kernel
theorem dX4_count_87 : decode cX4_count 87 = .ok (.ireturn, 1) := by decide +kernel
theorem dX4_count_88 : decode cX4_count 88 = .ok (.aload_n 0, 1) := by decide +kernel
theorem dX4_count_89 : decode cX4_count 89 = .ok (.getfield 32, 3) := by decide +kernel
theorem dX4_count_92 : decode cX4_count 92 = .ok (.getfield 193, 3) := by decide +kernel
theorem dX4_count_95 : decode cX4_count 95 = .ok (.ireturn, 1) := by decide +kernel
theorem dX4_count_96 : decode cX4_count 96 = .ok (.aload_n 0, 1) := by decide +kernel
theorem dX4_count_97 : decode cX4_count 97 = .ok (.getfield 36, 3) := by decide +kernel
theorem dX4_count_100 : decode cX4_count 100 = .ok (.getfield 193, 3) := by decide +kernel
theorem dX4_count_103 : decode cX4_count 103 = .ok (.ireturn, 1) := by decide +kernel
theorem dX4_count_104 : decode cX4_count 104 = .ok (.aload_n 0, 1) := by decide +kernel
theorem dX4_count_105 : decode cX4_count 105 = .ok (.getfield 85, 3) := by decide +kernel
theorem dX4_count_108 : decode cX4_count 108 = .ok (.ireturn, 1) := by decide +kernel
theorem dX4_count_109 : decode cX4_count 109 = .ok (.iconst (-1), 1) := by decide +kernel
theorem dX4_count_110 : decode cX4_count 110 = .ok (.ireturn, 1) := by decide +kernel
theorem dX4_measureRoom_0 : decode cX4_measureRoom 0 = .ok (.aload_n 0, 1) := by decide +kernel
theorem dX4_measureRoom_1 : decode cX4_measureRoom 1 = .ok (.getfield 46, 3) := by decide +kernel
theorem dX4_measureRoom_4 : decode cX4_measureRoom 4 = .ok (.iconst 0, 1) := by decide +kernel
theorem dX4_measureRoom_5 : decode cX4_measureRoom 5 = .ok (.invokestatic 284, 3) := by decide +kernel
theorem dX4_measureRoom_8 : decode cX4_measureRoom 8 = .ok (.aload_n 0, 1) := by decide +kernel
theorem dX4_measureRoom_9 : decode cX4_measureRoom 9 = .ok (.getfield 50, 3) := by decide +kernel
theorem dX4_measureRoom_12 : decode cX4_measureRoom 12 = .ok (.iconst 0, 1) := by decide +kernel
theorem dX4_measureRoom_13 : decode cX4_measureRoom 13 = .ok (.invokestatic 284, 3) := by decide +kernel
theorem dX4_measureRoom_16 : decode cX4_measureRoom 16 = .ok (.iconst 0, 1) := by decide +kernel
theorem dX4_measureRoom_17 : decode cX4_measureRoom 17 = .ok (.istore_n 2, 1) := by decide +kernel
theorem dX4_measureRoom_18 : decode cX4_measureRoom 18 = .ok (.iload_n 2, 1) := by decide +kernel
theorem dX4_measureRoom_19 : decode cX4_measureRoom 19 = .ok (.aload_n 0, 1) := by decide +kernel
theorem dX4_measureRoom_20 : decode cX4_measureRoom 20 = .ok (.getfield 23, 3) := by decide +kernel
theorem dX4_measureRoom_23 : decode cX4_measureRoom 23 = .ok (.invokevirtual 91, 3) := by decide +kernel
theorem dX4_measureRoom_26 : decode cX4_measureRoom 26 = .ok (.if_icmp .ge 119, 3) := by decide +kernel
theorem dX4_measureRoom_29 : decode cX4_measureRoom 29 = .ok (.iconst 0, 1) := by decide +kernel
theorem dX4_measureRoom_30 : decode cX4_measureRoom 30 = .ok (.istore_n 3, 1) := by decide +kernel
theorem dX4_measureRoom_31 : decode cX4_measureRoom 31 = .ok (.aload_n 0, 1) := by decide +kernel
theorem dX4_measureRoom_32 : decode cX4_measureRoom 32 = .ok (.getfield 23, 3) := by decide +kernel
theorem dX4_measureRoom_35 : decode cX4_measureRoom 35 = .ok (.iload_n 2, 1) := by decide +kernel
theorem dX4_measureRoom_36 : decode cX4_measureRoom 36 = .ok (.iload_n 1, 1) := by decide +kernel
theorem dX4_measureRoom_37 : decode cX4_measureRoom 37 = .ok (.invokevirtual 207, 3) := by decide +kernel
theorem dX4_measureRoom_40 : decode cX4_measureRoom 40 = .ok (.ifCond .eq 99, 3) := by decide +kernel
theorem dX4_measureRoom_43 : decode cX4_measureRoom 43 = .ok (.iload_n 3, 1) := by decide +kernel
theorem dX4_measureRoom_44 : decode cX4_measureRoom 44 = .ok (.aload_n 0, 1) := by decide +kernel
theorem dX4_measureRoom_45 : decode cX4_measureRoom 45 = .ok (.getfield 23, 3) := by decide +kernel
theorem dX4_measureRoom_48 : decode cX4_measureRoom 48 = .ok (.iload_n 2, 1) := by decide +kernel
theorem dX4_measureRoom_49 : decode cX4_measureRoom 49 = .ok (.invokevirtual 102, 3) := by decide +kernel
theorem dX4_measureRoom_52 : decode cX4_measureRoom 52 = .ok (.if_icmp .ge 87, 3) := by decide +kernel
theorem dX4_measureRoom_55 : decode cX4_measureRoom 55 = .ok (.aload_n 0, 1) := by decide +kernel
theorem dX4_measureRoom_56 : decode cX4_measureRoom 56 = .ok (.getfield 23, 3) := by decide +kernel
theorem dX4_measureRoom_59 : decode cX4_measureRoom 59 = .ok (.iload_n 2, 1) := by decide +kernel
theorem dX4_measureRoom_60 : decode cX4_measureRoom 60 = .ok (.iload_n 3, 1) := by decide +kernel
theorem dX4_measureRoom_61 : decode cX4_measureRoom 61 = .ok (.invokevirtual 136, 3) := by decide +kernel
theorem dX4_measureRoom_64 : decode cX4_measureRoom 64 = .ok (.invokestatic 220, 3) := by decide +kernel
theorem dX4_measureRoom_67 : decode cX4_measureRoom 67 = .ok (.istore 4, 2) := by decide +kernel
theorem dX4_measureRoom_69 : decode cX4_measureRoom 69 = .ok (.aload_n 0, 1) := by decide +kernel
theorem dX4_measureRoom_70 : decode cX4_measureRoom 70 = .ok (.getfield 23, 3) := by decide +kernel
theorem dX4_measureRoom_73 : decode cX4_measureRoom 73 = .ok (.iload_n 2, 1) := by decide +kernel
theorem dX4_measureRoom_74 : decode cX4_measureRoom 74 = .ok (.invokevirtual 117, 3) := by decide +kernel
theorem dX4_measureRoom_77 : decode cX4_measureRoom 77 = .ok (.ifCond .eq 8, 3) := by decide +kernel
theorem dX4_measureRoom_80 : decode cX4_measureRoom 80 = .ok (.iload 4, 2) := by decide +kernel
theorem dX4_measureRoom_82 : decode cX4_measureRoom 82 = .ok (.goto 8, 3) := by decide +kernel
theorem dX4_measureRoom_85 : decode cX4_measureRoom 85 = .ok (.bipush 9, 2) := by decide +kernel
theorem dX4_measureRoom_87 : decode cX4_measureRoom 87 = .ok (.iload 4, 2) := by decide +kernel
theorem dX4_measureRoom_89 : decode cX4_measureRoom 89 = .ok (.isub, 1) := by decide +kernel
theorem dX4_measureRoom_90 : decode cX4_measureRoom 90 = .ok (.istore 5, 2) := by decide +kernel
theorem dX4_measureRoom_92 : decode cX4_measureRoom 92 = .ok (.aload_n 0, 1) := by decide +kernel
theorem dX4_measureRoom_93 : decode cX4_measureRoom 93 = .ok (.getfield 46, 3) := by decide +kernel
theorem dX4_measureRoom_96 : decode cX4_measureRoom 96 = .ok (.iload_n 3, 1) := by decide +kernel
theorem dX4_measureRoom_97 : decode cX4_measureRoom 97 = .ok (.aload_n 0, 1) := by decide +kernel
theorem dX4_measureRoom_98 : decode cX4_measureRoom 98 = .ok (.getfield 46, 3) := by decide +kernel
theorem dX4_measureRoom_101 : decode cX4_measureRoom 101 = .ok (.iload_n 3, 1) := by decide +kernel
theorem dX4_measureRoom_102 : decode cX4_measureRoom 102 = .ok (.invokestatic 229, 3) := by decide +kernel
theorem dX4_measureRoom_105 : decode cX4_measureRoom 105 = .ok (.iload 5, 2) := by decide +kernel
theorem dX4_measureRoom_107 : decode cX4_measureRoom 107 = .ok (.iadd, 1) := by decide +kernel
theorem dX4_measureRoom_108 : decode cX4_measureRoom 108 = .ok (.invokestatic 238, 3) := by decide +kernel
theorem dX4_measureRoom_111 : decode cX4_measureRoom 111 = .ok (.aload_n 0, 1) := by decide +kernel
theorem dX4_measureRoom_112 : decode cX4_measureRoom 112 = .ok (.getfield 50, 3) := by decide +kernel
theorem dX4_measureRoom_115 : decode cX4_measureRoom 115 = .ok (.iload_n 3, 1) := by decide +kernel
theorem dX4_measureRoom_116 : decode cX4_measureRoom 116 = .ok (.aload_n 0, 1) := by decide +kernel
theorem dX4_measureRoom_117 : decode cX4_measureRoom 117 = .ok (.getfield 50, 3) := by decide +kernel
theorem dX4_measureRoom_120 : decode cX4_measureRoom 120 = .ok (.iload_n 3, 1) := by decide +kernel
theorem dX4_measureRoom_121 : decode cX4_measureRoom 121 = .ok (.invokestatic 229, 3) := by decide +kernel
theorem dX4_measureRoom_124 : decode cX4_measureRoom 124 = .ok (.bipush 9, 2) := by decide +kernel
theorem dX4_measureRoom_126 : decode cX4_measureRoom 126 = .ok (.iadd, 1) := by decide +kernel
theorem dX4_measureRoom_127 : decode cX4_measureRoom 127 = .ok (.iload 5, 2) := by decide +kernel
theorem dX4_measureRoom_129 : decode cX4_measureRoom 129 = .ok (.isub, 1) := by decide +kernel
theorem dX4_measureRoom_130 : decode cX4_measureRoom 130 = .ok (.invokestatic 238, 3) := by decide +kernel
theorem dX4_measureRoom_133 : decode cX4_measureRoom 133 = .ok (.iinc 3 1, 3) := by decide +kernel
theorem dX4_measureRoom_136 : decode cX4_measureRoom 136 = .ok (.goto (-105), 3) := by decide +kernel
theorem dX4_measureRoom_139 : decode cX4_measureRoom 139 = .ok (.iinc 2 1, 3) := by decide +kernel
theorem dX4_measureRoom_142 : decode cX4_measureRoom 142 = .ok (.goto (-124), 3) := by decide +kernel
theorem dX4_measureRoom_145 : decode cX4_measureRoom 145 = .ok (.return_, 1) := by decide +kernel
theorem dX4_leastMoves_0 : decode cX4_leastMoves 0 = .ok (.aload_n 1, 1) := by decide +kernel
theorem dX4_leastMoves_1 : decode cX4_leastMoves 1 = .ok (.iload_n 2, 1) := by decide +kernel
theorem dX4_leastMoves_2 : decode cX4_leastMoves 2 = .ok (.invokestatic 229, 3) := by decide +kernel
theorem dX4_leastMoves_5 : decode cX4_leastMoves 5 = .ok (.ineg, 1) := by decide +kernel
theorem dX4_leastMoves_6 : decode cX4_leastMoves 6 = .ok (.istore 4, 2) := by decide +kernel
theorem dX4_leastMoves_8 : decode cX4_leastMoves 8 = .ok (.aload_n 0, 1) := by decide +kernel
theorem dX4_leastMoves_9 : decode cX4_leastMoves 9 = .ok (.iload_n 2, 1) := by decide +kernel
theorem dX4_leastMoves_10 : decode cX4_leastMoves 10 = .ok (.invokestatic 229, 3) := by decide +kernel
theorem dX4_leastMoves_13 : decode cX4_leastMoves 13 = .ok (.istore 5, 2) := by decide +kernel
theorem dX4_leastMoves_15 : decode cX4_leastMoves 15 = .ok (.iload_n 2, 1) := by decide +kernel
theorem dX4_leastMoves_16 : decode cX4_leastMoves 16 = .ok (.iconst 3, 1) := by decide +kernel
theorem dX4_leastMoves_17 : decode cX4_leastMoves 17 = .ok (.if_icmp .lt 25, 3) := by decide +kernel
theorem dX4_leastMoves_20 : decode cX4_leastMoves 20 = .ok (.iload_n 3, 1) := by decide +kernel
theorem dX4_leastMoves_21 : decode cX4_leastMoves 21 = .ok (.iload 4, 2) := by decide +kernel
theorem dX4_leastMoves_23 : decode cX4_leastMoves 23 = .ok (.if_icmp .lt 16, 3) := by decide +kernel
theorem dX4_leastMoves_26 : decode cX4_leastMoves 26 = .ok (.iload_n 3, 1) := by decide +kernel
theorem dX4_leastMoves_27 : decode cX4_leastMoves 27 = .ok (.iload 5, 2) := by decide +kernel
theorem dX4_leastMoves_29 : decode cX4_leastMoves 29 = .ok (.if_icmp .gt 10, 3) := by decide +kernel
theorem dX4_leastMoves_32 : decode cX4_leastMoves 32 = .ok (.iload_n 3, 1) := by decide +kernel
theorem dX4_leastMoves_33 : decode cX4_leastMoves 33 = .ok (.invokestatic 290, 3) := by decide +kernel
theorem dX4_leastMoves_36 : decode cX4_leastMoves 36 = .ok (.goto 5, 3) := by decide +kernel
theorem dX4_leastMoves_39 : decode cX4_leastMoves 39 = .ok (.bipush (-4), 2) := by decide +kernel
theorem dX4_leastMoves_41 : decode cX4_leastMoves 41 = .ok (.ireturn, 1) := by decide +kernel
theorem dX4_leastMoves_42 : decode cX4_leastMoves 42 = .ok (.bipush (-4), 2) := by decide +kernel
theorem dX4_leastMoves_44 : decode cX4_leastMoves 44 = .ok (.istore 6, 2) := by decide +kernel
theorem dX4_leastMoves_46 : decode cX4_leastMoves 46 = .ok (.iload 4, 2) := by decide +kernel
theorem dX4_leastMoves_48 : decode cX4_leastMoves 48 = .ok (.iload_n 3, 1) := by decide +kernel
theorem dX4_leastMoves_49 : decode cX4_leastMoves 49 = .ok (.iload 4, 2) := by decide +kernel
theorem dX4_leastMoves_51 : decode cX4_leastMoves 51 = .ok (.isub, 1) := by decide +kernel
theorem dX4_leastMoves_52 : decode cX4_leastMoves 52 = .ok (.bipush 10, 2) := by decide +kernel
theorem dX4_leastMoves_54 : decode cX4_leastMoves 54 = .ok (.invokestatic 293, 3) := by decide +kernel
theorem dX4_leastMoves_57 : decode cX4_leastMoves 57 = .ok (.iadd, 1) := by decide +kernel
theorem dX4_leastMoves_58 : decode cX4_leastMoves 58 = .ok (.istore 7, 2) := by decide +kernel
theorem dX4_leastMoves_60 : decode cX4_leastMoves 60 = .ok (.iload 7, 2) := by decide +kernel
theorem dX4_leastMoves_62 : decode cX4_leastMoves 62 = .ok (.iload 5, 2) := by decide +kernel
theorem dX4_leastMoves_64 : decode cX4_leastMoves 64 = .ok (.if_icmp .gt 61, 3) := by decide +kernel
theorem dX4_leastMoves_67 : decode cX4_leastMoves 67 = .ok (.aload_n 0, 1) := by decide +kernel
theorem dX4_leastMoves_68 : decode cX4_leastMoves 68 = .ok (.aload_n 1, 1) := by decide +kernel
theorem dX4_leastMoves_69 : decode cX4_leastMoves 69 = .ok (.iload_n 2, 1) := by decide +kernel
theorem dX4_leastMoves_70 : decode cX4_leastMoves 70 = .ok (.iconst 1, 1) := by decide +kernel
theorem dX4_leastMoves_71 : decode cX4_leastMoves 71 = .ok (.iadd, 1) := by decide +kernel
theorem dX4_leastMoves_72 : decode cX4_leastMoves 72 = .ok (.iload_n 3, 1) := by decide +kernel
theorem dX4_leastMoves_73 : decode cX4_leastMoves 73 = .ok (.iload 7, 2) := by decide +kernel
theorem dX4_leastMoves_75 : decode cX4_leastMoves 75 = .ok (.isub, 1) := by decide +kernel
theorem dX4_leastMoves_76 : decode cX4_leastMoves 76 = .ok (.bipush 10, 2) := by decide +kernel
theorem dX4_leastMoves_78 : decode cX4_leastMoves 78 = .ok (.idiv, 1) := by decide +kernel
theorem dX4_leastMoves_79 : decode cX4_leastMoves 79 = .ok (.invokestatic 203, 3) := by decide +kernel
theorem dX4_leastMoves_82 : decode cX4_leastMoves 82 = .ok (.istore 8, 2) := by decide +kernel
theorem dX4_leastMoves_84 : decode cX4_leastMoves 84 = .ok (.iload 8, 2) := by decide +kernel
theorem dX4_leastMoves_86 : decode cX4_leastMoves 86 = .ok (.iload 7, 2) := by decide +kernel
theorem dX4_leastMoves_88 : decode cX4_leastMoves 88 = .ok (.invokestatic 290, 3) := by decide +kernel
theorem dX4_leastMoves_91 : decode cX4_leastMoves 91 = .ok (.iadd, 1) := by decide +kernel
theorem dX4_leastMoves_92 : decode cX4_leastMoves 92 = .ok (.istore 9, 2) := by decide +kernel
theorem dX4_leastMoves_94 : decode cX4_leastMoves 94 = .ok (.iload 8, 2) := by decide +kernel
theorem dX4_leastMoves_96 : decode cX4_leastMoves 96 = .ok (.bipush (-4), 2) := by decide +kernel
theorem dX4_leastMoves_98 : decode cX4_leastMoves 98 = .ok (.if_icmp .eq 21, 3) := by decide +kernel
theorem dX4_leastMoves_101 : decode cX4_leastMoves 101 = .ok (.iload 6, 2) := by decide +kernel
theorem dX4_leastMoves_103 : decode cX4_leastMoves 103 = .ok (.bipush (-4), 2) := by decide +kernel
theorem dX4_leastMoves_105 : decode cX4_leastMoves 105 = .ok (.if_icmp .eq 10, 3) := by decide +kernel
theorem dX4_leastMoves_108 : decode cX4_leastMoves 108 = .ok (.iload 9, 2) := by decide +kernel
theorem dX4_leastMoves_110 : decode cX4_leastMoves 110 = .ok (.iload 6, 2) := by decide +kernel
theorem dX4_leastMoves_112 : decode cX4_leastMoves 112 = .ok (.if_icmp .ge 7, 3) := by decide +kernel
theorem dX4_leastMoves_115 : decode cX4_leastMoves 115 = .ok (.iload 9, 2) := by decide +kernel
theorem dX4_leastMoves_117 : decode cX4_leastMoves 117 = .ok (.istore 6, 2) := by decide +kernel
theorem dX4_leastMoves_119 : decode cX4_leastMoves 119 = .ok (.iinc 7 10, 3) := by decide +kernel
theorem dX4_leastMoves_122 : decode cX4_leastMoves 122 = .ok (.goto (-62), 3) := by decide +kernel
theorem dX4_leastMoves_125 : decode cX4_leastMoves 125 = .ok (.iload 6, 2) := by decide +kernel
theorem dX4_leastMoves_127 : decode cX4_leastMoves 127 = .ok (.ireturn, 1) := by decide +kernel
theorem dX4_slipAt_0 : decode cX4_slipAt 0 = .ok (.iload_n 2, 1) := by decide +kernel
theorem dX4_slipAt_1 : decode cX4_slipAt 1 = .ok (.invokestatic 223, 3) := by decide +kernel
theorem dX4_slipAt_4 : decode cX4_slipAt 4 = .ok (.istore 4, 2) := by decide +kernel
theorem dX4_slipAt_6 : decode cX4_slipAt 6 = .ok (.aload_n 0, 1) := by decide +kernel
theorem dX4_slipAt_7 : decode cX4_slipAt 7 = .ok (.getfield 23, 3) := by decide +kernel
theorem dX4_slipAt_10 : decode cX4_slipAt 10 = .ok (.iload_n 1, 1) := by decide +kernel
theorem dX4_slipAt_11 : decode cX4_slipAt 11 = .ok (.iload_n 2, 1) := by decide +kernel
theorem dX4_slipAt_12 : decode cX4_slipAt 12 = .ok (.invokevirtual 136, 3) := by decide +kernel
theorem dX4_slipAt_15 : decode cX4_slipAt 15 = .ok (.invokestatic 220, 3) := by decide +kernel
theorem dX4_slipAt_18 : decode cX4_slipAt 18 = .ok (.istore 5, 2) := by decide +kernel
theorem dX4_slipAt_20 : decode cX4_slipAt 20 = .ok (.iconst 0, 1) := by decide +kernel
theorem dX4_slipAt_21 : decode cX4_slipAt 21 = .ok (.istore 6, 2) := by decide +kernel
theorem dX4_slipAt_23 : decode cX4_slipAt 23 = .ok (.iload 6, 2) := by decide +kernel
theorem dX4_slipAt_25 : decode cX4_slipAt 25 = .ok (.bipush 9, 2) := by decide +kernel
theorem dX4_slipAt_27 : decode cX4_slipAt 27 = .ok (.if_icmp .gt 53, 3) := by decide +kernel
theorem dX4_slipAt_30 : decode cX4_slipAt 30 = .ok (.iload 6, 2) := by decide +kernel
theorem dX4_slipAt_32 : decode cX4_slipAt 32 = .ok (.iload 5, 2) := by decide +kernel
theorem dX4_slipAt_34 : decode cX4_slipAt 34 = .ok (.isub, 1) := by decide +kernel
theorem dX4_slipAt_35 : decode cX4_slipAt 35 = .ok (.iload 4, 2) := by decide +kernel
theorem dX4_slipAt_37 : decode cX4_slipAt 37 = .ok (.imul, 1) := by decide +kernel
theorem dX4_slipAt_38 : decode cX4_slipAt 38 = .ok (.istore 7, 2) := by decide +kernel
theorem dX4_slipAt_40 : decode cX4_slipAt 40 = .ok (.iload 6, 2) := by decide +kernel
theorem dX4_slipAt_42 : decode cX4_slipAt 42 = .ok (.iload 5, 2) := by decide +kernel
theorem dX4_slipAt_44 : decode cX4_slipAt 44 = .ok (.if_icmp .eq 30, 3) := by decide +kernel
theorem dX4_slipAt_47 : decode cX4_slipAt 47 = .ok (.iload_n 3, 1) := by decide +kernel
theorem dX4_slipAt_48 : decode cX4_slipAt 48 = .ok (.aload_n 0, 1) := by decide +kernel
theorem dX4_slipAt_49 : decode cX4_slipAt 49 = .ok (.getfield 23, 3) := by decide +kernel
theorem dX4_slipAt_52 : decode cX4_slipAt 52 = .ok (.iload_n 1, 1) := by decide +kernel
theorem dX4_slipAt_53 : decode cX4_slipAt 53 = .ok (.invokevirtual 117, 3) := by decide +kernel
theorem dX4_slipAt_56 : decode cX4_slipAt 56 = .ok (.ifCond .eq 9, 3) := by decide +kernel
theorem dX4_slipAt_59 : decode cX4_slipAt 59 = .ok (.iload 7, 2) := by decide +kernel
theorem dX4_slipAt_61 : decode cX4_slipAt 61 = .ok (.ineg, 1) := by decide +kernel
theorem dX4_slipAt_62 : decode cX4_slipAt 62 = .ok (.goto 5, 3) := by decide +kernel
theorem dX4_slipAt_65 : decode cX4_slipAt 65 = .ok (.iload 7, 2) := by decide +kernel
theorem dX4_slipAt_67 : decode cX4_slipAt 67 = .ok (.iadd, 1) := by decide +kernel
theorem dX4_slipAt_68 : decode cX4_slipAt 68 = .ok (.ifCond .ne 6, 3) := by decide +kernel
theorem dX4_slipAt_71 : decode cX4_slipAt 71 = .ok (.iload 6, 2) := by decide +kernel
theorem dX4_slipAt_73 : decode cX4_slipAt 73 = .ok (.ireturn, 1) := by decide +kernel
theorem dX4_slipAt_74 : decode cX4_slipAt 74 = .ok (.iinc 6 1, 3) := by decide +kernel
theorem dX4_slipAt_77 : decode cX4_slipAt 77 = .ok (.goto (-54), 3) := by decide +kernel
theorem dX4_slipAt_80 : decode cX4_slipAt 80 = .ok (.bipush (-4), 2) := by decide +kernel
theorem dX4_slipAt_82 : decode cX4_slipAt 82 = .ok (.ireturn, 1) := by decide +kernel
theorem dX4_drawn_0 : decode cX4_drawn 0 = .ok (.ldc2_w 296, 3) := by decide +kernel
theorem dX4_drawn_3 : decode cX4_drawn 3 = .ok (.iload_n 0, 1) := by decide +kernel
theorem dX4_drawn_4 : decode cX4_drawn 4 = .ok (.i2l, 1) := by decide +kernel
theorem dX4_drawn_5 : decode cX4_drawn 5 = .ok (.lmul, 1) := by decide +kernel
theorem dX4_drawn_6 : decode cX4_drawn 6 = .ok (.ldc2_w 298, 3) := by decide +kernel
theorem dX4_drawn_9 : decode cX4_drawn 9 = .ok (.iload_n 1, 1) := by decide +kernel
theorem dX4_drawn_10 : decode cX4_drawn 10 = .ok (.i2l, 1) := by decide +kernel
theorem dX4_drawn_11 : decode cX4_drawn 11 = .ok (.lmul, 1) := by decide +kernel
theorem dX4_drawn_12 : decode cX4_drawn 12 = .ok (.ladd, 1) := by decide +kernel
theorem dX4_drawn_13 : decode cX4_drawn 13 = .ok (.lconst 1, 1) := by decide +kernel
theorem dX4_drawn_14 : decode cX4_drawn 14 = .ok (.ladd, 1) := by decide +kernel
theorem dX4_drawn_15 : decode cX4_drawn 15 = .ok (.lstore_n 2, 1) := by decide +kernel
theorem dX4_drawn_16 : decode cX4_drawn 16 = .ok (.lload_n 2, 1) := by decide +kernel
theorem dX4_drawn_17 : decode cX4_drawn 17 = .ok (.lload_n 2, 1) := by decide +kernel
theorem dX4_drawn_18 : decode cX4_drawn 18 = .ok (.lmul, 1) := by decide +kernel
theorem dX4_drawn_19 : decode cX4_drawn 19 = .ok (.ldc2_w 300, 3) := by decide +kernel
theorem dX4_drawn_22 : decode cX4_drawn 22 = .ok (.lrem, 1) := by decide +kernel
theorem dX4_drawn_23 : decode cX4_drawn 23 = .ok (.ldc2_w 302, 3) := by decide +kernel
theorem dX4_drawn_26 : decode cX4_drawn 26 = .ok (.ldiv, 1) := by decide +kernel
theorem dX4_drawn_27 : decode cX4_drawn 27 = .ok (.lstore 4, 2) := by decide +kernel
theorem dX4_drawn_29 : decode cX4_drawn 29 = .ok (.lload 4, 2) := by decide +kernel
theorem dX4_drawn_31 : decode cX4_drawn 31 = .ok (.ldc2_w 304, 3) := by decide +kernel
theorem dX4_drawn_34 : decode cX4_drawn 34 = .ok (.lrem, 1) := by decide +kernel
theorem dX4_drawn_35 : decode cX4_drawn 35 = .ok (.l2i, 1) := by decide +kernel
theorem dX4_drawn_36 : decode cX4_drawn 36 = .ok (.bipush 10, 2) := by decide +kernel
theorem dX4_drawn_38 : decode cX4_drawn 38 = .ok (.isub, 1) := by decide +kernel
theorem dX4_drawn_39 : decode cX4_drawn 39 = .ok (.ireturn, 1) := by decide +kernel
theorem dX4_choices_0 : decode cX4_choices 0 = .ok (.iconst 1, 1) := by decide +kernel
theorem dX4_choices_1 : decode cX4_choices 1 = .ok (.istore_n 2, 1) := by decide +kernel
theorem dX4_choices_2 : decode cX4_choices 2 = .ok (.iconst 0, 1) := by decide +kernel
theorem dX4_choices_3 : decode cX4_choices 3 = .ok (.istore_n 3, 1) := by decide +kernel
theorem dX4_choices_4 : decode cX4_choices 4 = .ok (.iload_n 3, 1) := by decide +kernel
theorem dX4_choices_5 : decode cX4_choices 5 = .ok (.iload_n 1, 1) := by decide +kernel
theorem dX4_choices_6 : decode cX4_choices 6 = .ok (.if_icmp .ge 23, 3) := by decide +kernel
theorem dX4_choices_9 : decode cX4_choices 9 = .ok (.iload_n 2, 1) := by decide +kernel
theorem dX4_choices_10 : decode cX4_choices 10 = .ok (.iload_n 0, 1) := by decide +kernel
theorem dX4_choices_11 : decode cX4_choices 11 = .ok (.iload_n 3, 1) := by decide +kernel
theorem dX4_choices_12 : decode cX4_choices 12 = .ok (.isub, 1) := by decide +kernel
theorem dX4_choices_13 : decode cX4_choices 13 = .ok (.iconst 0, 1) := by decide +kernel
theorem dX4_choices_14 : decode cX4_choices 14 = .ok (.invokestatic 233, 3) := by decide +kernel
theorem dX4_choices_17 : decode cX4_choices 17 = .ok (.imul, 1) := by decide +kernel
theorem dX4_choices_18 : decode cX4_choices 18 = .ok (.iload_n 3, 1) := by decide +kernel
theorem dX4_choices_19 : decode cX4_choices 19 = .ok (.iconst 1, 1) := by decide +kernel
theorem dX4_choices_20 : decode cX4_choices 20 = .ok (.iadd, 1) := by decide +kernel
theorem dX4_choices_21 : decode cX4_choices 21 = .ok (.idiv, 1) := by decide +kernel
theorem dX4_choices_22 : decode cX4_choices 22 = .ok (.istore_n 2, 1) := by decide +kernel
theorem dX4_choices_23 : decode cX4_choices 23 = .ok (.iinc 3 1, 3) := by decide +kernel
theorem dX4_choices_26 : decode cX4_choices 26 = .ok (.goto (-22), 3) := by decide +kernel
theorem dX4_choices_29 : decode cX4_choices 29 = .ok (.iload_n 2, 1) := by decide +kernel
theorem dX4_choices_30 : decode cX4_choices 30 = .ok (.ireturn, 1) := by decide +kernel
theorem dX4_isColour_0 : decode cX4_isColour 0 = .ok (.iload_n 0, 1) := by decide +kernel
theorem dX4_isColour_1 : decode cX4_isColour 1 = .ok (.ifCond .lt 13, 3) := by decide +kernel
theorem dX4_isColour_4 : decode cX4_isColour 4 = .ok (.iload_n 0, 1) := by decide +kernel
theorem dX4_isColour_5 : decode cX4_isColour 5 = .ok (.bipush 9, 2) := by decide +kernel
theorem dX4_isColour_7 : decode cX4_isColour 7 = .ok (.if_icmp .gt 7, 3) := by decide +kernel
theorem dX4_isColour_10 : decode cX4_isColour 10 = .ok (.iconst 1, 1) := by decide +kernel
theorem dX4_isColour_11 : decode cX4_isColour 11 = .ok (.goto 4, 3) := by decide +kernel
theorem dX4_isColour_14 : decode cX4_isColour 14 = .ok (.iconst 0, 1) := by decide +kernel
theorem dX4_isColour_15 : decode cX4_isColour 15 = .ok (.ireturn, 1) := by decide +kernel
theorem dX4_canCount_0 : decode cX4_canCount 0 = .ok (.iload_n 0, 1) := by decide +kernel
theorem dX4_canCount_1 : decode cX4_canCount 1 = .ok (.tableswitch 86 0 3 #[31, 41, 58, 75], 31) := by decide +kernel
theorem dX4_canCount_32 : decode cX4_canCount 32 = .ok (.iload_n 1, 1) := by decide +kernel
theorem dX4_canCount_33 : decode cX4_canCount 33 = .ok (.ifCond .ne 7, 3) := by decide +kernel
theorem dX4_canCount_36 : decode cX4_canCount 36 = .ok (.iconst 1, 1) := by decide +kernel
theorem dX4_canCount_37 : decode cX4_canCount 37 = .ok (.goto 4, 3) := by decide +kernel
theorem dX4_canCount_40 : decode cX4_canCount 40 = .ok (.iconst 0, 1) := by decide +kernel
theorem dX4_canCount_41 : decode cX4_canCount 41 = .ok (.ireturn, 1) := by decide +kernel
theorem dX4_canCount_42 : decode cX4_canCount 42 = .ok (.iload_n 1, 1) := by decide +kernel
theorem dX4_canCount_43 : decode cX4_canCount 43 = .ok (.iconst 1, 1) := by decide +kernel
theorem dX4_canCount_44 : decode cX4_canCount 44 = .ok (.if_icmp .lt 13, 3) := by decide +kernel
theorem dX4_canCount_47 : decode cX4_canCount 47 = .ok (.iload_n 1, 1) := by decide +kernel
theorem dX4_canCount_48 : decode cX4_canCount 48 = .ok (.bipush 9, 2) := by decide +kernel
theorem dX4_canCount_50 : decode cX4_canCount 50 = .ok (.if_icmp .gt 7, 3) := by decide +kernel
theorem dX4_canCount_53 : decode cX4_canCount 53 = .ok (.iconst 1, 1) := by decide +kernel
theorem dX4_canCount_54 : decode cX4_canCount 54 = .ok (.goto 4, 3) := by decide +kernel
theorem dX4_canCount_57 : decode cX4_canCount 57 = .ok (.iconst 0, 1) := by decide +kernel
theorem dX4_canCount_58 : decode cX4_canCount 58 = .ok (.ireturn, 1) := by decide +kernel
theorem dX4_canCount_59 : decode cX4_canCount 59 = .ok (.iload_n 1, 1) := by decide +kernel
theorem dX4_canCount_60 : decode cX4_canCount 60 = .ok (.iconst 2, 1) := by decide +kernel
theorem dX4_canCount_61 : decode cX4_canCount 61 = .ok (.if_icmp .lt 13, 3) := by decide +kernel
theorem dX4_canCount_64 : decode cX4_canCount 64 = .ok (.iload_n 1, 1) := by decide +kernel
theorem dX4_canCount_65 : decode cX4_canCount 65 = .ok (.bipush 9, 2) := by decide +kernel
theorem dX4_canCount_67 : decode cX4_canCount 67 = .ok (.if_icmp .gt 7, 3) := by decide +kernel
theorem dX4_canCount_70 : decode cX4_canCount 70 = .ok (.iconst 1, 1) := by decide +kernel
theorem dX4_canCount_71 : decode cX4_canCount 71 = .ok (.goto 4, 3) := by decide +kernel
theorem dX4_canCount_74 : decode cX4_canCount 74 = .ok (.iconst 0, 1) := by decide +kernel
theorem dX4_canCount_75 : decode cX4_canCount 75 = .ok (.ireturn, 1) := by decide +kernel
theorem dX4_canCount_76 : decode cX4_canCount 76 = .ok (.iload_n 1, 1) := by decide +kernel
theorem dX4_canCount_77 : decode cX4_canCount 77 = .ok (.iconst 1, 1) := by decide +kernel
theorem dX4_canCount_78 : decode cX4_canCount 78 = .ok (.if_icmp .ne 7, 3) := by decide +kernel
theorem dX4_canCount_81 : decode cX4_canCount 81 = .ok (.iconst 1, 1) := by decide +kernel
theorem dX4_canCount_82 : decode cX4_canCount 82 = .ok (.goto 4, 3) := by decide +kernel
theorem dX4_canCount_85 : decode cX4_canCount 85 = .ok (.iconst 0, 1) := by decide +kernel
theorem dX4_canCount_86 : decode cX4_canCount 86 = .ok (.ireturn, 1) := by decide +kernel
theorem dX4_canCount_87 : decode cX4_canCount 87 = .ok (.iconst 0, 1) := by decide +kernel
theorem dX4_canCount_88 : decode cX4_canCount 88 = .ok (.ireturn, 1) := by decide +kernel
theorem dX4_kindOf_0 : decode cX4_kindOf 0 = .ok (.iload_n 0, 1) := by decide +kernel
theorem dX4_kindOf_1 : decode cX4_kindOf 1 = .ok (.bipush 10, 2) := by decide +kernel
theorem dX4_kindOf_3 : decode cX4_kindOf 3 = .ok (.idiv, 1) := by decide +kernel
theorem dX4_kindOf_4 : decode cX4_kindOf 4 = .ok (.ireturn, 1) := by decide +kernel
theorem dX4_countOf_0 : decode cX4_countOf 0 = .ok (.iload_n 0, 1) := by decide +kernel
theorem dX4_countOf_1 : decode cX4_countOf 1 = .ok (.bipush 10, 2) := by decide +kernel
theorem dX4_countOf_3 : decode cX4_countOf 3 = .ok (.irem, 1) := by decide +kernel
theorem dX4_countOf_4 : decode cX4_countOf 4 = .ok (.ireturn, 1) := by decide +kernel
theorem dX4_knotsIn_0 : decode cX4_knotsIn 0 = .ok (.iload_n 0, 1) := by decide +kernel
theorem dX4_knotsIn_1 : decode cX4_knotsIn 1 = .ok (.invokestatic 217, 3) := by decide +kernel
theorem dX4_knotsIn_4 : decode cX4_knotsIn 4 = .ok (.iconst 3, 1) := by decide +kernel
theorem dX4_knotsIn_5 : decode cX4_knotsIn 5 = .ok (.if_icmp .ne 7, 3) := by decide +kernel
theorem dX4_knotsIn_8 : decode cX4_knotsIn 8 = .ok (.iconst 2, 1) := by decide +kernel
theorem dX4_knotsIn_9 : decode cX4_knotsIn 9 = .ok (.goto 7, 3) := by decide +kernel
theorem dX4_knotsIn_12 : decode cX4_knotsIn 12 = .ok (.iload_n 0, 1) := by decide +kernel
theorem dX4_knotsIn_13 : decode cX4_knotsIn 13 = .ok (.invokestatic 220, 3) := by decide +kernel
theorem dX4_knotsIn_16 : decode cX4_knotsIn 16 = .ok (.ireturn, 1) := by decide +kernel
theorem dX4_codeToTell_0 : decode cX4_codeToTell 0 = .ok (.iload_n 0, 1) := by decide +kernel
theorem dX4_codeToTell_1 : decode cX4_codeToTell 1 = .ok (.ifCond .ne 5, 3) := by decide +kernel
theorem dX4_codeToTell_4 : decode cX4_codeToTell 4 = .ok (.iconst 0, 1) := by decide +kernel
theorem dX4_codeToTell_5 : decode cX4_codeToTell 5 = .ok (.ireturn, 1) := by decide +kernel
theorem dX4_codeToTell_6 : decode cX4_codeToTell 6 = .ok (.iload_n 1, 1) := by decide +kernel
theorem dX4_codeToTell_7 : decode cX4_codeToTell 7 = .ok (.ifCond .le 8, 3) := by decide +kernel
theorem dX4_codeToTell_10 : decode cX4_codeToTell 10 = .ok (.bipush 10, 2) := by decide +kernel
theorem dX4_codeToTell_12 : decode cX4_codeToTell 12 = .ok (.iload_n 0, 1) := by decide +kernel
theorem dX4_codeToTell_13 : decode cX4_codeToTell 13 = .ok (.iadd, 1) := by decide +kernel
theorem dX4_codeToTell_14 : decode cX4_codeToTell 14 = .ok (.ireturn, 1) := by decide +kernel
theorem dX4_codeToTell_15 : decode cX4_codeToTell 15 = .ok (.bipush 10, 2) := by decide +kernel
theorem dX4_codeToTell_17 : decode cX4_codeToTell 17 = .ok (.iload_n 0, 1) := by decide +kernel
theorem dX4_codeToTell_18 : decode cX4_codeToTell 18 = .ok (.iconst 1, 1) := by decide +kernel
theorem dX4_codeToTell_19 : decode cX4_codeToTell 19 = .ok (.if_icmp .ne 7, 3) := by decide +kernel
theorem dX4_codeToTell_22 : decode cX4_codeToTell 22 = .ok (.iconst 3, 1) := by decide +kernel
theorem dX4_codeToTell_23 : decode cX4_codeToTell 23 = .ok (.goto 4, 3) := by decide +kernel
theorem dX4_codeToTell_26 : decode cX4_codeToTell 26 = .ok (.iconst 2, 1) := by decide +kernel
theorem dX4_codeToTell_27 : decode cX4_codeToTell 27 = .ok (.imul, 1) := by decide +kernel
theorem dX4_codeToTell_28 : decode cX4_codeToTell 28 = .ok (.iload_n 0, 1) := by decide +kernel
theorem dX4_codeToTell_29 : decode cX4_codeToTell 29 = .ok (.iadd, 1) := by decide +kernel
theorem dX4_codeToTell_30 : decode cX4_codeToTell 30 = .ok (.ireturn, 1) := by decide +kernel
theorem dX4_isWellPlaced_0 : decode cX4_isWellPlaced 0 = .ok (.iload_n 0, 1) := by decide +kernel
theorem dX4_isWellPlaced_1 : decode cX4_isWellPlaced 1 = .ok (.invokestatic 217, 3) := by decide +kernel
theorem dX4_isWellPlaced_4 : decode cX4_isWellPlaced 4 = .ok (.istore_n 2, 1) := by decide +kernel
theorem dX4_isWellPlaced_5 : decode cX4_isWellPlaced 5 = .ok (.iload_n 2, 1) := by decide +kernel
theorem dX4_isWellPlaced_6 : decode cX4_isWellPlaced 6 = .ok (.ifCond .eq 25, 3) := by decide +kernel
theorem dX4_isWellPlaced_9 : decode cX4_isWellPlaced 9 = .ok (.iload_n 2, 1) := by decide +kernel
theorem dX4_isWellPlaced_10 : decode cX4_isWellPlaced 10 = .ok (.iconst 1, 1) := by decide +kernel
theorem dX4_isWellPlaced_11 : decode cX4_isWellPlaced 11 = .ok (.if_icmp .ne 7, 3) := by decide +kernel
theorem dX4_isWellPlaced_14 : decode cX4_isWellPlaced 14 = .ok (.iconst 1, 1) := by decide +kernel
theorem dX4_isWellPlaced_15 : decode cX4_isWellPlaced 15 = .ok (.goto 4, 3) := by decide +kernel
theorem dX4_isWellPlaced_18 : decode cX4_isWellPlaced 18 = .ok (.iconst 0, 1) := by decide +kernel
theorem dX4_isWellPlaced_19 : decode cX4_isWellPlaced 19 = .ok (.iload_n 1, 1) := by decide +kernel
theorem dX4_isWellPlaced_20 : decode cX4_isWellPlaced 20 = .ok (.ifCond .le 7, 3) := by decide +kernel
theorem dX4_isWellPlaced_23 : decode cX4_isWellPlaced 23 = .ok (.iconst 1, 1) := by decide +kernel
theorem dX4_isWellPlaced_24 : decode cX4_isWellPlaced 24 = .ok (.goto 4, 3) := by decide +kernel
theorem dX4_isWellPlaced_27 : decode cX4_isWellPlaced 27 = .ok (.iconst 0, 1) := by decide +kernel
theorem dX4_isWellPlaced_28 : decode cX4_isWellPlaced 28 = .ok (.if_icmp .ne 7, 3) := by decide +kernel
theorem dX4_isWellPlaced_31 : decode cX4_isWellPlaced 31 = .ok (.iconst 1, 1) := by decide +kernel
theorem dX4_isWellPlaced_32 : decode cX4_isWellPlaced 32 = .ok (.goto 4, 3) := by decide +kernel
theorem dX4_isWellPlaced_35 : decode cX4_isWellPlaced 35 = .ok (.iconst 0, 1) := by decide +kernel
theorem dX4_isWellPlaced_36 : decode cX4_isWellPlaced 36 = .ok (.ireturn, 1) := by decide +kernel
theorem dX4_tens_0 : decode cX4_tens 0 = .ok (.iload_n 0, 1) := by decide +kernel
theorem dX4_tens_1 : decode cX4_tens 1 = .ok (.ifCond .lt 19, 3) := by decide +kernel
theorem dX4_tens_4 : decode cX4_tens 4 = .ok (.iload_n 0, 1) := by decide +kernel
theorem dX4_tens_5 : decode cX4_tens 5 = .ok (.getstatic 306, 3) := by decide +kernel
theorem dX4_tens_8 : decode cX4_tens 8 = .ok (.arraylength, 1) := by decide +kernel
theorem dX4_tens_9 : decode cX4_tens 9 = .ok (.if_icmp .ge 11, 3) := by decide +kernel
theorem dX4_tens_12 : decode cX4_tens 12 = .ok (.getstatic 306, 3) := by decide +kernel
theorem dX4_tens_15 : decode cX4_tens 15 = .ok (.iload_n 0, 1) := by decide +kernel
theorem dX4_tens_16 : decode cX4_tens 16 = .ok (.iaload, 1) := by decide +kernel
theorem dX4_tens_17 : decode cX4_tens 17 = .ok (.goto 4, 3) := by decide +kernel
theorem dX4_tens_20 : decode cX4_tens 20 = .ok (.iconst 0, 1) := by decide +kernel
theorem dX4_tens_21 : decode cX4_tens 21 = .ok (.ireturn, 1) := by decide +kernel
theorem dX4_at_0 : decode cX4_at 0 = .ok (.iload_n 1, 1) := by decide +kernel
theorem dX4_at_1 : decode cX4_at 1 = .ok (.ifCond .lt 15, 3) := by decide +kernel
theorem dX4_at_4 : decode cX4_at 4 = .ok (.iload_n 1, 1) := by decide +kernel
theorem dX4_at_5 : decode cX4_at 5 = .ok (.aload_n 0, 1) := by decide +kernel
theorem dX4_at_6 : decode cX4_at 6 = .ok (.arraylength, 1) := by decide +kernel
theorem dX4_at_7 : decode cX4_at 7 = .ok (.if_icmp .ge 9, 3) := by decide +kernel
theorem dX4_at_10 : decode cX4_at 10 = .ok (.aload_n 0, 1) := by decide +kernel
theorem dX4_at_11 : decode cX4_at 11 = .ok (.iload_n 1, 1) := by decide +kernel
theorem dX4_at_12 : decode cX4_at 12 = .ok (.iaload, 1) := by decide +kernel
theorem dX4_at_13 : decode cX4_at 13 = .ok (.goto 4, 3) := by decide +kernel
theorem dX4_at_16 : decode cX4_at 16 = .ok (.iconst 0, 1) := by decide +kernel
theorem dX4_at_17 : decode cX4_at 17 = .ok (.ireturn, 1) := by decide +kernel
theorem dX4_put_0 : decode cX4_put 0 = .ok (.iload_n 1, 1) := by decide +kernel
theorem dX4_put_1 : decode cX4_put 1 = .ok (.ifCond .lt 13, 3) := by decide +kernel
theorem dX4_put_4 : decode cX4_put 4 = .ok (.iload_n 1, 1) := by decide +kernel
theorem dX4_put_5 : decode cX4_put 5 = .ok (.aload_n 0, 1) := by decide +kernel
theorem dX4_put_6 : decode cX4_put 6 = .ok (.arraylength, 1) := by decide +kernel
theorem dX4_put_7 : decode cX4_put 7 = .ok (.if_icmp .ge 7, 3) := by decide +kernel
theorem dX4_put_10 : decode cX4_put 10 = .ok (.aload_n 0, 1) := by decide +kernel
theorem dX4_put_11 : decode cX4_put 11 = .ok (.iload_n 1, 1) := by decide +kernel
theorem dX4_put_12 : decode cX4_put 12 = .ok (.iload_n 2, 1) := by decide +kernel
theorem dX4_put_13 : decode cX4_put 13 = .ok (.iastore, 1) := by decide +kernel
theorem dX4_put_14 : decode cX4_put 14 = .ok (.return_, 1) := by decide +kernel
theorem dX4_copyRow_0 : decode cX4_copyRow 0 = .ok (.iload_n 1, 1) := by decide +kernel
theorem dX4_copyRow_1 : decode cX4_copyRow 1 = .ok (.ifCond .lt 31, 3) := by decide +kernel
theorem dX4_copyRow_4 : decode cX4_copyRow 4 = .ok (.iload_n 1, 1) := by decide +kernel
theorem dX4_copyRow_5 : decode cX4_copyRow 5 = .ok (.sipush 179, 3) := by decide +kernel
theorem dX4_copyRow_8 : decode cX4_copyRow 8 = .ok (.iadd, 1) := by decide +kernel
theorem dX4_copyRow_9 : decode cX4_copyRow 9 = .ok (.aload_n 0, 1) := by decide +kernel
theorem dX4_copyRow_10 : decode cX4_copyRow 10 = .ok (.arraylength, 1) := by decide +kernel
theorem dX4_copyRow_11 : decode cX4_copyRow 11 = .ok (.if_icmp .gt 21, 3) := by decide +kernel
theorem dX4_copyRow_14 : decode cX4_copyRow 14 = .ok (.iload_n 3, 1) := by decide +kernel
theorem dX4_copyRow_15 : decode cX4_copyRow 15 = .ok (.ifCond .lt 17, 3) := by decide +kernel
theorem dX4_copyRow_18 : decode cX4_copyRow 18 = .ok (.iload_n 3, 1) := by decide +kernel
theorem dX4_copyRow_19 : decode cX4_copyRow 19 = .ok (.sipush 179, 3) := by decide +kernel
theorem dX4_copyRow_22 : decode cX4_copyRow 22 = .ok (.iadd, 1) := by decide +kernel
theorem dX4_copyRow_23 : decode cX4_copyRow 23 = .ok (.aload_n 2, 1) := by decide +kernel
theorem dX4_copyRow_24 : decode cX4_copyRow 24 = .ok (.arraylength, 1) := by decide +kernel
theorem dX4_copyRow_25 : decode cX4_copyRow 25 = .ok (.if_icmp .gt 7, 3) := by decide +kernel
theorem dX4_copyRow_28 : decode cX4_copyRow 28 = .ok (.iconst 1, 1) := by decide +kernel
theorem dX4_copyRow_29 : decode cX4_copyRow 29 = .ok (.goto 4, 3) := by decide +kernel
theorem dX4_copyRow_32 : decode cX4_copyRow 32 = .ok (.iconst 0, 1) := by decide +kernel
theorem dX4_copyRow_33 : decode cX4_copyRow 33 = .ok (.istore 4, 2) := by decide +kernel
theorem dX4_copyRow_35 : decode cX4_copyRow 35 = .ok (.iload 4, 2) := by decide +kernel
theorem dX4_copyRow_37 : decode cX4_copyRow 37 = .ok (.ifCond .eq 13, 3) := by decide +kernel
theorem dX4_copyRow_40 : decode cX4_copyRow 40 = .ok (.aload_n 0, 1) := by decide +kernel
theorem dX4_copyRow_41 : decode cX4_copyRow 41 = .ok (.iload_n 1, 1) := by decide +kernel
theorem dX4_copyRow_42 : decode cX4_copyRow 42 = .ok (.aload_n 2, 1) := by decide +kernel
theorem dX4_copyRow_43 : decode cX4_copyRow 43 = .ok (.iload_n 3, 1) := by decide +kernel
theorem dX4_copyRow_44 : decode cX4_copyRow 44 = .ok (.sipush 179, 3) := by decide +kernel
theorem dX4_copyRow_47 : decode cX4_copyRow 47 = .ok (.invokestatic 309, 3) := by decide +kernel
theorem dX4_copyRow_50 : decode cX4_copyRow 50 = .ok (.return_, 1) := by decide +kernel
theorem dX5_init_0 : decode cX5_init 0 = .ok (.aload_n 0, 1) := by decide +kernel
theorem dX5_init_1 : decode cX5_init 1 = .ok (.invokespecial 1, 3) := by decide +kernel
theorem dX5_init_4 : decode cX5_init 4 = .ok (.aload_n 0, 1) := by decide +kernel
theorem dX5_init_5 : decode cX5_init 5 = .ok (.sipush 162, 3) := by decide +kernel
theorem dX5_init_8 : decode cX5_init 8 = .ok (.newarray .int, 2) := by decide +kernel
theorem dX5_init_10 : decode cX5_init 10 = .ok (.putfield 7, 3) := by decide +kernel
theorem dX5_init_13 : decode cX5_init 13 = .ok (.aload_n 0, 1) := by decide +kernel
theorem dX5_init_14 : decode cX5_init 14 = .ok (.sipush 1296, 3) := by decide +kernel
theorem dX5_init_17 : decode cX5_init 17 = .ok (.newarray .int, 2) := by decide +kernel
theorem dX5_init_19 : decode cX5_init 19 = .ok (.putfield 13, 3) := by decide +kernel
theorem dX5_init_22 : decode cX5_init 22 = .ok (.aload_n 0, 1) := by decide +kernel
theorem dX5_init_23 : decode cX5_init 23 = .ok (.sipush 324, 3) := by decide +kernel
theorem dX5_init_26 : decode cX5_init 26 = .ok (.newarray .int, 2) := by decide +kernel
theorem dX5_init_28 : decode cX5_init 28 = .ok (.putfield 16, 3) := by decide +kernel
theorem dX5_init_31 : decode cX5_init 31 = .ok (.aload_n 0, 1) := by decide +kernel
theorem dX5_init_32 : decode cX5_init 32 = .ok (.sipush 200, 3) := by decide +kernel
theorem dX5_init_35 : decode cX5_init 35 = .ok (.newarray .int, 2) := by decide +kernel
theorem dX5_init_37 : decode cX5_init 37 = .ok (.putfield 19, 3) := by decide +kernel
theorem dX5_init_40 : decode cX5_init 40 = .ok (.aload_n 0, 1) := by decide +kernel
theorem dX5_init_41 : decode cX5_init 41 = .ok (.sipush 162, 3) := by decide +kernel
theorem dX5_init_44 : decode cX5_init 44 = .ok (.newarray .int, 2) := by decide +kernel
theorem dX5_init_46 : decode cX5_init 46 = .ok (.putfield 22, 3) := by decide +kernel
theorem dX5_init_49 : decode cX5_init 49 = .ok (.aload_n 0, 1) := by decide +kernel
theorem dX5_init_50 : decode cX5_init 50 = .ok (.iconst 3, 1) := by decide +kernel
theorem dX5_init_51 : decode cX5_init 51 = .ok (.newarray .int, 2) := by decide +kernel
theorem dX5_init_53 : decode cX5_init 53 = .ok (.putfield 25, 3) := by decide +kernel
theorem dX5_init_56 : decode cX5_init 56 = .ok (.aload_n 0, 1) := by decide +kernel
theorem dX5_init_57 : decode cX5_init 57 = .ok (.iconst 4, 1) := by decide +kernel
theorem dX5_init_58 : decode cX5_init 58 = .ok (.newarray .int, 2) := by decide +kernel
theorem dX5_init_60 : decode cX5_init 60 = .ok (.putfield 28, 3) := by decide +kernel
theorem dX5_init_63 : decode cX5_init 63 = .ok (.aload_n 0, 1) := by decide +kernel
theorem dX5_init_64 : decode cX5_init 64 = .ok (.iconst 4, 1) := by decide +kernel
theorem dX5_init_65 : decode cX5_init 65 = .ok (.newarray .int, 2) := by decide +kernel
theorem dX5_init_67 : decode cX5_init 67 = .ok (.putfield 31, 3) := by decide +kernel
theorem dX5_init_70 : decode cX5_init 70 = .ok (.aload_n 0, 1) := by decide +kernel
theorem dX5_init_71 : decode cX5_init 71 = .ok (.iconst 4, 1) := by decide +kernel
theorem dX5_init_72 : decode cX5_init 72 = .ok (.newarray .int, 2) := by decide +kernel
theorem dX5_init_74 : decode cX5_init 74 = .ok (.putfield 34, 3) := by decide +kernel
theorem dX5_init_77 : decode cX5_init 77 = .ok (.aload_n 0, 1) := by decide +kernel
theorem dX5_init_78 : decode cX5_init 78 = .ok (.bipush 16, 2) := by decide +kernel
theorem dX5_init_80 : decode cX5_init 80 = .ok (.newarray .int, 2) := by decide +kernel
theorem dX5_init_82 : decode cX5_init 82 = .ok (.putfield 37, 3) := by decide +kernel
theorem dX5_init_85 : decode cX5_init 85 = .ok (.aload_n 0, 1) := by decide +kernel
theorem dX5_init_86 : decode cX5_init 86 = .ok (.bipush 16, 2) := by decide +kernel
theorem dX5_init_88 : decode cX5_init 88 = .ok (.newarray .int, 2) := by decide +kernel
theorem dX5_init_90 : decode cX5_init 90 = .ok (.putfield 40, 3) := by decide +kernel
theorem dX5_init_93 : decode cX5_init 93 = .ok (.aload_n 0, 1) := by decide +kernel
theorem dX5_init_94 : decode cX5_init 94 = .ok (.iconst 0, 1) := by decide +kernel
theorem dX5_init_95 : decode cX5_init 95 = .ok (.iconst 1, 1) := by decide +kernel
theorem dX5_init_96 : decode cX5_init 96 = .ok (.iconst 3, 1) := by decide +kernel
theorem dX5_init_97 : decode cX5_init 97 = .ok (.iconst (-1), 1) := by decide +kernel
theorem dX5_init_98 : decode cX5_init 98 = .ok (.iconst 0, 1) := by decide +kernel
theorem dX5_init_99 : decode cX5_init 99 = .ok (.iconst 0, 1) := by decide +kernel
theorem dX5_init_100 : decode cX5_init 100 = .ok (.invokevirtual 43, 3) := by decide +kernel
theorem dX5_init_103 : decode cX5_init 103 = .ok (.aload_n 0, 1) := by decide +kernel
theorem dX5_init_104 : decode cX5_init 104 = .ok (.iconst 0, 1) := by decide +kernel
theorem dX5_init_105 : decode cX5_init 105 = .ok (.bipush 23, 2) := by decide +kernel
theorem dX5_init_107 : decode cX5_init 107 = .ok (.iconst 0, 1) := by decide +kernel
theorem dX5_init_108 : decode cX5_init 108 = .ok (.bipush 12, 2) := by decide +kernel
theorem dX5_init_110 : decode cX5_init 110 = .ok (.iconst 0, 1) := by decide +kernel
theorem dX5_init_111 : decode cX5_init 111 = .ok (.invokevirtual 47, 3) := by decide +kernel
theorem dX5_init_114 : decode cX5_init 114 = .ok (.aload_n 0, 1) := by decide +kernel
theorem dX5_init_115 : decode cX5_init 115 = .ok (.iconst 1, 1) := by decide +kernel
theorem dX5_init_116 : decode cX5_init 116 = .ok (.iconst 4, 1) := by decide +kernel
theorem dX5_init_117 : decode cX5_init 117 = .ok (.iconst 1, 1) := by decide +kernel
theorem dX5_init_118 : decode cX5_init 118 = .ok (.iconst 0, 1) := by decide +kernel
theorem dX5_init_119 : decode cX5_init 119 = .ok (.iconst 0, 1) := by decide +kernel
theorem dX5_init_120 : decode cX5_init 120 = .ok (.iconst 0, 1) := by decide +kernel
theorem dX5_init_121 : decode cX5_init 121 = .ok (.invokevirtual 43, 3) := by decide +kernel
theorem dX5_init_124 : decode cX5_init 124 = .ok (.aload_n 0, 1) := by decide +kernel
theorem dX5_init_125 : decode cX5_init 125 = .ok (.iconst 1, 1) := by decide +kernel
theorem dX5_init_126 : decode cX5_init 126 = .ok (.bipush 31, 2) := by decide +kernel
theorem dX5_init_128 : decode cX5_init 128 = .ok (.iconst 0, 1) := by decide +kernel
theorem dX5_init_129 : decode cX5_init 129 = .ok (.iconst 0, 1) := by decide +kernel
theorem dX5_init_130 : decode cX5_init 130 = .ok (.iconst 0, 1) := by decide +kernel
theorem dX5_init_131 : decode cX5_init 131 = .ok (.invokevirtual 47, 3) := by decide +kernel
theorem dX5_init_134 : decode cX5_init 134 = .ok (.aload_n 0, 1) := by decide +kernel
theorem dX5_init_135 : decode cX5_init 135 = .ok (.iconst 2, 1) := by decide +kernel
theorem dX5_init_136 : decode cX5_init 136 = .ok (.iconst 2, 1) := by decide +kernel
theorem dX5_init_137 : decode cX5_init 137 = .ok (.iconst 2, 1) := by decide +kernel
theorem dX5_init_138 : decode cX5_init 138 = .ok (.iconst (-1), 1) := by decide +kernel
theorem dX5_init_139 : decode cX5_init 139 = .ok (.iconst 0, 1) := by decide +kernel
theorem dX5_init_140 : decode cX5_init 140 = .ok (.iconst 0, 1) := by decide +kernel
theorem dX5_init_141 : decode cX5_init 141 = .ok (.invokevirtual 43, 3) := by decide +kernel
theorem dX5_init_144 : decode cX5_init 144 = .ok (.aload_n 0, 1) := by decide +kernel
theorem dX5_init_145 : decode cX5_init 145 = .ok (.iconst 2, 1) := by decide +kernel
theorem dX5_init_146 : decode cX5_init 146 = .ok (.bipush 31, 2) := by decide +kernel
theorem dX5_init_148 : decode cX5_init 148 = .ok (.bipush 11, 2) := by decide +kernel
theorem dX5_init_150 : decode cX5_init 150 = .ok (.iconst 0, 1) := by decide +kernel
theorem dX5_init_151 : decode cX5_init 151 = .ok (.iconst 0, 1) := by decide +kernel
theorem dX5_init_152 : decode cX5_init 152 = .ok (.invokevirtual 47, 3) := by decide +kernel
theorem dX5_init_155 : decode cX5_init 155 = .ok (.aload_n 0, 1) := by decide +kernel
theorem dX5_init_156 : decode cX5_init 156 = .ok (.iconst 3, 1) := by decide +kernel
theorem dX5_init_157 : decode cX5_init 157 = .ok (.iconst 3, 1) := by decide +kernel
theorem dX5_init_158 : decode cX5_init 158 = .ok (.iconst 3, 1) := by decide +kernel
theorem dX5_init_159 : decode cX5_init 159 = .ok (.iconst (-1), 1) := by decide +kernel
theorem dX5_init_160 : decode cX5_init 160 = .ok (.iconst 0, 1) := by decide +kernel
theorem dX5_init_161 : decode cX5_init 161 = .ok (.iconst 1, 1) := by decide +kernel
theorem dX5_init_162 : decode cX5_init 162 = .ok (.invokevirtual 43, 3) := by decide +kernel
theorem dX5_init_165 : decode cX5_init 165 = .ok (.aload_n 0, 1) := by decide +kernel
theorem dX5_init_166 : decode cX5_init 166 = .ok (.iconst 3, 1) := by decide +kernel
theorem dX5_init_167 : decode cX5_init 167 = .ok (.bipush 24, 2) := by decide +kernel
theorem dX5_init_169 : decode cX5_init 169 = .ok (.iconst 0, 1) := by decide +kernel
theorem dX5_init_170 : decode cX5_init 170 = .ok (.bipush 13, 2) := by decide +kernel
theorem dX5_init_172 : decode cX5_init 172 = .ok (.iconst 0, 1) := by decide +kernel
theorem dX5_init_173 : decode cX5_init 173 = .ok (.invokevirtual 47, 3) := by decide +kernel
theorem dX5_init_176 : decode cX5_init 176 = .ok (.aload_n 0, 1) := by decide +kernel
theorem dX5_init_177 : decode cX5_init 177 = .ok (.iconst 4, 1) := by decide +kernel
theorem dX5_init_178 : decode cX5_init 178 = .ok (.iconst 1, 1) := by decide +kernel
theorem dX5_init_179 : decode cX5_init 179 = .ok (.iconst 1, 1) := by decide +kernel
theorem dX5_init_180 : decode cX5_init 180 = .ok (.iconst (-1), 1) := by decide +kernel
theorem dX5_init_181 : decode cX5_init 181 = .ok (.iconst 1, 1) := by decide +kernel
theorem dX5_init_182 : decode cX5_init 182 = .ok (.iconst 0, 1) := by decide +kernel
theorem dX5_init_183 : decode cX5_init 183 = .ok (.invokevirtual 43, 3) := by decide +kernel
theorem dX5_init_186 : decode cX5_init 186 = .ok (.aload_n 0, 1) := by decide +kernel
theorem dX5_init_187 : decode cX5_init 187 = .ok (.iconst 4, 1) := by decide +kernel
theorem dX5_init_188 : decode cX5_init 188 = .ok (.bipush 25, 2) := by decide +kernel
theorem dX5_init_190 : decode cX5_init 190 = .ok (.iconst 0, 1) := by decide +kernel
theorem dX5_init_191 : decode cX5_init 191 = .ok (.iconst 0, 1) := by decide +kernel
theorem dX5_init_192 : decode cX5_init 192 = .ok (.iconst 0, 1) := by decide +kernel
theorem dX5_init_193 : decode cX5_init 193 = .ok (.invokevirtual 47, 3) := by decide +kernel
theorem dX5_init_196 : decode cX5_init 196 = .ok (.aload_n 0, 1) := by decide +kernel
theorem dX5_init_197 : decode cX5_init 197 = .ok (.iconst 5, 1) := by decide +kernel
theorem dX5_init_198 : decode cX5_init 198 = .ok (.iconst 2, 1) := by decide +kernel
theorem dX5_init_199 : decode cX5_init 199 = .ok (.iconst 1, 1) := by decide +kernel
theorem dX5_init_200 : decode cX5_init 200 = .ok (.iconst 4, 1) := by decide +kernel
theorem dX5_init_201 : decode cX5_init 201 = .ok (.iconst 1, 1) := by decide +kernel
theorem dX5_init_202 : decode cX5_init 202 = .ok (.iconst 0, 1) := by decide +kernel
theorem dX5_init_203 : decode cX5_init 203 = .ok (.invokevirtual 43, 3) := by decide +kernel
theorem dX5_init_206 : decode cX5_init 206 = .ok (.aload_n 0, 1) := by decide +kernel
theorem dX5_init_207 : decode cX5_init 207 = .ok (.iconst 5, 1) := by decide +kernel
theorem dX5_init_208 : decode cX5_init 208 = .ok (.bipush 22, 2) := by decide +kernel
theorem dX5_init_210 : decode cX5_init 210 = .ok (.iconst 0, 1) := by decide +kernel
theorem dX5_init_211 : decode cX5_init 211 = .ok (.iconst 0, 1) := by decide +kernel
theorem dX5_init_212 : decode cX5_init 212 = .ok (.iconst 0, 1) := by decide +kernel
theorem dX5_init_213 : decode cX5_init 213 = .ok (.invokevirtual 47, 3) := by decide +kernel
theorem dX5_init_216 : decode cX5_init 216 = .ok (.aload_n 0, 1) := by decide +kernel
theorem dX5_init_217 : decode cX5_init 217 = .ok (.bipush 6, 2) := by decide +kernel
theorem dX5_init_219 : decode cX5_init 219 = .ok (.bipush 7, 2) := by decide +kernel
theorem dX5_init_221 : decode cX5_init 221 = .ok (.iconst 1, 1) := by decide +kernel
theorem dX5_init_222 : decode cX5_init 222 = .ok (.iconst 5, 1) := by decide +kernel
theorem dX5_init_223 : decode cX5_init 223 = .ok (.iconst 1, 1) := by decide +kernel
theorem dX5_init_224 : decode cX5_init 224 = .ok (.iconst 0, 1) := by decide +kernel
theorem dX5_init_225 : decode cX5_init 225 = .ok (.invokevirtual 43, 3) := by decide +kernel
theorem dX5_init_228 : decode cX5_init 228 = .ok (.aload_n 0, 1) := by decide +kernel
theorem dX5_init_229 : decode cX5_init 229 = .ok (.bipush 6, 2) := by decide +kernel
theorem dX5_init_231 : decode cX5_init 231 = .ok (.iconst 0, 1) := by decide +kernel
theorem dX5_init_232 : decode cX5_init 232 = .ok (.iconst 0, 1) := by decide +kernel
theorem dX5_init_233 : decode cX5_init 233 = .ok (.iconst 0, 1) := by decide +kernel
theorem dX5_init_234 : decode cX5_init 234 = .ok (.iconst 0, 1) := by decide +kernel
theorem dX5_init_235 : decode cX5_init 235 = .ok (.invokevirtual 47, 3) := by decide +kernel
theorem dX5_init_238 : decode cX5_init 238 = .ok (.aload_n 0, 1) := by decide +kernel
theorem dX5_init_239 : decode cX5_init 239 = .ok (.getfield 22, 3) := by decide +kernel
theorem dX5_init_242 : decode cX5_init 242 = .ok (.iconst 0, 1) := by decide +kernel
theorem dX5_init_243 : decode cX5_init 243 = .ok (.bipush 7, 2) := by decide +kernel
theorem dX5_init_245 : decode cX5_init 245 = .ok (.iastore, 1) := by decide +kernel
theorem dX5_init_246 : decode cX5_init 246 = .ok (.aload_n 0, 1) := by decide +kernel
theorem dX5_init_247 : decode cX5_init 247 = .ok (.getfield 22, 3) := by decide +kernel
theorem dX5_init_250 : decode cX5_init 250 = .ok (.iconst 1, 1) := by decide +kernel
theorem dX5_init_251 : decode cX5_init 251 = .ok (.iconst 2, 1) := by decide +kernel
theorem dX5_init_252 : decode cX5_init 252 = .ok (.iastore, 1) := by decide +kernel
theorem dX5_init_253 : decode cX5_init 253 = .ok (.aload_n 0, 1) := by decide +kernel
theorem dX5_init_254 : decode cX5_init 254 = .ok (.invokevirtual 51, 3) := by decide +kernel
theorem dX5_init_257 : decode cX5_init 257 = .ok (.return_, 1) := by decide +kernel
theorem dX5_first_0 : decode cX5_first 0 = .ok (.aload_n 0, 1) := by decide +kernel
theorem dX5_first_1 : decode cX5_first 1 = .ok (.getfield 22, 3) := by decide +kernel
theorem dX5_first_4 : decode cX5_first 4 = .ok (.iconst 2, 1) := by decide +kernel
theorem dX5_first_5 : decode cX5_first 5 = .ok (.iload_n 1, 1) := by decide +kernel
theorem dX5_first_6 : decode cX5_first 6 = .ok (.iadd, 1) := by decide +kernel
theorem dX5_first_7 : decode cX5_first 7 = .ok (.iload_n 2, 1) := by decide +kernel
theorem dX5_first_8 : decode cX5_first 8 = .ok (.iastore, 1) := by decide +kernel
theorem dX5_first_9 : decode cX5_first 9 = .ok (.aload_n 0, 1) := by decide +kernel
theorem dX5_first_10 : decode cX5_first 10 = .ok (.getfield 22, 3) := by decide +kernel
theorem dX5_first_13 : decode cX5_first 13 = .ok (.bipush 18, 2) := by decide +kernel
theorem dX5_first_15 : decode cX5_first 15 = .ok (.iload_n 1, 1) := by decide +kernel
theorem dX5_first_16 : decode cX5_first 16 = .ok (.iadd, 1) := by decide +kernel
theorem dX5_first_17 : decode cX5_first 17 = .ok (.iload_n 3, 1) := by decide +kernel
theorem dX5_first_18 : decode cX5_first 18 = .ok (.iastore, 1) := by decide +kernel
theorem dX5_first_19 : decode cX5_first 19 = .ok (.aload_n 0, 1) := by decide +kernel
theorem dX5_first_20 : decode cX5_first 20 = .ok (.getfield 22, 3) := by decide +kernel
theorem dX5_first_23 : decode cX5_first 23 = .ok (.bipush 98, 2) := by decide +kernel
theorem dX5_first_25 : decode cX5_first 25 = .ok (.iload_n 1, 1) := by decide +kernel
theorem dX5_first_26 : decode cX5_first 26 = .ok (.iadd, 1) := by decide +kernel
theorem dX5_first_27 : decode cX5_first 27 = .ok (.iload 4, 2) := by decide +kernel
theorem dX5_first_29 : decode cX5_first 29 = .ok (.iastore, 1) := by decide +kernel
theorem dX5_first_30 : decode cX5_first 30 = .ok (.aload_n 0, 1) := by decide +kernel
theorem dX5_first_31 : decode cX5_first 31 = .ok (.getfield 22, 3) := by decide +kernel
theorem dX5_first_34 : decode cX5_first 34 = .ok (.bipush 114, 2) := by decide +kernel
theorem dX5_first_36 : decode cX5_first 36 = .ok (.iload_n 1, 1) := by decide +kernel
theorem dX5_first_37 : decode cX5_first 37 = .ok (.iadd, 1) := by decide +kernel
theorem dX5_first_38 : decode cX5_first 38 = .ok (.iload 5, 2) := by decide +kernel
theorem dX5_first_40 : decode cX5_first 40 = .ok (.iastore, 1) := by decide +kernel
theorem dX5_first_41 : decode cX5_first 41 = .ok (.aload_n 0, 1) := by decide +kernel
theorem dX5_first_42 : decode cX5_first 42 = .ok (.getfield 22, 3) := by decide +kernel
theorem dX5_first_45 : decode cX5_first 45 = .ok (.sipush 130, 3) := by decide +kernel
theorem dX5_first_48 : decode cX5_first 48 = .ok (.iload_n 1, 1) := by decide +kernel
theorem dX5_first_49 : decode cX5_first 49 = .ok (.iadd, 1) := by decide +kernel
theorem dX5_first_50 : decode cX5_first 50 = .ok (.iload 6, 2) := by decide +kernel
theorem dX5_first_52 : decode cX5_first 52 = .ok (.iastore, 1) := by decide +kernel
theorem dX5_first_53 : decode cX5_first 53 = .ok (.aload_n 0, 1) := by decide +kernel
theorem dX5_first_54 : decode cX5_first 54 = .ok (.getfield 22, 3) := by decide +kernel
theorem dX5_first_57 : decode cX5_first 57 = .ok (.sipush 146, 3) := by decide +kernel
theorem dX5_first_60 : decode cX5_first 60 = .ok (.iload_n 1, 1) := by decide +kernel
theorem dX5_first_61 : decode cX5_first 61 = .ok (.iadd, 1) := by decide +kernel
theorem dX5_first_62 : decode cX5_first 62 = .ok (.iload_n 1, 1) := by decide +kernel
theorem dX5_first_63 : decode cX5_first 63 = .ok (.iastore, 1) := by decide +kernel
theorem dX5_first_64 : decode cX5_first 64 = .ok (.return_, 1) := by decide +kernel
theorem dX5_knots_0 : decode cX5_knots 0 = .ok (.aload_n 0, 1) := by decide +kernel
theorem dX5_knots_1 : decode cX5_knots 1 = .ok (.getfield 22, 3) := by decide +kernel
theorem dX5_knots_4 : decode cX5_knots 4 = .ok (.bipush 34, 2) := by decide +kernel
theorem dX5_knots_6 : decode cX5_knots 6 = .ok (.iconst 4, 1) := by decide +kernel
theorem dX5_knots_7 : decode cX5_knots 7 = .ok (.iload_n 1, 1) := by decide +kernel
theorem dX5_knots_8 : decode cX5_knots 8 = .ok (.imul, 1) := by decide +kernel
theorem dX5_knots_9 : decode cX5_knots 9 = .ok (.iadd, 1) := by decide +kernel
theorem dX5_knots_10 : decode cX5_knots 10 = .ok (.iload_n 2, 1) := by decide +kernel
theorem dX5_knots_11 : decode cX5_knots 11 = .ok (.iastore, 1) := by decide +kernel
theorem dX5_knots_12 : decode cX5_knots 12 = .ok (.aload_n 0, 1) := by decide +kernel
theorem dX5_knots_13 : decode cX5_knots 13 = .ok (.getfield 22, 3) := by decide +kernel
theorem dX5_knots_16 : decode cX5_knots 16 = .ok (.bipush 34, 2) := by decide +kernel
theorem dX5_knots_18 : decode cX5_knots 18 = .ok (.iconst 4, 1) := by decide +kernel
theorem dX5_knots_19 : decode cX5_knots 19 = .ok (.iload_n 1, 1) := by decide +kernel
theorem dX5_knots_20 : decode cX5_knots 20 = .ok (.imul, 1) := by decide +kernel
theorem dX5_knots_21 : decode cX5_knots 21 = .ok (.iadd, 1) := by decide +kernel
theorem dX5_knots_22 : decode cX5_knots 22 = .ok (.iconst 1, 1) := by decide +kernel
theorem dX5_knots_23 : decode cX5_knots 23 = .ok (.iadd, 1) := by decide +kernel
theorem dX5_knots_24 : decode cX5_knots 24 = .ok (.iload_n 3, 1) := by decide +kernel
theorem dX5_knots_25 : decode cX5_knots 25 = .ok (.iastore, 1) := by decide +kernel
theorem dX5_knots_26 : decode cX5_knots 26 = .ok (.aload_n 0, 1) := by decide +kernel
theorem dX5_knots_27 : decode cX5_knots 27 = .ok (.getfield 22, 3) := by decide +kernel
theorem dX5_knots_30 : decode cX5_knots 30 = .ok (.bipush 34, 2) := by decide +kernel
theorem dX5_knots_32 : decode cX5_knots 32 = .ok (.iconst 4, 1) := by decide +kernel
theorem dX5_knots_33 : decode cX5_knots 33 = .ok (.iload_n 1, 1) := by decide +kernel
theorem dX5_knots_34 : decode cX5_knots 34 = .ok (.imul, 1) := by decide +kernel
theorem dX5_knots_35 : decode cX5_knots 35 = .ok (.iadd, 1) := by decide +kernel
theorem dX5_knots_36 : decode cX5_knots 36 = .ok (.iconst 2, 1) := by decide +kernel
theorem dX5_knots_37 : decode cX5_knots 37 = .ok (.iadd, 1) := by decide +kernel
theorem dX5_knots_38 : decode cX5_knots 38 = .ok (.iload 4, 2) := by decide +kernel
theorem dX5_knots_40 : decode cX5_knots 40 = .ok (.iastore, 1) := by decide +kernel
theorem dX5_knots_41 : decode cX5_knots 41 = .ok (.aload_n 0, 1) := by decide +kernel
theorem dX5_knots_42 : decode cX5_knots 42 = .ok (.getfield 22, 3) := by decide +kernel
theorem dX5_knots_45 : decode cX5_knots 45 = .ok (.bipush 34, 2) := by decide +kernel
theorem dX5_knots_47 : decode cX5_knots 47 = .ok (.iconst 4, 1) := by decide +kernel
theorem dX5_knots_48 : decode cX5_knots 48 = .ok (.iload_n 1, 1) := by decide +kernel
theorem dX5_knots_49 : decode cX5_knots 49 = .ok (.imul, 1) := by decide +kernel
theorem dX5_knots_50 : decode cX5_knots 50 = .ok (.iadd, 1) := by decide +kernel
theorem dX5_knots_51 : decode cX5_knots 51 = .ok (.iconst 3, 1) := by decide +kernel
theorem dX5_knots_52 : decode cX5_knots 52 = .ok (.iadd, 1) := by decide +kernel
theorem dX5_knots_53 : decode cX5_knots 53 = .ok (.iload 5, 2) := by decide +kernel
theorem dX5_knots_55 : decode cX5_knots 55 = .ok (.iastore, 1) := by decide +kernel
theorem dX5_knots_56 : decode cX5_knots 56 = .ok (.return_, 1) := by decide +kernel
theorem dX5_in_0 : decode cX5_in 0 = .ok (.lload_n 0, 1) := by decide +kernel
theorem dX5_in_1 : decode cX5_in 1 = .ok (.lload_n 2, 1) := by decide +kernel
theorem dX5_in_2 : decode cX5_in 2 = .ok (.lcmp, 1) := by decide +kernel
theorem dX5_in_3 : decode cX5_in 3 = .ok (.ifCond .lt 14, 3) := by decide +kernel
theorem dX5_in_6 : decode cX5_in 6 = .ok (.lload_n 0, 1) := by decide +kernel
theorem dX5_in_7 : decode cX5_in 7 = .ok (.lload 4, 2) := by decide +kernel
theorem dX5_in_9 : decode cX5_in 9 = .ok (.lcmp, 1) := by decide +kernel
theorem dX5_in_10 : decode cX5_in 10 = .ok (.ifCond .gt 7, 3) := by decide +kernel
theorem dX5_in_13 : decode cX5_in 13 = .ok (.iconst 1, 1) := by decide +kernel
theorem dX5_in_14 : decode cX5_in 14 = .ok (.goto 4, 3) := by decide +kernel
theorem dX5_in_17 : decode cX5_in 17 = .ok (.iconst 0, 1) := by decide +kernel
theorem dX5_in_18 : decode cX5_in 18 = .ok (.ireturn, 1) := by decide +kernel
theorem dX5_isTwo_0 : decode cX5_isTwo 0 = .ok (.iload_n 0, 1) := by decide +kernel
theorem dX5_isTwo_1 : decode cX5_isTwo 1 = .ok (.i2l, 1) := by decide +kernel
theorem dX5_isTwo_2 : decode cX5_isTwo 2 = .ok (.lconst 0, 1) := by decide +kernel
theorem dX5_isTwo_3 : decode cX5_isTwo 3 = .ok (.lconst 1, 1) := by decide +kernel
theorem dX5_isTwo_4 : decode cX5_isTwo 4 = .ok (.invokestatic 54, 3) := by decide +kernel
theorem dX5_isTwo_7 : decode cX5_isTwo 7 = .ok (.ireturn, 1) := by decide +kernel
theorem dX5_write_0 : decode cX5_write 0 = .ok (.iload_n 1, 1) := by decide +kernel
theorem dX5_write_1 : decode cX5_write 1 = .ok (.i2l, 1) := by decide +kernel
theorem dX5_write_2 : decode cX5_write 2 = .ok (.ldc2_w 58, 3) := by decide +kernel
theorem dX5_write_5 : decode cX5_write 5 = .ok (.ldc2_w 60, 3) := by decide +kernel
theorem dX5_write_8 : decode cX5_write 8 = .ok (.invokestatic 54, 3) := by decide +kernel
theorem dX5_write_11 : decode cX5_write 11 = .ok (.ifCond .ne 5, 3) := by decide +kernel
theorem dX5_write_14 : decode cX5_write 14 = .ok (.iconst (-1), 1) := by decide +kernel
theorem dX5_write_15 : decode cX5_write 15 = .ok (.ireturn, 1) := by decide +kernel
theorem dX5_write_16 : decode cX5_write 16 = .ok (.aload_n 0, 1) := by decide +kernel
theorem dX5_write_17 : decode cX5_write 17 = .ok (.getfield 62, 3) := by decide +kernel
theorem dX5_write_20 : decode cX5_write 20 = .ok (.sipush 200, 3) := by decide +kernel
theorem dX5_write_23 : decode cX5_write 23 = .ok (.if_icmp .ne 6, 3) := by decide +kernel
theorem dX5_write_26 : decode cX5_write 26 = .ok (.bipush (-3), 2) := by decide +kernel
theorem dX5_write_28 : decode cX5_write 28 = .ok (.ireturn, 1) := by decide +kernel
theorem dX5_write_29 : decode cX5_write 29 = .ok (.aload_n 0, 1) := by decide +kernel
theorem dX5_write_30 : decode cX5_write 30 = .ok (.getfield 19, 3) := by decide +kernel
theorem dX5_write_33 : decode cX5_write 33 = .ok (.aload_n 0, 1) := by decide +kernel
theorem dX5_write_34 : decode cX5_write 34 = .ok (.getfield 62, 3) := by decide +kernel
theorem dX5_write_37 : decode cX5_write 37 = .ok (.iload_n 1, 1) := by decide +kernel
theorem dX5_write_38 : decode cX5_write 38 = .ok (.iastore, 1) := by decide +kernel
theorem dX5_write_39 : decode cX5_write 39 = .ok (.aload_n 0, 1) := by decide +kernel
theorem dX5_write_40 : decode cX5_write 40 = .ok (.dup, 1) := by decide +kernel
theorem dX5_write_41 : decode cX5_write 41 = .ok (.getfield 62, 3) := by decide +kernel
theorem dX5_write_44 : decode cX5_write 44 = .ok (.iconst 1, 1) := by decide +kernel
theorem dX5_write_45 : decode cX5_write 45 = .ok (.iadd, 1) := by decide +kernel
theorem dX5_write_46 : decode cX5_write 46 = .ok (.putfield 62, 3) := by decide +kernel
theorem dX5_write_49 : decode cX5_write 49 = .ok (.aload_n 0, 1) := by decide +kernel
theorem dX5_write_50 : decode cX5_write 50 = .ok (.getfield 62, 3) := by decide +kernel
theorem dX5_write_53 : decode cX5_write 53 = .ok (.ireturn, 1) := by decide +kernel
theorem dX5_wipe_0 : decode cX5_wipe 0 = .ok (.aload_n 0, 1) := by decide +kernel
theorem dX5_wipe_1 : decode cX5_wipe 1 = .ok (.getfield 62, 3) := by decide +kernel
theorem dX5_wipe_4 : decode cX5_wipe 4 = .ok (.istore_n 1, 1) := by decide +kernel
theorem dX5_wipe_5 : decode cX5_wipe 5 = .ok (.aload_n 0, 1) := by decide +kernel
theorem dX5_wipe_6 : decode cX5_wipe 6 = .ok (.iconst 0, 1) := by decide +kernel
theorem dX5_wipe_7 : decode cX5_wipe 7 = .ok (.putfield 62, 3) := by decide +kernel
theorem dX5_wipe_10 : decode cX5_wipe 10 = .ok (.iload_n 1, 1) := by decide +kernel
theorem dX5_wipe_11 : decode cX5_wipe 11 = .ok (.ireturn, 1) := by decide +kernel
theorem dX5_newest_0 : decode cX5_newest 0 = .ok (.aload_n 0, 1) := by decide +kernel
theorem dX5_newest_1 : decode cX5_newest 1 = .ok (.getfield 22, 3) := by decide +kernel
theorem dX5_newest_4 : decode cX5_newest 4 = .ok (.iconst 0, 1) := by decide +kernel
theorem dX5_newest_5 : decode cX5_newest 5 = .ok (.iaload, 1) := by decide +kernel
theorem dX5_newest_6 : decode cX5_newest 6 = .ok (.iconst 1, 1) := by decide +kernel
theorem dX5_newest_7 : decode cX5_newest 7 = .ok (.isub, 1) := by decide +kernel
theorem dX5_newest_8 : decode cX5_newest 8 = .ok (.ireturn, 1) := by decide +kernel
theorem dX5_hasRoom_0 : decode cX5_hasRoom 0 = .ok (.aload_n 0, 1) := by decide +kernel
theorem dX5_hasRoom_1 : decode cX5_hasRoom 1 = .ok (.getfield 22, 3) := by decide +kernel
theorem dX5_hasRoom_4 : decode cX5_hasRoom 4 = .ok (.iconst 0, 1) := by decide +kernel
theorem dX5_hasRoom_5 : decode cX5_hasRoom 5 = .ok (.iaload, 1) := by decide +kernel
theorem dX5_hasRoom_6 : decode cX5_hasRoom 6 = .ok (.bipush 16, 2) := by decide +kernel
theorem dX5_hasRoom_8 : decode cX5_hasRoom 8 = .ok (.if_icmp .ge 7, 3) := by decide +kernel
theorem dX5_hasRoom_11 : decode cX5_hasRoom 11 = .ok (.iconst 1, 1) := by decide +kernel
theorem dX5_hasRoom_12 : decode cX5_hasRoom 12 = .ok (.goto 4, 3) := by decide +kernel
theorem dX5_hasRoom_15 : decode cX5_hasRoom 15 = .ok (.iconst 0, 1) := by decide +kernel
theorem dX5_hasRoom_16 : decode cX5_hasRoom 16 = .ok (.ireturn, 1) := by decide +kernel
theorem dX5_goesTo_0 : decode cX5_goesTo 0 = .ok (.aload_n 0, 1) := by decide +kernel
theorem dX5_goesTo_1 : decode cX5_goesTo 1 = .ok (.iload_n 1, 1) := by decide +kernel
theorem dX5_goesTo_2 : decode cX5_goesTo 2 = .ok (.putfield 66, 3) := by decide +kernel
theorem dX5_goesTo_5 : decode cX5_goesTo 5 = .ok (.iconst 1, 1) := by decide +kernel
theorem dX5_goesTo_6 : decode cX5_goesTo 6 = .ok (.ireturn, 1) := by decide +kernel
theorem dX5_takesColour_0 : decode cX5_takesColour 0 = .ok (.aload_n 0, 1) := by decide +kernel
theorem dX5_takesColour_1 : decode cX5_takesColour 1 = .ok (.getfield 22, 3) := by decide +kernel
theorem dX5_takesColour_4 : decode cX5_takesColour 4 = .ok (.iconst 0, 1) := by decide +kernel
theorem dX5_takesColour_5 : decode cX5_takesColour 5 = .ok (.iaload, 1) := by decide +kernel
theorem dX5_takesColour_6 : decode cX5_takesColour 6 = .ok (.istore_n 2, 1) := by decide +kernel
theorem dX5_takesColour_7 : decode cX5_takesColour 7 = .ok (.aload_n 0, 1) := by decide +kernel
theorem dX5_takesColour_8 : decode cX5_takesColour 8 = .ok (.getfield 22, 3) := by decide +kernel
theorem dX5_takesColour_11 : decode cX5_takesColour 11 = .ok (.iconst 2, 1) := by decide +kernel
theorem dX5_takesColour_12 : decode cX5_takesColour 12 = .ok (.iload_n 2, 1) := by decide +kernel
theorem dX5_takesColour_13 : decode cX5_takesColour 13 = .ok (.iadd, 1) := by decide +kernel
theorem dX5_takesColour_14 : decode cX5_takesColour 14 = .ok (.iload_n 1, 1) := by decide +kernel
theorem dX5_takesColour_15 : decode cX5_takesColour 15 = .ok (.iastore, 1) := by decide +kernel
theorem dX5_takesColour_16 : decode cX5_takesColour 16 = .ok (.aload_n 0, 1) := by decide +kernel
theorem dX5_takesColour_17 : decode cX5_takesColour 17 = .ok (.getfield 22, 3) := by decide +kernel
theorem dX5_takesColour_20 : decode cX5_takesColour 20 = .ok (.bipush 18, 2) := by decide +kernel
theorem dX5_takesColour_22 : decode cX5_takesColour 22 = .ok (.iload_n 2, 1) := by decide +kernel
theorem dX5_takesColour_23 : decode cX5_takesColour 23 = .ok (.iadd, 1) := by decide +kernel
theorem dX5_takesColour_24 : decode cX5_takesColour 24 = .ok (.iconst 0, 1) := by decide +kernel
theorem dX5_takesColour_25 : decode cX5_takesColour 25 = .ok (.iastore, 1) := by decide +kernel
theorem dX5_takesColour_26 : decode cX5_takesColour 26 = .ok (.aload_n 0, 1) := by decide +kernel
theorem dX5_takesColour_27 : decode cX5_takesColour 27 = .ok (.getfield 22, 3) := by decide +kernel
theorem dX5_takesColour_30 : decode cX5_takesColour 30 = .ok (.bipush 98, 2) := by decide +kernel
theorem dX5_takesColour_32 : decode cX5_takesColour 32 = .ok (.iload_n 2, 1) := by decide +kernel
theorem dX5_takesColour_33 : decode cX5_takesColour 33 = .ok (.iadd, 1) := by decide +kernel
theorem dX5_takesColour_34 : decode cX5_takesColour 34 = .ok (.aload_n 0, 1) := by decide +kernel
theorem dX5_takesColour_35 : decode cX5_takesColour 35 = .ok (.getfield 69, 3) := by decide +kernel
theorem dX5_takesColour_38 : decode cX5_takesColour 38 = .ok (.ifCond .ne 7, 3) := by decide +kernel
theorem dX5_takesColour_41 : decode cX5_takesColour 41 = .ok (.iconst (-1), 1) := by decide +kernel
theorem dX5_takesColour_42 : decode cX5_takesColour 42 = .ok (.goto 14, 3) := by decide +kernel
theorem dX5_takesColour_45 : decode cX5_takesColour 45 = .ok (.aload_n 0, 1) := by decide +kernel
theorem dX5_takesColour_46 : decode cX5_takesColour 46 = .ok (.getfield 25, 3) := by decide +kernel
theorem dX5_takesColour_49 : decode cX5_takesColour 49 = .ok (.aload_n 0, 1) := by decide +kernel
theorem dX5_takesColour_50 : decode cX5_takesColour 50 = .ok (.getfield 69, 3) := by decide +kernel
theorem dX5_takesColour_53 : decode cX5_takesColour 53 = .ok (.iconst 1, 1) := by decide +kernel
theorem dX5_takesColour_54 : decode cX5_takesColour 54 = .ok (.isub, 1) := by decide +kernel
theorem dX5_takesColour_55 : decode cX5_takesColour 55 = .ok (.iaload, 1) := by decide +kernel
theorem dX5_takesColour_56 : decode cX5_takesColour 56 = .ok (.iastore, 1) := by decide +kernel
theorem dX5_takesColour_57 : decode cX5_takesColour 57 = .ok (.aload_n 0, 1) := by decide +kernel
theorem dX5_takesColour_58 : decode cX5_takesColour 58 = .ok (.getfield 22, 3) := by decide +kernel
theorem dX5_takesColour_61 : decode cX5_takesColour 61 = .ok (.bipush 114, 2) := by decide +kernel
theorem dX5_takesColour_63 : decode cX5_takesColour 63 = .ok (.iload_n 2, 1) := by decide +kernel
theorem dX5_takesColour_64 : decode cX5_takesColour 64 = .ok (.iadd, 1) := by decide +kernel
theorem dX5_takesColour_65 : decode cX5_takesColour 65 = .ok (.aload_n 0, 1) := by decide +kernel
theorem dX5_takesColour_66 : decode cX5_takesColour 66 = .ok (.getfield 22, 3) := by decide +kernel
theorem dX5_takesColour_69 : decode cX5_takesColour 69 = .ok (.iconst 1, 1) := by decide +kernel
theorem dX5_takesColour_70 : decode cX5_takesColour 70 = .ok (.iaload, 1) := by decide +kernel
theorem dX5_takesColour_71 : decode cX5_takesColour 71 = .ok (.iconst 1, 1) := by decide +kernel
theorem dX5_takesColour_72 : decode cX5_takesColour 72 = .ok (.isub, 1) := by decide +kernel
theorem dX5_takesColour_73 : decode cX5_takesColour 73 = .ok (.iastore, 1) := by decide +kernel
theorem dX5_takesColour_74 : decode cX5_takesColour 74 = .ok (.aload_n 0, 1) := by decide +kernel
theorem dX5_takesColour_75 : decode cX5_takesColour 75 = .ok (.getfield 22, 3) := by decide +kernel
theorem dX5_takesColour_78 : decode cX5_takesColour 78 = .ok (.sipush 130, 3) := by decide +kernel
theorem dX5_takesColour_81 : decode cX5_takesColour 81 = .ok (.iload_n 2, 1) := by decide +kernel
theorem dX5_takesColour_82 : decode cX5_takesColour 82 = .ok (.iadd, 1) := by decide +kernel
theorem dX5_takesColour_83 : decode cX5_takesColour 83 = .ok (.aload_n 0, 1) := by decide +kernel
theorem dX5_takesColour_84 : decode cX5_takesColour 84 = .ok (.getfield 69, 3) := by decide +kernel
theorem dX5_takesColour_87 : decode cX5_takesColour 87 = .ok (.ifCond .ne 14, 3) := by decide +kernel
theorem dX5_takesColour_90 : decode cX5_takesColour 90 = .ok (.aload_n 0, 1) := by decide +kernel
theorem dX5_takesColour_91 : decode cX5_takesColour 91 = .ok (.getfield 72, 3) := by decide +kernel
theorem dX5_takesColour_94 : decode cX5_takesColour 94 = .ok (.ifCond .eq 7, 3) := by decide +kernel
theorem dX5_takesColour_97 : decode cX5_takesColour 97 = .ok (.iconst 1, 1) := by decide +kernel
theorem dX5_takesColour_98 : decode cX5_takesColour 98 = .ok (.goto 4, 3) := by decide +kernel
theorem dX5_takesColour_101 : decode cX5_takesColour 101 = .ok (.iconst 0, 1) := by decide +kernel
theorem dX5_takesColour_102 : decode cX5_takesColour 102 = .ok (.iastore, 1) := by decide +kernel
theorem dX5_takesColour_103 : decode cX5_takesColour 103 = .ok (.aload_n 0, 1) := by decide +kernel
theorem dX5_takesColour_104 : decode cX5_takesColour 104 = .ok (.getfield 22, 3) := by decide +kernel
theorem dX5_takesColour_107 : decode cX5_takesColour 107 = .ok (.sipush 146, 3) := by decide +kernel
theorem dX5_takesColour_110 : decode cX5_takesColour 110 = .ok (.iload_n 2, 1) := by decide +kernel
theorem dX5_takesColour_111 : decode cX5_takesColour 111 = .ok (.iadd, 1) := by decide +kernel
theorem dX5_takesColour_112 : decode cX5_takesColour 112 = .ok (.iload_n 2, 1) := by decide +kernel
theorem dX5_takesColour_113 : decode cX5_takesColour 113 = .ok (.iastore, 1) := by decide +kernel
theorem dX5_takesColour_114 : decode cX5_takesColour 114 = .ok (.aload_n 0, 1) := by decide +kernel
theorem dX5_takesColour_115 : decode cX5_takesColour 115 = .ok (.getfield 25, 3) := by decide +kernel
theorem dX5_takesColour_118 : decode cX5_takesColour 118 = .ok (.aload_n 0, 1) := by decide +kernel
theorem dX5_takesColour_119 : decode cX5_takesColour 119 = .ok (.getfield 69, 3) := by decide +kernel
theorem dX5_takesColour_122 : decode cX5_takesColour 122 = .ok (.iload_n 2, 1) := by decide +kernel
theorem dX5_takesColour_123 : decode cX5_takesColour 123 = .ok (.iastore, 1) := by decide +kernel
theorem dX5_takesColour_124 : decode cX5_takesColour 124 = .ok (.aload_n 0, 1) := by decide +kernel
theorem dX5_takesColour_125 : decode cX5_takesColour 125 = .ok (.getfield 22, 3) := by decide +kernel
theorem dX5_takesColour_128 : decode cX5_takesColour 128 = .ok (.iconst 0, 1) := by decide +kernel
theorem dX5_takesColour_129 : decode cX5_takesColour 129 = .ok (.dup2, 1) := by decide +kernel
theorem dX5_takesColour_130 : decode cX5_takesColour 130 = .ok (.iaload, 1) := by decide +kernel
theorem dX5_takesColour_131 : decode cX5_takesColour 131 = .ok (.iconst 1, 1) := by decide +kernel
theorem dX5_takesColour_132 : decode cX5_takesColour 132 = .ok (.iadd, 1) := by decide +kernel
theorem dX5_takesColour_133 : decode cX5_takesColour 133 = .ok (.iastore, 1) := by decide +kernel
theorem dX5_takesColour_134 : decode cX5_takesColour 134 = .ok (.aload_n 0, 1) := by decide +kernel
theorem dX5_takesColour_135 : decode cX5_takesColour 135 = .ok (.iconst 2, 1) := by decide +kernel
theorem dX5_takesColour_136 : decode cX5_takesColour 136 = .ok (.invokevirtual 76, 3) := by decide +kernel
theorem dX5_takesColour_139 : decode cX5_takesColour 139 = .ok (.ireturn, 1) := by decide +kernel
theorem dX5_takesCluster_0 : decode cX5_takesCluster 0 = .ok (.aload_n 0, 1) := by decide +kernel
theorem dX5_takesCluster_1 : decode cX5_takesCluster 1 = .ok (.invokevirtual 80, 3) := by decide +kernel
theorem dX5_takesCluster_4 : decode cX5_takesCluster 4 = .ok (.istore_n 2, 1) := by decide +kernel
theorem dX5_takesCluster_5 : decode cX5_takesCluster 5 = .ok (.iconst 3, 1) := by decide +kernel
theorem dX5_takesCluster_6 : decode cX5_takesCluster 6 = .ok (.istore_n 3, 1) := by decide +kernel
theorem dX5_takesCluster_7 : decode cX5_takesCluster 7 = .ok (.iload_n 3, 1) := by decide +kernel
theorem dX5_takesCluster_8 : decode cX5_takesCluster 8 = .ok (.ifCond .le 37, 3) := by decide +kernel
theorem dX5_takesCluster_11 : decode cX5_takesCluster 11 = .ok (.aload_n 0, 1) := by decide +kernel
theorem dX5_takesCluster_12 : decode cX5_takesCluster 12 = .ok (.getfield 22, 3) := by decide +kernel
theorem dX5_takesCluster_15 : decode cX5_takesCluster 15 = .ok (.bipush 34, 2) := by decide +kernel
theorem dX5_takesCluster_17 : decode cX5_takesCluster 17 = .ok (.iconst 4, 1) := by decide +kernel
theorem dX5_takesCluster_18 : decode cX5_takesCluster 18 = .ok (.iload_n 2, 1) := by decide +kernel
theorem dX5_takesCluster_19 : decode cX5_takesCluster 19 = .ok (.imul, 1) := by decide +kernel
theorem dX5_takesCluster_20 : decode cX5_takesCluster 20 = .ok (.iadd, 1) := by decide +kernel
theorem dX5_takesCluster_21 : decode cX5_takesCluster 21 = .ok (.iload_n 3, 1) := by decide +kernel
theorem dX5_takesCluster_22 : decode cX5_takesCluster 22 = .ok (.iadd, 1) := by decide +kernel
theorem dX5_takesCluster_23 : decode cX5_takesCluster 23 = .ok (.aload_n 0, 1) := by decide +kernel
theorem dX5_takesCluster_24 : decode cX5_takesCluster 24 = .ok (.getfield 22, 3) := by decide +kernel
theorem dX5_takesCluster_27 : decode cX5_takesCluster 27 = .ok (.bipush 34, 2) := by decide +kernel
theorem dX5_takesCluster_29 : decode cX5_takesCluster 29 = .ok (.iconst 4, 1) := by decide +kernel
theorem dX5_takesCluster_30 : decode cX5_takesCluster 30 = .ok (.iload_n 2, 1) := by decide +kernel
theorem dX5_takesCluster_31 : decode cX5_takesCluster 31 = .ok (.imul, 1) := by decide +kernel
theorem dX5_takesCluster_32 : decode cX5_takesCluster 32 = .ok (.iadd, 1) := by decide +kernel
theorem dX5_takesCluster_33 : decode cX5_takesCluster 33 = .ok (.iload_n 3, 1) := by decide +kernel
theorem dX5_takesCluster_34 : decode cX5_takesCluster 34 = .ok (.iadd, 1) := by decide +kernel
theorem dX5_takesCluster_35 : decode cX5_takesCluster 35 = .ok (.iconst 1, 1) := by decide +kernel
theorem dX5_takesCluster_36 : decode cX5_takesCluster 36 = .ok (.isub, 1) := by decide +kernel
theorem dX5_takesCluster_37 : decode cX5_takesCluster 37 = .ok (.iaload, 1) := by decide +kernel
theorem dX5_takesCluster_38 : decode cX5_takesCluster 38 = .ok (.iastore, 1) := by decide +kernel
theorem dX5_takesCluster_39 : decode cX5_takesCluster 39 = .ok (.iinc 3 (-1), 3) := by decide +kernel
theorem dX5_takesCluster_42 : decode cX5_takesCluster 42 = .ok (.goto (-35), 3) := by decide +kernel
theorem dX5_takesCluster_45 : decode cX5_takesCluster 45 = .ok (.aload_n 0, 1) := by decide +kernel
theorem dX5_takesCluster_46 : decode cX5_takesCluster 46 = .ok (.getfield 22, 3) := by decide +kernel
theorem dX5_takesCluster_49 : decode cX5_takesCluster 49 = .ok (.bipush 34, 2) := by decide +kernel
theorem dX5_takesCluster_51 : decode cX5_takesCluster 51 = .ok (.iconst 4, 1) := by decide +kernel
theorem dX5_takesCluster_52 : decode cX5_takesCluster 52 = .ok (.iload_n 2, 1) := by decide +kernel
theorem dX5_takesCluster_53 : decode cX5_takesCluster 53 = .ok (.imul, 1) := by decide +kernel
theorem dX5_takesCluster_54 : decode cX5_takesCluster 54 = .ok (.iadd, 1) := by decide +kernel
theorem dX5_takesCluster_55 : decode cX5_takesCluster 55 = .ok (.iload_n 1, 1) := by decide +kernel
theorem dX5_takesCluster_56 : decode cX5_takesCluster 56 = .ok (.iastore, 1) := by decide +kernel
theorem dX5_takesCluster_57 : decode cX5_takesCluster 57 = .ok (.aload_n 0, 1) := by decide +kernel
theorem dX5_takesCluster_58 : decode cX5_takesCluster 58 = .ok (.getfield 22, 3) := by decide +kernel
theorem dX5_takesCluster_61 : decode cX5_takesCluster 61 = .ok (.bipush 18, 2) := by decide +kernel
theorem dX5_takesCluster_63 : decode cX5_takesCluster 63 = .ok (.iload_n 2, 1) := by decide +kernel
theorem dX5_takesCluster_64 : decode cX5_takesCluster 64 = .ok (.iadd, 1) := by decide +kernel
theorem dX5_takesCluster_65 : decode cX5_takesCluster 65 = .ok (.dup2, 1) := by decide +kernel
theorem dX5_takesCluster_66 : decode cX5_takesCluster 66 = .ok (.iaload, 1) := by decide +kernel
theorem dX5_takesCluster_67 : decode cX5_takesCluster 67 = .ok (.iconst 1, 1) := by decide +kernel
theorem dX5_takesCluster_68 : decode cX5_takesCluster 68 = .ok (.iadd, 1) := by decide +kernel
theorem dX5_takesCluster_69 : decode cX5_takesCluster 69 = .ok (.iastore, 1) := by decide +kernel
theorem dX5_takesCluster_70 : decode cX5_takesCluster 70 = .ok (.aload_n 0, 1) := by decide +kernel
theorem dX5_takesCluster_71 : decode cX5_takesCluster 71 = .ok (.iconst 3, 1) := by decide +kernel
theorem dX5_takesCluster_72 : decode cX5_takesCluster 72 = .ok (.invokevirtual 76, 3) := by decide +kernel
theorem dX5_takesCluster_75 : decode cX5_takesCluster 75 = .ok (.ireturn, 1) := by decide +kernel
theorem dX5_takesKnots_0 : decode cX5_takesKnots 0 = .ok (.aload_n 0, 1) := by decide +kernel
theorem dX5_takesKnots_1 : decode cX5_takesKnots 1 = .ok (.getfield 66, 3) := by decide +kernel
theorem dX5_takesKnots_4 : decode cX5_takesKnots 4 = .ok (.iconst 3, 1) := by decide +kernel
theorem dX5_takesKnots_5 : decode cX5_takesKnots 5 = .ok (.if_icmp .ne 21, 3) := by decide +kernel
theorem dX5_takesKnots_8 : decode cX5_takesKnots 8 = .ok (.aload_n 0, 1) := by decide +kernel
theorem dX5_takesKnots_9 : decode cX5_takesKnots 9 = .ok (.getfield 22, 3) := by decide +kernel
theorem dX5_takesKnots_12 : decode cX5_takesKnots 12 = .ok (.bipush 18, 2) := by decide +kernel
theorem dX5_takesKnots_14 : decode cX5_takesKnots 14 = .ok (.aload_n 0, 1) := by decide +kernel
theorem dX5_takesKnots_15 : decode cX5_takesKnots 15 = .ok (.invokevirtual 80, 3) := by decide +kernel
theorem dX5_takesKnots_18 : decode cX5_takesKnots 18 = .ok (.iadd, 1) := by decide +kernel
theorem dX5_takesKnots_19 : decode cX5_takesKnots 19 = .ok (.iaload, 1) := by decide +kernel
theorem dX5_takesKnots_20 : decode cX5_takesKnots 20 = .ok (.iconst 4, 1) := by decide +kernel
theorem dX5_takesKnots_21 : decode cX5_takesKnots 21 = .ok (.if_icmp .ne 5, 3) := by decide +kernel
theorem dX5_takesKnots_24 : decode cX5_takesKnots 24 = .ok (.iconst 0, 1) := by decide +kernel
theorem dX5_takesKnots_25 : decode cX5_takesKnots 25 = .ok (.ireturn, 1) := by decide +kernel
theorem dX5_takesKnots_26 : decode cX5_takesKnots 26 = .ok (.iload_n 1, 1) := by decide +kernel
theorem dX5_takesKnots_27 : decode cX5_takesKnots 27 = .ok (.lookupswitch 67 #[(46, 41), (101, 47), (108, 60), (115, 54)], 41) := by decide +kernel
theorem dX5_takesKnots_68 : decode cX5_takesKnots 68 = .ok (.aload_n 0, 1) := by decide +kernel
theorem dX5_takesKnots_69 : decode cX5_takesKnots 69 = .ok (.iconst 0, 1) := by decide +kernel
theorem dX5_takesKnots_70 : decode cX5_takesKnots 70 = .ok (.invokevirtual 84, 3) := by decide +kernel
theorem dX5_takesKnots_73 : decode cX5_takesKnots 73 = .ok (.ireturn, 1) := by decide +kernel
theorem dX5_takesKnots_74 : decode cX5_takesKnots 74 = .ok (.aload_n 0, 1) := by decide +kernel
theorem dX5_takesKnots_75 : decode cX5_takesKnots 75 = .ok (.bipush 31, 2) := by decide +kernel
theorem dX5_takesKnots_77 : decode cX5_takesKnots 77 = .ok (.invokevirtual 84, 3) := by decide +kernel
theorem dX5_takesKnots_80 : decode cX5_takesKnots 80 = .ok (.ireturn, 1) := by decide +kernel
theorem dX5_takesKnots_81 : decode cX5_takesKnots 81 = .ok (.aload_n 0, 1) := by decide +kernel
theorem dX5_takesKnots_82 : decode cX5_takesKnots 82 = .ok (.iconst 5, 1) := by decide +kernel
theorem dX5_takesKnots_83 : decode cX5_takesKnots 83 = .ok (.invokevirtual 76, 3) := by decide +kernel
theorem dX5_takesKnots_86 : decode cX5_takesKnots 86 = .ok (.ireturn, 1) := by decide +kernel
theorem dX5_takesKnots_87 : decode cX5_takesKnots 87 = .ok (.aload_n 0, 1) := by decide +kernel
theorem dX5_takesKnots_88 : decode cX5_takesKnots 88 = .ok (.bipush 6, 2) := by decide +kernel
theorem dX5_takesKnots_90 : decode cX5_takesKnots 90 = .ok (.invokevirtual 76, 3) := by decide +kernel
theorem dX5_takesKnots_93 : decode cX5_takesKnots 93 = .ok (.ireturn, 1) := by decide +kernel
theorem dX5_takesKnots_94 : decode cX5_takesKnots 94 = .ok (.iconst 0, 1) := by decide +kernel
theorem dX5_takesKnots_95 : decode cX5_takesKnots 95 = .ok (.ireturn, 1) := by decide +kernel
theorem dX5_takesBehind_0 : decode cX5_takesBehind 0 = .ok (.aload_n 0, 1) := by decide +kernel
theorem dX5_takesBehind_1 : decode cX5_takesBehind 1 = .ok (.getfield 69, 3) := by decide +kernel
theorem dX5_takesBehind_4 : decode cX5_takesBehind 4 = .ok (.ifCond .ne 7, 3) := by decide +kernel
theorem dX5_takesBehind_7 : decode cX5_takesBehind 7 = .ok (.iconst 1, 1) := by decide +kernel
theorem dX5_takesBehind_8 : decode cX5_takesBehind 8 = .ok (.goto 4, 3) := by decide +kernel
theorem dX5_takesBehind_11 : decode cX5_takesBehind 11 = .ok (.iconst 0, 1) := by decide +kernel
theorem dX5_takesBehind_12 : decode cX5_takesBehind 12 = .ok (.istore_n 2, 1) := by decide +kernel
theorem dX5_takesBehind_13 : decode cX5_takesBehind 13 = .ok (.iload_n 1, 1) := by decide +kernel
theorem dX5_takesBehind_14 : decode cX5_takesBehind 14 = .ok (.lookupswitch 140 #[(40, 42), (41, 76), (93, 122), (94, 98)], 42) := by decide +kernel
theorem dX5_takesBehind_56 : decode cX5_takesBehind 56 = .ok (.aload_n 0, 1) := by decide +kernel
theorem dX5_takesBehind_57 : decode cX5_takesBehind 57 = .ok (.getfield 66, 3) := by decide +kernel
theorem dX5_takesBehind_60 : decode cX5_takesBehind 60 = .ok (.iconst 4, 1) := by decide +kernel
theorem dX5_takesBehind_61 : decode cX5_takesBehind 61 = .ok (.if_icmp .eq 11, 3) := by decide +kernel
theorem dX5_takesBehind_64 : decode cX5_takesBehind 64 = .ok (.aload_n 0, 1) := by decide +kernel
theorem dX5_takesBehind_65 : decode cX5_takesBehind 65 = .ok (.getfield 69, 3) := by decide +kernel
theorem dX5_takesBehind_68 : decode cX5_takesBehind 68 = .ok (.iconst 2, 1) := by decide +kernel
theorem dX5_takesBehind_69 : decode cX5_takesBehind 69 = .ok (.if_icmp .ne 5, 3) := by decide +kernel
theorem dX5_takesBehind_72 : decode cX5_takesBehind 72 = .ok (.iconst 0, 1) := by decide +kernel
theorem dX5_takesBehind_73 : decode cX5_takesBehind 73 = .ok (.ireturn, 1) := by decide +kernel
theorem dX5_takesBehind_74 : decode cX5_takesBehind 74 = .ok (.aload_n 0, 1) := by decide +kernel
theorem dX5_takesBehind_75 : decode cX5_takesBehind 75 = .ok (.dup, 1) := by decide +kernel
theorem dX5_takesBehind_76 : decode cX5_takesBehind 76 = .ok (.getfield 69, 3) := by decide +kernel
theorem dX5_takesBehind_79 : decode cX5_takesBehind 79 = .ok (.iconst 1, 1) := by decide +kernel
theorem dX5_takesBehind_80 : decode cX5_takesBehind 80 = .ok (.iadd, 1) := by decide +kernel
theorem dX5_takesBehind_81 : decode cX5_takesBehind 81 = .ok (.putfield 69, 3) := by decide +kernel
theorem dX5_takesBehind_84 : decode cX5_takesBehind 84 = .ok (.aload_n 0, 1) := by decide +kernel
theorem dX5_takesBehind_85 : decode cX5_takesBehind 85 = .ok (.iconst 1, 1) := by decide +kernel
theorem dX5_takesBehind_86 : decode cX5_takesBehind 86 = .ok (.invokevirtual 76, 3) := by decide +kernel
theorem dX5_takesBehind_89 : decode cX5_takesBehind 89 = .ok (.ireturn, 1) := by decide +kernel
theorem dX5_takesBehind_90 : decode cX5_takesBehind 90 = .ok (.iload_n 2, 1) := by decide +kernel
theorem dX5_takesBehind_91 : decode cX5_takesBehind 91 = .ok (.ifCond .eq 5, 3) := by decide +kernel
theorem dX5_takesBehind_94 : decode cX5_takesBehind 94 = .ok (.iconst 0, 1) := by decide +kernel
theorem dX5_takesBehind_95 : decode cX5_takesBehind 95 = .ok (.ireturn, 1) := by decide +kernel
theorem dX5_takesBehind_96 : decode cX5_takesBehind 96 = .ok (.aload_n 0, 1) := by decide +kernel
theorem dX5_takesBehind_97 : decode cX5_takesBehind 97 = .ok (.dup, 1) := by decide +kernel
theorem dX5_takesBehind_98 : decode cX5_takesBehind 98 = .ok (.getfield 69, 3) := by decide +kernel
theorem dX5_takesBehind_101 : decode cX5_takesBehind 101 = .ok (.iconst 1, 1) := by decide +kernel
theorem dX5_takesBehind_102 : decode cX5_takesBehind 102 = .ok (.isub, 1) := by decide +kernel
theorem dX5_takesBehind_103 : decode cX5_takesBehind 103 = .ok (.putfield 69, 3) := by decide +kernel
theorem dX5_takesBehind_106 : decode cX5_takesBehind 106 = .ok (.aload_n 0, 1) := by decide +kernel
theorem dX5_takesBehind_107 : decode cX5_takesBehind 107 = .ok (.iconst 4, 1) := by decide +kernel
theorem dX5_takesBehind_108 : decode cX5_takesBehind 108 = .ok (.invokevirtual 76, 3) := by decide +kernel
theorem dX5_takesBehind_111 : decode cX5_takesBehind 111 = .ok (.ireturn, 1) := by decide +kernel
theorem dX5_takesBehind_112 : decode cX5_takesBehind 112 = .ok (.iload_n 2, 1) := by decide +kernel
theorem dX5_takesBehind_113 : decode cX5_takesBehind 113 = .ok (.ifCond .eq 10, 3) := by decide +kernel
theorem dX5_takesBehind_116 : decode cX5_takesBehind 116 = .ok (.aload_n 0, 1) := by decide +kernel
theorem dX5_takesBehind_117 : decode cX5_takesBehind 117 = .ok (.getfield 72, 3) := by decide +kernel
theorem dX5_takesBehind_120 : decode cX5_takesBehind 120 = .ok (.ifCond .eq 5, 3) := by decide +kernel
theorem dX5_takesBehind_123 : decode cX5_takesBehind 123 = .ok (.iconst 0, 1) := by decide +kernel
theorem dX5_takesBehind_124 : decode cX5_takesBehind 124 = .ok (.ireturn, 1) := by decide +kernel
theorem dX5_takesBehind_125 : decode cX5_takesBehind 125 = .ok (.aload_n 0, 1) := by decide +kernel
theorem dX5_takesBehind_126 : decode cX5_takesBehind 126 = .ok (.iconst 1, 1) := by decide +kernel
theorem dX5_takesBehind_127 : decode cX5_takesBehind 127 = .ok (.putfield 72, 3) := by decide +kernel
theorem dX5_takesBehind_130 : decode cX5_takesBehind 130 = .ok (.aload_n 0, 1) := by decide +kernel
theorem dX5_takesBehind_131 : decode cX5_takesBehind 131 = .ok (.iconst 1, 1) := by decide +kernel
theorem dX5_takesBehind_132 : decode cX5_takesBehind 132 = .ok (.invokevirtual 76, 3) := by decide +kernel
theorem dX5_takesBehind_135 : decode cX5_takesBehind 135 = .ok (.ireturn, 1) := by decide +kernel
theorem dX5_takesBehind_136 : decode cX5_takesBehind 136 = .ok (.iload_n 2, 1) := by decide +kernel
theorem dX5_takesBehind_137 : decode cX5_takesBehind 137 = .ok (.ifCond .eq 15, 3) := by decide +kernel
theorem dX5_takesBehind_140 : decode cX5_takesBehind 140 = .ok (.aload_n 0, 1) := by decide +kernel
theorem dX5_takesBehind_141 : decode cX5_takesBehind 141 = .ok (.iconst 0, 1) := by decide +kernel
theorem dX5_takesBehind_142 : decode cX5_takesBehind 142 = .ok (.invokevirtual 76, 3) := by decide +kernel
theorem dX5_takesBehind_145 : decode cX5_takesBehind 145 = .ok (.ifCond .eq 7, 3) := by decide +kernel
theorem dX5_takesBehind_148 : decode cX5_takesBehind 148 = .ok (.iconst 1, 1) := by decide +kernel
theorem dX5_takesBehind_149 : decode cX5_takesBehind 149 = .ok (.goto 4, 3) := by decide +kernel
theorem dX5_takesBehind_152 : decode cX5_takesBehind 152 = .ok (.iconst 0, 1) := by decide +kernel
theorem dX5_takesBehind_153 : decode cX5_takesBehind 153 = .ok (.ireturn, 1) := by decide +kernel
theorem dX5_takesBehind_154 : decode cX5_takesBehind 154 = .ok (.iload_n 1, 1) := by decide +kernel
theorem dX5_takesBehind_155 : decode cX5_takesBehind 155 = .ok (.i2l, 1) := by decide +kernel
theorem dX5_takesBehind_156 : decode cX5_takesBehind 156 = .ok (.ldc2_w 87, 3) := by decide +kernel
theorem dX5_takesBehind_159 : decode cX5_takesBehind 159 = .ok (.ldc2_w 89, 3) := by decide +kernel
theorem dX5_takesBehind_162 : decode cX5_takesBehind 162 = .ok (.invokestatic 54, 3) := by decide +kernel
theorem dX5_takesBehind_165 : decode cX5_takesBehind 165 = .ok (.ifCond .eq 36, 3) := by decide +kernel
theorem dX5_takesBehind_168 : decode cX5_takesBehind 168 = .ok (.aload_n 0, 1) := by decide +kernel
theorem dX5_takesBehind_169 : decode cX5_takesBehind 169 = .ok (.invokevirtual 91, 3) := by decide +kernel
theorem dX5_takesBehind_172 : decode cX5_takesBehind 172 = .ok (.ifCond .eq 29, 3) := by decide +kernel
theorem dX5_takesBehind_175 : decode cX5_takesBehind 175 = .ok (.iload_n 2, 1) := by decide +kernel
theorem dX5_takesBehind_176 : decode cX5_takesBehind 176 = .ok (.ifCond .eq 10, 3) := by decide +kernel
theorem dX5_takesBehind_179 : decode cX5_takesBehind 179 = .ok (.aload_n 0, 1) := by decide +kernel
theorem dX5_takesBehind_180 : decode cX5_takesBehind 180 = .ok (.getfield 72, 3) := by decide +kernel
theorem dX5_takesBehind_183 : decode cX5_takesBehind 183 = .ok (.ifCond .ne 18, 3) := by decide +kernel
theorem dX5_takesBehind_186 : decode cX5_takesBehind 186 = .ok (.aload_n 0, 1) := by decide +kernel
theorem dX5_takesBehind_187 : decode cX5_takesBehind 187 = .ok (.iload_n 1, 1) := by decide +kernel
theorem dX5_takesBehind_188 : decode cX5_takesBehind 188 = .ok (.bipush 48, 2) := by decide +kernel
theorem dX5_takesBehind_190 : decode cX5_takesBehind 190 = .ok (.isub, 1) := by decide +kernel
theorem dX5_takesBehind_191 : decode cX5_takesBehind 191 = .ok (.invokevirtual 95, 3) := by decide +kernel
theorem dX5_takesBehind_194 : decode cX5_takesBehind 194 = .ok (.ifCond .eq 7, 3) := by decide +kernel
theorem dX5_takesBehind_197 : decode cX5_takesBehind 197 = .ok (.iconst 1, 1) := by decide +kernel
theorem dX5_takesBehind_198 : decode cX5_takesBehind 198 = .ok (.goto 4, 3) := by decide +kernel
theorem dX5_takesBehind_201 : decode cX5_takesBehind 201 = .ok (.iconst 0, 1) := by decide +kernel
theorem dX5_takesBehind_202 : decode cX5_takesBehind 202 = .ok (.ireturn, 1) := by decide +kernel
theorem dX5_takesGroup_0 : decode cX5_takesGroup 0 = .ok (.iload_n 1, 1) := by decide +kernel
theorem dX5_takesGroup_1 : decode cX5_takesGroup 1 = .ok (.bipush 91, 2) := by decide +kernel
theorem dX5_takesGroup_3 : decode cX5_takesGroup 3 = .ok (.if_icmp .ne 13, 3) := by decide +kernel
theorem dX5_takesGroup_6 : decode cX5_takesGroup 6 = .ok (.aload_n 0, 1) := by decide +kernel
theorem dX5_takesGroup_7 : decode cX5_takesGroup 7 = .ok (.getfield 22, 3) := by decide +kernel
theorem dX5_takesGroup_10 : decode cX5_takesGroup 10 = .ok (.iconst 1, 1) := by decide +kernel
theorem dX5_takesGroup_11 : decode cX5_takesGroup 11 = .ok (.iaload, 1) := by decide +kernel
theorem dX5_takesGroup_12 : decode cX5_takesGroup 12 = .ok (.iconst 5, 1) := by decide +kernel
theorem dX5_takesGroup_13 : decode cX5_takesGroup 13 = .ok (.if_icmp .ne 5, 3) := by decide +kernel
theorem dX5_takesGroup_16 : decode cX5_takesGroup 16 = .ok (.iconst 0, 1) := by decide +kernel
theorem dX5_takesGroup_17 : decode cX5_takesGroup 17 = .ok (.ireturn, 1) := by decide +kernel
theorem dX5_takesGroup_18 : decode cX5_takesGroup 18 = .ok (.aload_n 0, 1) := by decide +kernel
theorem dX5_takesGroup_19 : decode cX5_takesGroup 19 = .ok (.getfield 22, 3) := by decide +kernel
theorem dX5_takesGroup_22 : decode cX5_takesGroup 22 = .ok (.iconst 1, 1) := by decide +kernel
theorem dX5_takesGroup_23 : decode cX5_takesGroup 23 = .ok (.dup2, 1) := by decide +kernel
theorem dX5_takesGroup_24 : decode cX5_takesGroup 24 = .ok (.iaload, 1) := by decide +kernel
theorem dX5_takesGroup_25 : decode cX5_takesGroup 25 = .ok (.iconst 1, 1) := by decide +kernel
theorem dX5_takesGroup_26 : decode cX5_takesGroup 26 = .ok (.iadd, 1) := by decide +kernel
theorem dX5_takesGroup_27 : decode cX5_takesGroup 27 = .ok (.iastore, 1) := by decide +kernel
theorem dX5_takesGroup_28 : decode cX5_takesGroup 28 = .ok (.aload_n 0, 1) := by decide +kernel
theorem dX5_takesGroup_29 : decode cX5_takesGroup 29 = .ok (.iconst 0, 1) := by decide +kernel
theorem dX5_takesGroup_30 : decode cX5_takesGroup 30 = .ok (.putfield 72, 3) := by decide +kernel
theorem dX5_takesGroup_33 : decode cX5_takesGroup 33 = .ok (.aload_n 0, 1) := by decide +kernel
theorem dX5_takesGroup_34 : decode cX5_takesGroup 34 = .ok (.iconst 0, 1) := by decide +kernel
theorem dX5_takesGroup_35 : decode cX5_takesGroup 35 = .ok (.putfield 69, 3) := by decide +kernel
theorem dX5_takesGroup_38 : decode cX5_takesGroup 38 = .ok (.aload_n 0, 1) := by decide +kernel
theorem dX5_takesGroup_39 : decode cX5_takesGroup 39 = .ok (.iconst 1, 1) := by decide +kernel
theorem dX5_takesGroup_40 : decode cX5_takesGroup 40 = .ok (.invokevirtual 76, 3) := by decide +kernel
theorem dX5_takesGroup_43 : decode cX5_takesGroup 43 = .ok (.ireturn, 1) := by decide +kernel
theorem dX5_takes_0 : decode cX5_takes 0 = .ok (.aload_n 0, 1) := by decide +kernel
theorem dX5_takes_1 : decode cX5_takes 1 = .ok (.getfield 66, 3) := by decide +kernel
theorem dX5_takes_4 : decode cX5_takes 4 = .ok (.tableswitch 164 0 5 #[40, 46, 84, 90, 124, 130], 40) := by decide +kernel
theorem dX5_takes_44 : decode cX5_takes 44 = .ok (.aload_n 0, 1) := by decide +kernel
theorem dX5_takes_45 : decode cX5_takes 45 = .ok (.iload_n 1, 1) := by decide +kernel
theorem dX5_takes_46 : decode cX5_takes 46 = .ok (.invokevirtual 98, 3) := by decide +kernel
theorem dX5_takes_49 : decode cX5_takes 49 = .ok (.ireturn, 1) := by decide +kernel
theorem dX5_takes_50 : decode cX5_takes 50 = .ok (.iload_n 1, 1) := by decide +kernel
theorem dX5_takes_51 : decode cX5_takes 51 = .ok (.i2l, 1) := by decide +kernel
theorem dX5_takes_52 : decode cX5_takes 52 = .ok (.ldc2_w 87, 3) := by decide +kernel
theorem dX5_takes_55 : decode cX5_takes 55 = .ok (.ldc2_w 89, 3) := by decide +kernel
theorem dX5_takes_58 : decode cX5_takes 58 = .ok (.invokestatic 54, 3) := by decide +kernel
theorem dX5_takes_61 : decode cX5_takes 61 = .ok (.ifCond .eq 25, 3) := by decide +kernel
theorem dX5_takes_64 : decode cX5_takes 64 = .ok (.aload_n 0, 1) := by decide +kernel
theorem dX5_takes_65 : decode cX5_takes 65 = .ok (.invokevirtual 91, 3) := by decide +kernel
theorem dX5_takes_68 : decode cX5_takes 68 = .ok (.ifCond .eq 18, 3) := by decide +kernel
theorem dX5_takes_71 : decode cX5_takes 71 = .ok (.aload_n 0, 1) := by decide +kernel
theorem dX5_takes_72 : decode cX5_takes 72 = .ok (.iload_n 1, 1) := by decide +kernel
theorem dX5_takes_73 : decode cX5_takes 73 = .ok (.bipush 48, 2) := by decide +kernel
theorem dX5_takes_75 : decode cX5_takes 75 = .ok (.isub, 1) := by decide +kernel
theorem dX5_takes_76 : decode cX5_takes 76 = .ok (.invokevirtual 95, 3) := by decide +kernel
theorem dX5_takes_79 : decode cX5_takes 79 = .ok (.ifCond .eq 7, 3) := by decide +kernel
theorem dX5_takes_82 : decode cX5_takes 82 = .ok (.iconst 1, 1) := by decide +kernel
theorem dX5_takes_83 : decode cX5_takes 83 = .ok (.goto 4, 3) := by decide +kernel
theorem dX5_takes_86 : decode cX5_takes 86 = .ok (.iconst 0, 1) := by decide +kernel
theorem dX5_takes_87 : decode cX5_takes 87 = .ok (.ireturn, 1) := by decide +kernel
theorem dX5_takes_88 : decode cX5_takes 88 = .ok (.aload_n 0, 1) := by decide +kernel
theorem dX5_takes_89 : decode cX5_takes 89 = .ok (.iload_n 1, 1) := by decide +kernel
theorem dX5_takes_90 : decode cX5_takes 90 = .ok (.invokevirtual 101, 3) := by decide +kernel
theorem dX5_takes_93 : decode cX5_takes 93 = .ok (.ireturn, 1) := by decide +kernel
theorem dX5_takes_94 : decode cX5_takes 94 = .ok (.iload_n 1, 1) := by decide +kernel
theorem dX5_takes_95 : decode cX5_takes 95 = .ok (.bipush 46, 2) := by decide +kernel
theorem dX5_takes_97 : decode cX5_takes 97 = .ok (.if_icmp .eq 17, 3) := by decide +kernel
theorem dX5_takes_100 : decode cX5_takes 100 = .ok (.iload_n 1, 1) := by decide +kernel
theorem dX5_takes_101 : decode cX5_takes 101 = .ok (.i2l, 1) := by decide +kernel
theorem dX5_takes_102 : decode cX5_takes 102 = .ok (.ldc2_w 104, 3) := by decide +kernel
theorem dX5_takes_105 : decode cX5_takes 105 = .ok (.ldc2_w 106, 3) := by decide +kernel
theorem dX5_takes_108 : decode cX5_takes 108 = .ok (.invokestatic 54, 3) := by decide +kernel
theorem dX5_takes_111 : decode cX5_takes 111 = .ok (.ifCond .eq 11, 3) := by decide +kernel
theorem dX5_takes_114 : decode cX5_takes 114 = .ok (.aload_n 0, 1) := by decide +kernel
theorem dX5_takes_115 : decode cX5_takes 115 = .ok (.iload_n 1, 1) := by decide +kernel
theorem dX5_takes_116 : decode cX5_takes 116 = .ok (.invokevirtual 101, 3) := by decide +kernel
theorem dX5_takes_119 : decode cX5_takes 119 = .ok (.goto 8, 3) := by decide +kernel
theorem dX5_takes_122 : decode cX5_takes 122 = .ok (.aload_n 0, 1) := by decide +kernel
theorem dX5_takes_123 : decode cX5_takes 123 = .ok (.iload_n 1, 1) := by decide +kernel
theorem dX5_takes_124 : decode cX5_takes 124 = .ok (.invokevirtual 108, 3) := by decide +kernel
theorem dX5_takes_127 : decode cX5_takes 127 = .ok (.ireturn, 1) := by decide +kernel
theorem dX5_takes_128 : decode cX5_takes 128 = .ok (.aload_n 0, 1) := by decide +kernel
theorem dX5_takes_129 : decode cX5_takes 129 = .ok (.iload_n 1, 1) := by decide +kernel
theorem dX5_takes_130 : decode cX5_takes 130 = .ok (.invokevirtual 108, 3) := by decide +kernel
theorem dX5_takes_133 : decode cX5_takes 133 = .ok (.ireturn, 1) := by decide +kernel
theorem dX5_takes_134 : decode cX5_takes 134 = .ok (.iload_n 1, 1) := by decide +kernel
theorem dX5_takes_135 : decode cX5_takes 135 = .ok (.i2l, 1) := by decide +kernel
theorem dX5_takes_136 : decode cX5_takes 136 = .ok (.ldc2_w 111, 3) := by decide +kernel
theorem dX5_takes_139 : decode cX5_takes 139 = .ok (.ldc2_w 89, 3) := by decide +kernel
theorem dX5_takes_142 : decode cX5_takes 142 = .ok (.invokestatic 54, 3) := by decide +kernel
theorem dX5_takes_145 : decode cX5_takes 145 = .ok (.ifCond .eq 21, 3) := by decide +kernel
theorem dX5_takes_148 : decode cX5_takes 148 = .ok (.aload_n 0, 1) := by decide +kernel
theorem dX5_takes_149 : decode cX5_takes 149 = .ok (.bipush 10, 2) := by decide +kernel
theorem dX5_takes_151 : decode cX5_takes 151 = .ok (.iload_n 1, 1) := by decide +kernel
theorem dX5_takes_152 : decode cX5_takes 152 = .ok (.iadd, 1) := by decide +kernel
theorem dX5_takes_153 : decode cX5_takes 153 = .ok (.bipush 48, 2) := by decide +kernel
theorem dX5_takes_155 : decode cX5_takes 155 = .ok (.isub, 1) := by decide +kernel
theorem dX5_takes_156 : decode cX5_takes 156 = .ok (.invokevirtual 84, 3) := by decide +kernel
theorem dX5_takes_159 : decode cX5_takes 159 = .ok (.ifCond .eq 7, 3) := by decide +kernel
theorem dX5_takes_162 : decode cX5_takes 162 = .ok (.iconst 1, 1) := by decide +kernel
theorem dX5_takes_163 : decode cX5_takes 163 = .ok (.goto 4, 3) := by decide +kernel
theorem dX5_takes_166 : decode cX5_takes 166 = .ok (.iconst 0, 1) := by decide +kernel
theorem dX5_takes_167 : decode cX5_takes 167 = .ok (.ireturn, 1) := by decide +kernel
theorem dX5_takes_168 : decode cX5_takes 168 = .ok (.iload_n 1, 1) := by decide +kernel
theorem dX5_takes_169 : decode cX5_takes 169 = .ok (.i2l, 1) := by decide +kernel
theorem dX5_takes_170 : decode cX5_takes 170 = .ok (.ldc2_w 113, 3) := by decide +kernel
theorem dX5_takes_173 : decode cX5_takes 173 = .ok (.ldc2_w 89, 3) := by decide +kernel
theorem dX5_takes_176 : decode cX5_takes 176 = .ok (.invokestatic 54, 3) := by decide +kernel
theorem dX5_takes_179 : decode cX5_takes 179 = .ok (.ifCond .eq 21, 3) := by decide +kernel
theorem dX5_takes_182 : decode cX5_takes 182 = .ok (.aload_n 0, 1) := by decide +kernel
theorem dX5_takes_183 : decode cX5_takes 183 = .ok (.bipush 20, 2) := by decide +kernel
theorem dX5_takes_185 : decode cX5_takes 185 = .ok (.iload_n 1, 1) := by decide +kernel
theorem dX5_takes_186 : decode cX5_takes 186 = .ok (.iadd, 1) := by decide +kernel
theorem dX5_takes_187 : decode cX5_takes 187 = .ok (.bipush 48, 2) := by decide +kernel
theorem dX5_takes_189 : decode cX5_takes 189 = .ok (.isub, 1) := by decide +kernel
theorem dX5_takes_190 : decode cX5_takes 190 = .ok (.invokevirtual 84, 3) := by decide +kernel
theorem dX5_takes_193 : decode cX5_takes 193 = .ok (.ifCond .eq 7, 3) := by decide +kernel
theorem dX5_takes_196 : decode cX5_takes 196 = .ok (.iconst 1, 1) := by decide +kernel
theorem dX5_takes_197 : decode cX5_takes 197 = .ok (.goto 4, 3) := by decide +kernel
theorem dX5_takes_200 : decode cX5_takes 200 = .ok (.iconst 0, 1) := by decide +kernel
theorem dX5_takes_201 : decode cX5_takes 201 = .ok (.ireturn, 1) := by decide +kernel
theorem dX5_fault_0 : decode cX5_fault 0 = .ok (.iconst 0, 1) := by decide +kernel
theorem dX5_fault_1 : decode cX5_fault 1 = .ok (.istore_n 1, 1) := by decide +kernel
theorem dX5_fault_2 : decode cX5_fault 2 = .ok (.iload_n 1, 1) := by decide +kernel
theorem dX5_fault_3 : decode cX5_fault 3 = .ok (.sipush 162, 3) := by decide +kernel
theorem dX5_fault_6 : decode cX5_fault 6 = .ok (.if_icmp .ge 16, 3) := by decide +kernel
theorem dX5_fault_9 : decode cX5_fault 9 = .ok (.aload_n 0, 1) := by decide +kernel
theorem dX5_fault_10 : decode cX5_fault 10 = .ok (.getfield 22, 3) := by decide +kernel
theorem dX5_fault_13 : decode cX5_fault 13 = .ok (.iload_n 1, 1) := by decide +kernel
theorem dX5_fault_14 : decode cX5_fault 14 = .ok (.iconst 0, 1) := by decide +kernel
theorem dX5_fault_15 : decode cX5_fault 15 = .ok (.iastore, 1) := by decide +kernel
theorem dX5_fault_16 : decode cX5_fault 16 = .ok (.iinc 1 1, 3) := by decide +kernel
theorem dX5_fault_19 : decode cX5_fault 19 = .ok (.goto (-17), 3) := by decide +kernel
theorem dX5_fault_22 : decode cX5_fault 22 = .ok (.aload_n 0, 1) := by decide +kernel
theorem dX5_fault_23 : decode cX5_fault 23 = .ok (.iconst 0, 1) := by decide +kernel
theorem dX5_fault_24 : decode cX5_fault 24 = .ok (.putfield 66, 3) := by decide +kernel
theorem dX5_fault_27 : decode cX5_fault 27 = .ok (.iconst 0, 1) := by decide +kernel
theorem dX5_fault_28 : decode cX5_fault 28 = .ok (.istore_n 1, 1) := by decide +kernel
theorem dX5_fault_29 : decode cX5_fault 29 = .ok (.iload_n 1, 1) := by decide +kernel
theorem dX5_fault_30 : decode cX5_fault 30 = .ok (.aload_n 0, 1) := by decide +kernel
theorem dX5_fault_31 : decode cX5_fault 31 = .ok (.getfield 62, 3) := by decide +kernel
theorem dX5_fault_34 : decode cX5_fault 34 = .ok (.if_icmp .ge 24, 3) := by decide +kernel
theorem dX5_fault_37 : decode cX5_fault 37 = .ok (.aload_n 0, 1) := by decide +kernel
theorem dX5_fault_38 : decode cX5_fault 38 = .ok (.aload_n 0, 1) := by decide +kernel
theorem dX5_fault_39 : decode cX5_fault 39 = .ok (.getfield 19, 3) := by decide +kernel
theorem dX5_fault_42 : decode cX5_fault 42 = .ok (.iload_n 1, 1) := by decide +kernel
theorem dX5_fault_43 : decode cX5_fault 43 = .ok (.iaload, 1) := by decide +kernel
theorem dX5_fault_44 : decode cX5_fault 44 = .ok (.invokevirtual 115, 3) := by decide +kernel
theorem dX5_fault_47 : decode cX5_fault 47 = .ok (.ifCond .ne 5, 3) := by decide +kernel
theorem dX5_fault_50 : decode cX5_fault 50 = .ok (.iload_n 1, 1) := by decide +kernel
theorem dX5_fault_51 : decode cX5_fault 51 = .ok (.ireturn, 1) := by decide +kernel
theorem dX5_fault_52 : decode cX5_fault 52 = .ok (.iinc 1 1, 3) := by decide +kernel
theorem dX5_fault_55 : decode cX5_fault 55 = .ok (.goto (-26), 3) := by decide +kernel
theorem dX5_fault_58 : decode cX5_fault 58 = .ok (.aload_n 0, 1) := by decide +kernel
theorem dX5_fault_59 : decode cX5_fault 59 = .ok (.getfield 66, 3) := by decide +kernel
theorem dX5_fault_62 : decode cX5_fault 62 = .ok (.ifCond .ne 8, 3) := by decide +kernel
theorem dX5_fault_65 : decode cX5_fault 65 = .ok (.bipush (-4), 2) := by decide +kernel
theorem dX5_fault_67 : decode cX5_fault 67 = .ok (.goto 7, 3) := by decide +kernel
theorem dX5_fault_70 : decode cX5_fault 70 = .ok (.aload_n 0, 1) := by decide +kernel
theorem dX5_fault_71 : decode cX5_fault 71 = .ok (.getfield 62, 3) := by decide +kernel
theorem dX5_fault_74 : decode cX5_fault 74 = .ok (.ireturn, 1) := by decide +kernel
theorem dX5_copies_0 : decode cX5_copies 0 = .ok (.iconst 0, 1) := by decide +kernel
theorem dX5_copies_1 : decode cX5_copies 1 = .ok (.istore 4, 2) := by decide +kernel
theorem dX5_copies_3 : decode cX5_copies 3 = .ok (.iload 4, 2) := by decide +kernel
theorem dX5_copies_5 : decode cX5_copies 5 = .ok (.sipush 162, 3) := by decide +kernel
theorem dX5_copies_8 : decode cX5_copies 8 = .ok (.if_icmp .ge 21, 3) := by decide +kernel
theorem dX5_copies_11 : decode cX5_copies 11 = .ok (.aload_n 2, 1) := by decide +kernel
theorem dX5_copies_12 : decode cX5_copies 12 = .ok (.iload_n 3, 1) := by decide +kernel
theorem dX5_copies_13 : decode cX5_copies 13 = .ok (.iload 4, 2) := by decide +kernel
theorem dX5_copies_15 : decode cX5_copies 15 = .ok (.iadd, 1) := by decide +kernel
theorem dX5_copies_16 : decode cX5_copies 16 = .ok (.aload_n 0, 1) := by decide +kernel
theorem dX5_copies_17 : decode cX5_copies 17 = .ok (.iload_n 1, 1) := by decide +kernel
theorem dX5_copies_18 : decode cX5_copies 18 = .ok (.iload 4, 2) := by decide +kernel
theorem dX5_copies_20 : decode cX5_copies 20 = .ok (.iadd, 1) := by decide +kernel
theorem dX5_copies_21 : decode cX5_copies 21 = .ok (.iaload, 1) := by decide +kernel
theorem dX5_copies_22 : decode cX5_copies 22 = .ok (.iastore, 1) := by decide +kernel
theorem dX5_copies_23 : decode cX5_copies 23 = .ok (.iinc 4 1, 3) := by decide +kernel
theorem dX5_copies_26 : decode cX5_copies 26 = .ok (.goto (-23), 3) := by decide +kernel
theorem dX5_copies_29 : decode cX5_copies 29 = .ok (.return_, 1) := by decide +kernel
theorem dX5_begins_0 : decode cX5_begins 0 = .ok (.aload_n 0, 1) := by decide +kernel
theorem dX5_begins_1 : decode cX5_begins 1 = .ok (.getfield 22, 3) := by decide +kernel
theorem dX5_begins_4 : decode cX5_begins 4 = .ok (.iconst 0, 1) := by decide +kernel
theorem dX5_begins_5 : decode cX5_begins 5 = .ok (.aload_n 0, 1) := by decide +kernel
theorem dX5_begins_6 : decode cX5_begins 6 = .ok (.getfield 7, 3) := by decide +kernel
theorem dX5_begins_9 : decode cX5_begins 9 = .ok (.iconst 0, 1) := by decide +kernel
theorem dX5_begins_10 : decode cX5_begins 10 = .ok (.invokestatic 118, 3) := by decide +kernel
theorem dX5_begins_13 : decode cX5_begins 13 = .ok (.aload_n 0, 1) := by decide +kernel
theorem dX5_begins_14 : decode cX5_begins 14 = .ok (.iconst 0, 1) := by decide +kernel
theorem dX5_begins_15 : decode cX5_begins 15 = .ok (.putfield 122, 3) := by decide +kernel
theorem dX5_begins_18 : decode cX5_begins 18 = .ok (.aload_n 0, 1) := by decide +kernel
theorem dX5_begins_19 : decode cX5_begins 19 = .ok (.iconst 0, 1) := by decide +kernel
theorem dX5_begins_20 : decode cX5_begins 20 = .ok (.putfield 125, 3) := by decide +kernel
theorem dX5_begins_23 : decode cX5_begins 23 = .ok (.return_, 1) := by decide +kernel
theorem dX5_lay_0 : decode cX5_lay 0 = .ok (.aload_n 0, 1) := by decide +kernel
theorem dX5_lay_1 : decode cX5_lay 1 = .ok (.invokevirtual 128, 3) := by decide +kernel
theorem dX5_lay_4 : decode cX5_lay 4 = .ok (.bipush (-4), 2) := by decide +kernel
theorem dX5_lay_6 : decode cX5_lay 6 = .ok (.if_icmp .ne 10, 3) := by decide +kernel
theorem dX5_lay_9 : decode cX5_lay 9 = .ok (.aload_n 0, 1) := by decide +kernel
theorem dX5_lay_10 : decode cX5_lay 10 = .ok (.getfield 62, 3) := by decide +kernel
theorem dX5_lay_13 : decode cX5_lay 13 = .ok (.ifCond .ne 6, 3) := by decide +kernel
theorem dX5_lay_16 : decode cX5_lay 16 = .ok (.bipush (-2), 2) := by decide +kernel
theorem dX5_lay_18 : decode cX5_lay 18 = .ok (.ireturn, 1) := by decide +kernel
theorem dX5_lay_19 : decode cX5_lay 19 = .ok (.aload_n 0, 1) := by decide +kernel
theorem dX5_lay_20 : decode cX5_lay 20 = .ok (.invokevirtual 51, 3) := by decide +kernel
theorem dX5_lay_23 : decode cX5_lay 23 = .ok (.aload_n 0, 1) := by decide +kernel
theorem dX5_lay_24 : decode cX5_lay 24 = .ok (.getfield 7, 3) := by decide +kernel
theorem dX5_lay_27 : decode cX5_lay 27 = .ok (.iconst 0, 1) := by decide +kernel
theorem dX5_lay_28 : decode cX5_lay 28 = .ok (.iaload, 1) := by decide +kernel
theorem dX5_lay_29 : decode cX5_lay 29 = .ok (.ireturn, 1) := by decide +kernel
theorem dX5_isCord_0 : decode cX5_isCord 0 = .ok (.iload_n 1, 1) := by decide +kernel
theorem dX5_isCord_1 : decode cX5_isCord 1 = .ok (.i2l, 1) := by decide +kernel
theorem dX5_isCord_2 : decode cX5_isCord 2 = .ok (.lconst 0, 1) := by decide +kernel
theorem dX5_isCord_3 : decode cX5_isCord 3 = .ok (.aload_n 0, 1) := by decide +kernel
theorem dX5_isCord_4 : decode cX5_isCord 4 = .ok (.getfield 7, 3) := by decide +kernel
theorem dX5_isCord_7 : decode cX5_isCord 7 = .ok (.iconst 0, 1) := by decide +kernel
theorem dX5_isCord_8 : decode cX5_isCord 8 = .ok (.iaload, 1) := by decide +kernel
theorem dX5_isCord_9 : decode cX5_isCord 9 = .ok (.iconst 1, 1) := by decide +kernel
theorem dX5_isCord_10 : decode cX5_isCord 10 = .ok (.isub, 1) := by decide +kernel
theorem dX5_isCord_11 : decode cX5_isCord 11 = .ok (.i2l, 1) := by decide +kernel
theorem dX5_isCord_12 : decode cX5_isCord 12 = .ok (.invokestatic 54, 3) := by decide +kernel
theorem dX5_isCord_15 : decode cX5_isCord 15 = .ok (.ireturn, 1) := by decide +kernel
theorem dX5_isGroup_0 : decode cX5_isGroup 0 = .ok (.iload_n 1, 1) := by decide +kernel
theorem dX5_isGroup_1 : decode cX5_isGroup 1 = .ok (.i2l, 1) := by decide +kernel
theorem dX5_isGroup_2 : decode cX5_isGroup 2 = .ok (.lconst 0, 1) := by decide +kernel
theorem dX5_isGroup_3 : decode cX5_isGroup 3 = .ok (.aload_n 0, 1) := by decide +kernel
theorem dX5_isGroup_4 : decode cX5_isGroup 4 = .ok (.getfield 7, 3) := by decide +kernel
theorem dX5_isGroup_7 : decode cX5_isGroup 7 = .ok (.iconst 1, 1) := by decide +kernel
theorem dX5_isGroup_8 : decode cX5_isGroup 8 = .ok (.iaload, 1) := by decide +kernel
theorem dX5_isGroup_9 : decode cX5_isGroup 9 = .ok (.iconst 1, 1) := by decide +kernel
theorem dX5_isGroup_10 : decode cX5_isGroup 10 = .ok (.isub, 1) := by decide +kernel
theorem dX5_isGroup_11 : decode cX5_isGroup 11 = .ok (.i2l, 1) := by decide +kernel
theorem dX5_isGroup_12 : decode cX5_isGroup 12 = .ok (.invokestatic 54, 3) := by decide +kernel
theorem dX5_isGroup_15 : decode cX5_isGroup 15 = .ok (.ireturn, 1) := by decide +kernel
theorem dX5_isPendant_0 : decode cX5_isPendant 0 = .ok (.aload_n 0, 1) := by decide +kernel
theorem dX5_isPendant_1 : decode cX5_isPendant 1 = .ok (.getfield 7, 3) := by decide +kernel
theorem dX5_isPendant_4 : decode cX5_isPendant 4 = .ok (.bipush 98, 2) := by decide +kernel
theorem dX5_isPendant_6 : decode cX5_isPendant 6 = .ok (.iload_n 1, 1) := by decide +kernel
theorem dX5_isPendant_7 : decode cX5_isPendant 7 = .ok (.iadd, 1) := by decide +kernel
theorem dX5_isPendant_8 : decode cX5_isPendant 8 = .ok (.iaload, 1) := by decide +kernel
theorem dX5_isPendant_9 : decode cX5_isPendant 9 = .ok (.ifCond .ge 7, 3) := by decide +kernel
theorem dX5_isPendant_12 : decode cX5_isPendant 12 = .ok (.iconst 1, 1) := by decide +kernel
theorem dX5_isPendant_13 : decode cX5_isPendant 13 = .ok (.goto 4, 3) := by decide +kernel
theorem dX5_isPendant_16 : decode cX5_isPendant 16 = .ok (.iconst 0, 1) := by decide +kernel
theorem dX5_isPendant_17 : decode cX5_isPendant 17 = .ok (.ireturn, 1) := by decide +kernel
theorem dX5_isPlain_0 : decode cX5_isPlain 0 = .ok (.aload_n 0, 1) := by decide +kernel
theorem dX5_isPlain_1 : decode cX5_isPlain 1 = .ok (.iload_n 1, 1) := by decide +kernel
theorem dX5_isPlain_2 : decode cX5_isPlain 2 = .ok (.invokevirtual 131, 3) := by decide +kernel
theorem dX5_isPlain_5 : decode cX5_isPlain 5 = .ok (.ifCond .eq 20, 3) := by decide +kernel
theorem dX5_isPlain_8 : decode cX5_isPlain 8 = .ok (.aload_n 0, 1) := by decide +kernel
theorem dX5_isPlain_9 : decode cX5_isPlain 9 = .ok (.getfield 7, 3) := by decide +kernel
theorem dX5_isPlain_12 : decode cX5_isPlain 12 = .ok (.sipush 130, 3) := by decide +kernel
theorem dX5_isPlain_15 : decode cX5_isPlain 15 = .ok (.iload_n 1, 1) := by decide +kernel
theorem dX5_isPlain_16 : decode cX5_isPlain 16 = .ok (.iadd, 1) := by decide +kernel
theorem dX5_isPlain_17 : decode cX5_isPlain 17 = .ok (.iaload, 1) := by decide +kernel
theorem dX5_isPlain_18 : decode cX5_isPlain 18 = .ok (.ifCond .ne 7, 3) := by decide +kernel
theorem dX5_isPlain_21 : decode cX5_isPlain 21 = .ok (.iconst 1, 1) := by decide +kernel
theorem dX5_isPlain_22 : decode cX5_isPlain 22 = .ok (.goto 4, 3) := by decide +kernel
theorem dX5_isPlain_25 : decode cX5_isPlain 25 = .ok (.iconst 0, 1) := by decide +kernel
theorem dX5_isPlain_26 : decode cX5_isPlain 26 = .ok (.ireturn, 1) := by decide +kernel
theorem dX5_knot0_0 : decode cX5_knot0 0 = .ok (.aload_n 0, 1) := by decide +kernel
theorem dX5_knot0_1 : decode cX5_knot0 1 = .ok (.getfield 7, 3) := by decide +kernel
theorem dX5_knot0_4 : decode cX5_knot0 4 = .ok (.bipush 34, 2) := by decide +kernel
theorem dX5_knot0_6 : decode cX5_knot0 6 = .ok (.iconst 4, 1) := by decide +kernel
theorem dX5_knot0_7 : decode cX5_knot0 7 = .ok (.iload_n 1, 1) := by decide +kernel
theorem dX5_knot0_8 : decode cX5_knot0 8 = .ok (.imul, 1) := by decide +kernel
theorem dX5_knot0_9 : decode cX5_knot0 9 = .ok (.iadd, 1) := by decide +kernel
theorem dX5_knot0_10 : decode cX5_knot0 10 = .ok (.iload_n 2, 1) := by decide +kernel
theorem dX5_knot0_11 : decode cX5_knot0 11 = .ok (.iadd, 1) := by decide +kernel
theorem dX5_knot0_12 : decode cX5_knot0 12 = .ok (.iaload, 1) := by decide +kernel
theorem dX5_knot0_13 : decode cX5_knot0 13 = .ok (.ireturn, 1) := by decide +kernel
theorem dX5_told_0 : decode cX5_told 0 = .ok (.aload_n 0, 1) := by decide +kernel
theorem dX5_told_1 : decode cX5_told 1 = .ok (.getfield 7, 3) := by decide +kernel
theorem dX5_told_4 : decode cX5_told 4 = .ok (.bipush 18, 2) := by decide +kernel
theorem dX5_told_6 : decode cX5_told 6 = .ok (.iload_n 1, 1) := by decide +kernel
theorem dX5_told_7 : decode cX5_told 7 = .ok (.iadd, 1) := by decide +kernel
theorem dX5_told_8 : decode cX5_told 8 = .ok (.iaload, 1) := by decide +kernel
theorem dX5_told_9 : decode cX5_told 9 = .ok (.istore_n 3, 1) := by decide +kernel
theorem dX5_told_10 : decode cX5_told 10 = .ok (.iconst 0, 1) := by decide +kernel
theorem dX5_told_11 : decode cX5_told 11 = .ok (.istore 4, 2) := by decide +kernel
theorem dX5_told_13 : decode cX5_told 13 = .ok (.iconst 1, 1) := by decide +kernel
theorem dX5_told_14 : decode cX5_told 14 = .ok (.istore 5, 2) := by decide +kernel
theorem dX5_told_16 : decode cX5_told 16 = .ok (.iconst 0, 1) := by decide +kernel
theorem dX5_told_17 : decode cX5_told 17 = .ok (.istore 6, 2) := by decide +kernel
theorem dX5_told_19 : decode cX5_told 19 = .ok (.iload 6, 2) := by decide +kernel
theorem dX5_told_21 : decode cX5_told 21 = .ok (.iload_n 3, 1) := by decide +kernel
theorem dX5_told_22 : decode cX5_told 22 = .ok (.if_icmp .ge 83, 3) := by decide +kernel
theorem dX5_told_25 : decode cX5_told 25 = .ok (.aload_n 0, 1) := by decide +kernel
theorem dX5_told_26 : decode cX5_told 26 = .ok (.iload_n 1, 1) := by decide +kernel
theorem dX5_told_27 : decode cX5_told 27 = .ok (.iload_n 2, 1) := by decide +kernel
theorem dX5_told_28 : decode cX5_told 28 = .ok (.ifCond .eq 12, 3) := by decide +kernel
theorem dX5_told_31 : decode cX5_told 31 = .ok (.iload_n 3, 1) := by decide +kernel
theorem dX5_told_32 : decode cX5_told 32 = .ok (.iconst 1, 1) := by decide +kernel
theorem dX5_told_33 : decode cX5_told 33 = .ok (.isub, 1) := by decide +kernel
theorem dX5_told_34 : decode cX5_told 34 = .ok (.iload 6, 2) := by decide +kernel
theorem dX5_told_36 : decode cX5_told 36 = .ok (.isub, 1) := by decide +kernel
theorem dX5_told_37 : decode cX5_told 37 = .ok (.goto 5, 3) := by decide +kernel
theorem dX5_told_40 : decode cX5_told 40 = .ok (.iload 6, 2) := by decide +kernel
theorem dX5_told_42 : decode cX5_told 42 = .ok (.invokevirtual 134, 3) := by decide +kernel
theorem dX5_told_45 : decode cX5_told 45 = .ok (.istore 7, 2) := by decide +kernel
theorem dX5_told_47 : decode cX5_told 47 = .ok (.iload 7, 2) := by decide +kernel
theorem dX5_told_49 : decode cX5_told 49 = .ok (.bipush 10, 2) := by decide +kernel
theorem dX5_told_51 : decode cX5_told 51 = .ok (.idiv, 1) := by decide +kernel
theorem dX5_told_52 : decode cX5_told 52 = .ok (.istore 8, 2) := by decide +kernel
theorem dX5_told_54 : decode cX5_told 54 = .ok (.iload 8, 2) := by decide +kernel
theorem dX5_told_56 : decode cX5_told 56 = .ok (.iconst 1, 1) := by decide +kernel
theorem dX5_told_57 : decode cX5_told 57 = .ok (.if_icmp .ne 8, 3) := by decide +kernel
theorem dX5_told_60 : decode cX5_told 60 = .ok (.iload 6, 2) := by decide +kernel
theorem dX5_told_62 : decode cX5_told 62 = .ok (.ifCond .eq 14, 3) := by decide +kernel
theorem dX5_told_65 : decode cX5_told 65 = .ok (.iload 8, 2) := by decide +kernel
theorem dX5_told_67 : decode cX5_told 67 = .ok (.iconst 1, 1) := by decide +kernel
theorem dX5_told_68 : decode cX5_told 68 = .ok (.if_icmp .le 11, 3) := by decide +kernel
theorem dX5_told_71 : decode cX5_told 71 = .ok (.iload 6, 2) := by decide +kernel
theorem dX5_told_73 : decode cX5_told 73 = .ok (.ifCond .le 6, 3) := by decide +kernel
theorem dX5_told_76 : decode cX5_told 76 = .ok (.bipush (-4), 2) := by decide +kernel
theorem dX5_told_78 : decode cX5_told 78 = .ok (.ireturn, 1) := by decide +kernel
theorem dX5_told_79 : decode cX5_told 79 = .ok (.iload 4, 2) := by decide +kernel
theorem dX5_told_81 : decode cX5_told 81 = .ok (.iload 7, 2) := by decide +kernel
theorem dX5_told_83 : decode cX5_told 83 = .ok (.bipush 10, 2) := by decide +kernel
theorem dX5_told_85 : decode cX5_told 85 = .ok (.irem, 1) := by decide +kernel
theorem dX5_told_86 : decode cX5_told 86 = .ok (.iload 5, 2) := by decide +kernel
theorem dX5_told_88 : decode cX5_told 88 = .ok (.imul, 1) := by decide +kernel
theorem dX5_told_89 : decode cX5_told 89 = .ok (.iadd, 1) := by decide +kernel
theorem dX5_told_90 : decode cX5_told 90 = .ok (.istore 4, 2) := by decide +kernel
theorem dX5_told_92 : decode cX5_told 92 = .ok (.iload 5, 2) := by decide +kernel
theorem dX5_told_94 : decode cX5_told 94 = .ok (.bipush 10, 2) := by decide +kernel
theorem dX5_told_96 : decode cX5_told 96 = .ok (.imul, 1) := by decide +kernel
theorem dX5_told_97 : decode cX5_told 97 = .ok (.istore 5, 2) := by decide +kernel
theorem dX5_told_99 : decode cX5_told 99 = .ok (.iinc 6 1, 3) := by decide +kernel
theorem dX5_told_102 : decode cX5_told 102 = .ok (.goto (-83), 3) := by decide +kernel
theorem dX5_told_105 : decode cX5_told 105 = .ok (.iload 4, 2) := by decide +kernel
theorem dX5_told_107 : decode cX5_told 107 = .ok (.ireturn, 1) := by decide +kernel
theorem dX5_value_0 : decode cX5_value 0 = .ok (.aload_n 0, 1) := by decide +kernel
theorem dX5_value_1 : decode cX5_value 1 = .ok (.iload_n 1, 1) := by decide +kernel
theorem dX5_value_2 : decode cX5_value 2 = .ok (.iconst 0, 1) := by decide +kernel
theorem dX5_value_3 : decode cX5_value 3 = .ok (.invokevirtual 138, 3) := by decide +kernel
theorem dX5_value_6 : decode cX5_value 6 = .ok (.ireturn, 1) := by decide +kernel
theorem dX5_isUnder_0 : decode cX5_isUnder 0 = .ok (.aload_n 0, 1) := by decide +kernel
theorem dX5_isUnder_1 : decode cX5_isUnder 1 = .ok (.getfield 7, 3) := by decide +kernel
theorem dX5_isUnder_4 : decode cX5_isUnder 4 = .ok (.bipush 98, 2) := by decide +kernel
theorem dX5_isUnder_6 : decode cX5_isUnder 6 = .ok (.iload_n 1, 1) := by decide +kernel
theorem dX5_isUnder_7 : decode cX5_isUnder 7 = .ok (.iadd, 1) := by decide +kernel
theorem dX5_isUnder_8 : decode cX5_isUnder 8 = .ok (.iaload, 1) := by decide +kernel
theorem dX5_isUnder_9 : decode cX5_isUnder 9 = .ok (.istore_n 3, 1) := by decide +kernel
theorem dX5_isUnder_10 : decode cX5_isUnder 10 = .ok (.iload_n 3, 1) := by decide +kernel
theorem dX5_isUnder_11 : decode cX5_isUnder 11 = .ok (.iload_n 2, 1) := by decide +kernel
theorem dX5_isUnder_12 : decode cX5_isUnder 12 = .ok (.if_icmp .eq 20, 3) := by decide +kernel
theorem dX5_isUnder_15 : decode cX5_isUnder 15 = .ok (.iload_n 3, 1) := by decide +kernel
theorem dX5_isUnder_16 : decode cX5_isUnder 16 = .ok (.ifCond .lt 20, 3) := by decide +kernel
theorem dX5_isUnder_19 : decode cX5_isUnder 19 = .ok (.aload_n 0, 1) := by decide +kernel
theorem dX5_isUnder_20 : decode cX5_isUnder 20 = .ok (.getfield 7, 3) := by decide +kernel
theorem dX5_isUnder_23 : decode cX5_isUnder 23 = .ok (.bipush 98, 2) := by decide +kernel
theorem dX5_isUnder_25 : decode cX5_isUnder 25 = .ok (.iload_n 3, 1) := by decide +kernel
theorem dX5_isUnder_26 : decode cX5_isUnder 26 = .ok (.iadd, 1) := by decide +kernel
theorem dX5_isUnder_27 : decode cX5_isUnder 27 = .ok (.iaload, 1) := by decide +kernel
theorem dX5_isUnder_28 : decode cX5_isUnder 28 = .ok (.iload_n 2, 1) := by decide +kernel
theorem dX5_isUnder_29 : decode cX5_isUnder 29 = .ok (.if_icmp .ne 7, 3) := by decide +kernel
theorem dX5_isUnder_32 : decode cX5_isUnder 32 = .ok (.iconst 1, 1) := by decide +kernel
theorem dX5_isUnder_33 : decode cX5_isUnder 33 = .ok (.goto 4, 3) := by decide +kernel
theorem dX5_isUnder_36 : decode cX5_isUnder 36 = .ok (.iconst 0, 1) := by decide +kernel
theorem dX5_isUnder_37 : decode cX5_isUnder 37 = .ok (.ireturn, 1) := by decide +kernel
theorem dX5_beneath_0 : decode cX5_beneath 0 = .ok (.iconst 0, 1) := by decide +kernel
theorem dX5_beneath_1 : decode cX5_beneath 1 = .ok (.istore_n 2, 1) := by decide +kernel
theorem dX5_beneath_2 : decode cX5_beneath 2 = .ok (.iconst 0, 1) := by decide +kernel
theorem dX5_beneath_3 : decode cX5_beneath 3 = .ok (.istore_n 3, 1) := by decide +kernel
theorem dX5_beneath_4 : decode cX5_beneath 4 = .ok (.iload_n 3, 1) := by decide +kernel
theorem dX5_beneath_5 : decode cX5_beneath 5 = .ok (.aload_n 0, 1) := by decide +kernel
theorem dX5_beneath_6 : decode cX5_beneath 6 = .ok (.getfield 7, 3) := by decide +kernel
theorem dX5_beneath_9 : decode cX5_beneath 9 = .ok (.iconst 0, 1) := by decide +kernel
theorem dX5_beneath_10 : decode cX5_beneath 10 = .ok (.iaload, 1) := by decide +kernel
theorem dX5_beneath_11 : decode cX5_beneath 11 = .ok (.if_icmp .ge 39, 3) := by decide +kernel
theorem dX5_beneath_14 : decode cX5_beneath 14 = .ok (.aload_n 0, 1) := by decide +kernel
theorem dX5_beneath_15 : decode cX5_beneath 15 = .ok (.iload_n 3, 1) := by decide +kernel
theorem dX5_beneath_16 : decode cX5_beneath 16 = .ok (.iload_n 1, 1) := by decide +kernel
theorem dX5_beneath_17 : decode cX5_beneath 17 = .ok (.invokevirtual 142, 3) := by decide +kernel
theorem dX5_beneath_20 : decode cX5_beneath 20 = .ok (.ifCond .eq 24, 3) := by decide +kernel
theorem dX5_beneath_23 : decode cX5_beneath 23 = .ok (.aload_n 0, 1) := by decide +kernel
theorem dX5_beneath_24 : decode cX5_beneath 24 = .ok (.iload_n 3, 1) := by decide +kernel
theorem dX5_beneath_25 : decode cX5_beneath 25 = .ok (.invokevirtual 146, 3) := by decide +kernel
theorem dX5_beneath_28 : decode cX5_beneath 28 = .ok (.bipush (-4), 2) := by decide +kernel
theorem dX5_beneath_30 : decode cX5_beneath 30 = .ok (.if_icmp .ne 6, 3) := by decide +kernel
theorem dX5_beneath_33 : decode cX5_beneath 33 = .ok (.bipush (-4), 2) := by decide +kernel
theorem dX5_beneath_35 : decode cX5_beneath 35 = .ok (.ireturn, 1) := by decide +kernel
theorem dX5_beneath_36 : decode cX5_beneath 36 = .ok (.iload_n 2, 1) := by decide +kernel
theorem dX5_beneath_37 : decode cX5_beneath 37 = .ok (.aload_n 0, 1) := by decide +kernel
theorem dX5_beneath_38 : decode cX5_beneath 38 = .ok (.iload_n 3, 1) := by decide +kernel
theorem dX5_beneath_39 : decode cX5_beneath 39 = .ok (.invokevirtual 146, 3) := by decide +kernel
theorem dX5_beneath_42 : decode cX5_beneath 42 = .ok (.iadd, 1) := by decide +kernel
theorem dX5_beneath_43 : decode cX5_beneath 43 = .ok (.istore_n 2, 1) := by decide +kernel
theorem dX5_beneath_44 : decode cX5_beneath 44 = .ok (.iinc 3 1, 3) := by decide +kernel
theorem dX5_beneath_47 : decode cX5_beneath 47 = .ok (.goto (-43), 3) := by decide +kernel
theorem dX5_beneath_50 : decode cX5_beneath 50 = .ok (.iload_n 2, 1) := by decide +kernel
theorem dX5_beneath_51 : decode cX5_beneath 51 = .ok (.ireturn, 1) := by decide +kernel
theorem dX5_whole_0 : decode cX5_whole 0 = .ok (.aload_n 0, 1) := by decide +kernel
theorem dX5_whole_1 : decode cX5_whole 1 = .ok (.iload_n 1, 1) := by decide +kernel
theorem dX5_whole_2 : decode cX5_whole 2 = .ok (.invokevirtual 146, 3) := by decide +kernel
theorem dX5_whole_5 : decode cX5_whole 5 = .ok (.bipush (-4), 2) := by decide +kernel
theorem dX5_whole_7 : decode cX5_whole 7 = .ok (.if_icmp .eq 13, 3) := by decide +kernel
theorem dX5_whole_10 : decode cX5_whole 10 = .ok (.aload_n 0, 1) := by decide +kernel
theorem dX5_whole_11 : decode cX5_whole 11 = .ok (.iload_n 1, 1) := by decide +kernel
theorem dX5_whole_12 : decode cX5_whole 12 = .ok (.invokevirtual 150, 3) := by decide +kernel
theorem dX5_whole_15 : decode cX5_whole 15 = .ok (.bipush (-4), 2) := by decide +kernel
theorem dX5_whole_17 : decode cX5_whole 17 = .ok (.if_icmp .ne 8, 3) := by decide +kernel
theorem dX5_whole_20 : decode cX5_whole 20 = .ok (.bipush (-4), 2) := by decide +kernel
theorem dX5_whole_22 : decode cX5_whole 22 = .ok (.goto 14, 3) := by decide +kernel
theorem dX5_whole_25 : decode cX5_whole 25 = .ok (.aload_n 0, 1) := by decide +kernel
theorem dX5_whole_26 : decode cX5_whole 26 = .ok (.iload_n 1, 1) := by decide +kernel
theorem dX5_whole_27 : decode cX5_whole 27 = .ok (.invokevirtual 146, 3) := by decide +kernel
theorem dX5_whole_30 : decode cX5_whole 30 = .ok (.aload_n 0, 1) := by decide +kernel
theorem dX5_whole_31 : decode cX5_whole 31 = .ok (.iload_n 1, 1) := by decide +kernel
theorem dX5_whole_32 : decode cX5_whole 32 = .ok (.invokevirtual 150, 3) := by decide +kernel
theorem dX5_whole_35 : decode cX5_whole 35 = .ok (.iadd, 1) := by decide +kernel
theorem dX5_whole_36 : decode cX5_whole 36 = .ok (.ireturn, 1) := by decide +kernel
theorem dX5_knotsOf_0 : decode cX5_knotsOf 0 = .ok (.iload_n 0, 1) := by decide +kernel
theorem dX5_knotsOf_1 : decode cX5_knotsOf 1 = .ok (.bipush 31, 2) := by decide +kernel
theorem dX5_knotsOf_3 : decode cX5_knotsOf 3 = .ok (.if_icmp .ne 7, 3) := by decide +kernel
theorem dX5_knotsOf_6 : decode cX5_knotsOf 6 = .ok (.iconst 2, 1) := by decide +kernel
theorem dX5_knotsOf_7 : decode cX5_knotsOf 7 = .ok (.goto 7, 3) := by decide +kernel
theorem dX5_knotsOf_10 : decode cX5_knotsOf 10 = .ok (.iload_n 0, 1) := by decide +kernel
theorem dX5_knotsOf_11 : decode cX5_knotsOf 11 = .ok (.bipush 10, 2) := by decide +kernel
theorem dX5_knotsOf_13 : decode cX5_knotsOf 13 = .ok (.irem, 1) := by decide +kernel
theorem dX5_knotsOf_14 : decode cX5_knotsOf 14 = .ok (.ireturn, 1) := by decide +kernel
theorem dX5_knots__0 : decode cX5_knots_ 0 = .ok (.iconst 0, 1) := by decide +kernel
theorem dX5_knots__1 : decode cX5_knots_ 1 = .ok (.istore_n 2, 1) := by decide +kernel
theorem dX5_knots__2 : decode cX5_knots_ 2 = .ok (.iconst 0, 1) := by decide +kernel
theorem dX5_knots__3 : decode cX5_knots_ 3 = .ok (.istore_n 3, 1) := by decide +kernel
theorem dX5_knots__4 : decode cX5_knots_ 4 = .ok (.iload_n 3, 1) := by decide +kernel
theorem dX5_knots__5 : decode cX5_knots_ 5 = .ok (.aload_n 0, 1) := by decide +kernel
theorem dX5_knots__6 : decode cX5_knots_ 6 = .ok (.getfield 7, 3) := by decide +kernel
theorem dX5_knots__9 : decode cX5_knots_ 9 = .ok (.bipush 18, 2) := by decide +kernel
theorem dX5_knots__11 : decode cX5_knots_ 11 = .ok (.iload_n 1, 1) := by decide +kernel
theorem dX5_knots__12 : decode cX5_knots_ 12 = .ok (.iadd, 1) := by decide +kernel
theorem dX5_knots__13 : decode cX5_knots_ 13 = .ok (.iaload, 1) := by decide +kernel
theorem dX5_knots__14 : decode cX5_knots_ 14 = .ok (.if_icmp .ge 21, 3) := by decide +kernel
theorem dX5_knots__17 : decode cX5_knots_ 17 = .ok (.iload_n 2, 1) := by decide +kernel
theorem dX5_knots__18 : decode cX5_knots_ 18 = .ok (.aload_n 0, 1) := by decide +kernel
theorem dX5_knots__19 : decode cX5_knots_ 19 = .ok (.iload_n 1, 1) := by decide +kernel
theorem dX5_knots__20 : decode cX5_knots_ 20 = .ok (.iload_n 3, 1) := by decide +kernel
theorem dX5_knots__21 : decode cX5_knots_ 21 = .ok (.invokevirtual 134, 3) := by decide +kernel
theorem dX5_knots__24 : decode cX5_knots_ 24 = .ok (.invokestatic 153, 3) := by decide +kernel
theorem dX5_knots__27 : decode cX5_knots_ 27 = .ok (.iadd, 1) := by decide +kernel
theorem dX5_knots__28 : decode cX5_knots_ 28 = .ok (.istore_n 2, 1) := by decide +kernel
theorem dX5_knots__29 : decode cX5_knots_ 29 = .ok (.iinc 3 1, 3) := by decide +kernel
theorem dX5_knots__32 : decode cX5_knots_ 32 = .ok (.goto (-28), 3) := by decide +kernel
theorem dX5_knots__35 : decode cX5_knots_ 35 = .ok (.iload_n 2, 1) := by decide +kernel
theorem dX5_knots__36 : decode cX5_knots_ 36 = .ok (.ireturn, 1) := by decide +kernel
theorem dX5_hanging_0 : decode cX5_hanging 0 = .ok (.iconst 0, 1) := by decide +kernel
theorem dX5_hanging_1 : decode cX5_hanging 1 = .ok (.istore_n 2, 1) := by decide +kernel
theorem dX5_hanging_2 : decode cX5_hanging 2 = .ok (.iconst 0, 1) := by decide +kernel
theorem dX5_hanging_3 : decode cX5_hanging 3 = .ok (.istore_n 3, 1) := by decide +kernel
theorem dX5_hanging_4 : decode cX5_hanging 4 = .ok (.iload_n 3, 1) := by decide +kernel
theorem dX5_hanging_5 : decode cX5_hanging 5 = .ok (.aload_n 0, 1) := by decide +kernel
theorem dX5_hanging_6 : decode cX5_hanging 6 = .ok (.getfield 7, 3) := by decide +kernel
theorem dX5_hanging_9 : decode cX5_hanging 9 = .ok (.iconst 0, 1) := by decide +kernel
theorem dX5_hanging_10 : decode cX5_hanging 10 = .ok (.iaload, 1) := by decide +kernel
theorem dX5_hanging_11 : decode cX5_hanging 11 = .ok (.if_icmp .ge 30, 3) := by decide +kernel
theorem dX5_hanging_14 : decode cX5_hanging 14 = .ok (.iload_n 2, 1) := by decide +kernel
theorem dX5_hanging_15 : decode cX5_hanging 15 = .ok (.aload_n 0, 1) := by decide +kernel
theorem dX5_hanging_16 : decode cX5_hanging 16 = .ok (.getfield 7, 3) := by decide +kernel
theorem dX5_hanging_19 : decode cX5_hanging 19 = .ok (.bipush 98, 2) := by decide +kernel
theorem dX5_hanging_21 : decode cX5_hanging 21 = .ok (.iload_n 3, 1) := by decide +kernel
theorem dX5_hanging_22 : decode cX5_hanging 22 = .ok (.iadd, 1) := by decide +kernel
theorem dX5_hanging_23 : decode cX5_hanging 23 = .ok (.iaload, 1) := by decide +kernel
theorem dX5_hanging_24 : decode cX5_hanging 24 = .ok (.iload_n 1, 1) := by decide +kernel
theorem dX5_hanging_25 : decode cX5_hanging 25 = .ok (.if_icmp .ne 7, 3) := by decide +kernel
theorem dX5_hanging_28 : decode cX5_hanging 28 = .ok (.iconst 1, 1) := by decide +kernel
theorem dX5_hanging_29 : decode cX5_hanging 29 = .ok (.goto 4, 3) := by decide +kernel
theorem dX5_hanging_32 : decode cX5_hanging 32 = .ok (.iconst 0, 1) := by decide +kernel
theorem dX5_hanging_33 : decode cX5_hanging 33 = .ok (.iadd, 1) := by decide +kernel
theorem dX5_hanging_34 : decode cX5_hanging 34 = .ok (.istore_n 2, 1) := by decide +kernel
theorem dX5_hanging_35 : decode cX5_hanging 35 = .ok (.iinc 3 1, 3) := by decide +kernel
theorem dX5_hanging_38 : decode cX5_hanging 38 = .ok (.goto (-34), 3) := by decide +kernel
theorem dX5_hanging_41 : decode cX5_hanging 41 = .ok (.iload_n 2, 1) := by decide +kernel
theorem dX5_hanging_42 : decode cX5_hanging 42 = .ok (.ireturn, 1) := by decide +kernel
theorem dX5_depthOf_0 : decode cX5_depthOf 0 = .ok (.aload_n 0, 1) := by decide +kernel
theorem dX5_depthOf_1 : decode cX5_depthOf 1 = .ok (.getfield 7, 3) := by decide +kernel
theorem dX5_depthOf_4 : decode cX5_depthOf 4 = .ok (.bipush 98, 2) := by decide +kernel
theorem dX5_depthOf_6 : decode cX5_depthOf 6 = .ok (.iload_n 1, 1) := by decide +kernel
theorem dX5_depthOf_7 : decode cX5_depthOf 7 = .ok (.iadd, 1) := by decide +kernel
theorem dX5_depthOf_8 : decode cX5_depthOf 8 = .ok (.iaload, 1) := by decide +kernel
theorem dX5_depthOf_9 : decode cX5_depthOf 9 = .ok (.istore_n 2, 1) := by decide +kernel
theorem dX5_depthOf_10 : decode cX5_depthOf 10 = .ok (.iload_n 2, 1) := by decide +kernel
theorem dX5_depthOf_11 : decode cX5_depthOf 11 = .ok (.ifCond .ge 7, 3) := by decide +kernel
theorem dX5_depthOf_14 : decode cX5_depthOf 14 = .ok (.iconst 0, 1) := by decide +kernel
theorem dX5_depthOf_15 : decode cX5_depthOf 15 = .ok (.goto 20, 3) := by decide +kernel
theorem dX5_depthOf_18 : decode cX5_depthOf 18 = .ok (.aload_n 0, 1) := by decide +kernel
theorem dX5_depthOf_19 : decode cX5_depthOf 19 = .ok (.getfield 7, 3) := by decide +kernel
theorem dX5_depthOf_22 : decode cX5_depthOf 22 = .ok (.bipush 98, 2) := by decide +kernel
theorem dX5_depthOf_24 : decode cX5_depthOf 24 = .ok (.iload_n 2, 1) := by decide +kernel
theorem dX5_depthOf_25 : decode cX5_depthOf 25 = .ok (.iadd, 1) := by decide +kernel
theorem dX5_depthOf_26 : decode cX5_depthOf 26 = .ok (.iaload, 1) := by decide +kernel
theorem dX5_depthOf_27 : decode cX5_depthOf 27 = .ok (.ifCond .ge 7, 3) := by decide +kernel
theorem dX5_depthOf_30 : decode cX5_depthOf 30 = .ok (.iconst 1, 1) := by decide +kernel
theorem dX5_depthOf_31 : decode cX5_depthOf 31 = .ok (.goto 4, 3) := by decide +kernel
theorem dX5_depthOf_34 : decode cX5_depthOf 34 = .ok (.iconst 2, 1) := by decide +kernel
theorem dX5_depthOf_35 : decode cX5_depthOf 35 = .ok (.ireturn, 1) := by decide +kernel
theorem dX5_cord_0 : decode cX5_cord 0 = .ok (.aload_n 0, 1) := by decide +kernel
theorem dX5_cord_1 : decode cX5_cord 1 = .ok (.iload_n 1, 1) := by decide +kernel
theorem dX5_cord_2 : decode cX5_cord 2 = .ok (.invokevirtual 156, 3) := by decide +kernel
theorem dX5_cord_5 : decode cX5_cord 5 = .ok (.ifCond .ne 5, 3) := by decide +kernel
theorem dX5_cord_8 : decode cX5_cord 8 = .ok (.iconst (-1), 1) := by decide +kernel
theorem dX5_cord_9 : decode cX5_cord 9 = .ok (.ireturn, 1) := by decide +kernel
theorem dX5_cord_10 : decode cX5_cord 10 = .ok (.iload_n 2, 1) := by decide +kernel
theorem dX5_cord_11 : decode cX5_cord 11 = .ok (.tableswitch 157 0 10 #[57, 66, 76, 99, 109, 115, 121, 132, 138, 144, 151], 57) := by decide +kernel
theorem dX5_cord_68 : decode cX5_cord 68 = .ok (.aload_n 0, 1) := by decide +kernel
theorem dX5_cord_69 : decode cX5_cord 69 = .ok (.getfield 7, 3) := by decide +kernel
theorem dX5_cord_72 : decode cX5_cord 72 = .ok (.iconst 2, 1) := by decide +kernel
theorem dX5_cord_73 : decode cX5_cord 73 = .ok (.iload_n 1, 1) := by decide +kernel
theorem dX5_cord_74 : decode cX5_cord 74 = .ok (.iadd, 1) := by decide +kernel
theorem dX5_cord_75 : decode cX5_cord 75 = .ok (.iaload, 1) := by decide +kernel
theorem dX5_cord_76 : decode cX5_cord 76 = .ok (.ireturn, 1) := by decide +kernel
theorem dX5_cord_77 : decode cX5_cord 77 = .ok (.aload_n 0, 1) := by decide +kernel
theorem dX5_cord_78 : decode cX5_cord 78 = .ok (.getfield 7, 3) := by decide +kernel
theorem dX5_cord_81 : decode cX5_cord 81 = .ok (.bipush 18, 2) := by decide +kernel
theorem dX5_cord_83 : decode cX5_cord 83 = .ok (.iload_n 1, 1) := by decide +kernel
theorem dX5_cord_84 : decode cX5_cord 84 = .ok (.iadd, 1) := by decide +kernel
theorem dX5_cord_85 : decode cX5_cord 85 = .ok (.iaload, 1) := by decide +kernel
theorem dX5_cord_86 : decode cX5_cord 86 = .ok (.ireturn, 1) := by decide +kernel
theorem dX5_cord_87 : decode cX5_cord 87 = .ok (.aload_n 0, 1) := by decide +kernel
theorem dX5_cord_88 : decode cX5_cord 88 = .ok (.iload_n 1, 1) := by decide +kernel
theorem dX5_cord_89 : decode cX5_cord 89 = .ok (.invokevirtual 131, 3) := by decide +kernel
theorem dX5_cord_92 : decode cX5_cord 92 = .ok (.ifCond .eq 8, 3) := by decide +kernel
theorem dX5_cord_95 : decode cX5_cord 95 = .ok (.bipush (-4), 2) := by decide +kernel
theorem dX5_cord_97 : decode cX5_cord 97 = .ok (.goto 12, 3) := by decide +kernel
theorem dX5_cord_100 : decode cX5_cord 100 = .ok (.aload_n 0, 1) := by decide +kernel
theorem dX5_cord_101 : decode cX5_cord 101 = .ok (.getfield 7, 3) := by decide +kernel
theorem dX5_cord_104 : decode cX5_cord 104 = .ok (.bipush 98, 2) := by decide +kernel
theorem dX5_cord_106 : decode cX5_cord 106 = .ok (.iload_n 1, 1) := by decide +kernel
theorem dX5_cord_107 : decode cX5_cord 107 = .ok (.iadd, 1) := by decide +kernel
theorem dX5_cord_108 : decode cX5_cord 108 = .ok (.iaload, 1) := by decide +kernel
theorem dX5_cord_109 : decode cX5_cord 109 = .ok (.ireturn, 1) := by decide +kernel
theorem dX5_cord_110 : decode cX5_cord 110 = .ok (.aload_n 0, 1) := by decide +kernel
theorem dX5_cord_111 : decode cX5_cord 111 = .ok (.getfield 7, 3) := by decide +kernel
theorem dX5_cord_114 : decode cX5_cord 114 = .ok (.bipush 114, 2) := by decide +kernel
theorem dX5_cord_116 : decode cX5_cord 116 = .ok (.iload_n 1, 1) := by decide +kernel
theorem dX5_cord_117 : decode cX5_cord 117 = .ok (.iadd, 1) := by decide +kernel
theorem dX5_cord_118 : decode cX5_cord 118 = .ok (.iaload, 1) := by decide +kernel
theorem dX5_cord_119 : decode cX5_cord 119 = .ok (.ireturn, 1) := by decide +kernel
theorem dX5_cord_120 : decode cX5_cord 120 = .ok (.aload_n 0, 1) := by decide +kernel
theorem dX5_cord_121 : decode cX5_cord 121 = .ok (.iload_n 1, 1) := by decide +kernel
theorem dX5_cord_122 : decode cX5_cord 122 = .ok (.invokevirtual 159, 3) := by decide +kernel
theorem dX5_cord_125 : decode cX5_cord 125 = .ok (.ireturn, 1) := by decide +kernel
theorem dX5_cord_126 : decode cX5_cord 126 = .ok (.aload_n 0, 1) := by decide +kernel
theorem dX5_cord_127 : decode cX5_cord 127 = .ok (.iload_n 1, 1) := by decide +kernel
theorem dX5_cord_128 : decode cX5_cord 128 = .ok (.invokevirtual 162, 3) := by decide +kernel
theorem dX5_cord_131 : decode cX5_cord 131 = .ok (.ireturn, 1) := by decide +kernel
theorem dX5_cord_132 : decode cX5_cord 132 = .ok (.aload_n 0, 1) := by decide +kernel
theorem dX5_cord_133 : decode cX5_cord 133 = .ok (.getfield 7, 3) := by decide +kernel
theorem dX5_cord_136 : decode cX5_cord 136 = .ok (.sipush 130, 3) := by decide +kernel
theorem dX5_cord_139 : decode cX5_cord 139 = .ok (.iload_n 1, 1) := by decide +kernel
theorem dX5_cord_140 : decode cX5_cord 140 = .ok (.iadd, 1) := by decide +kernel
theorem dX5_cord_141 : decode cX5_cord 141 = .ok (.iaload, 1) := by decide +kernel
theorem dX5_cord_142 : decode cX5_cord 142 = .ok (.ireturn, 1) := by decide +kernel
theorem dX5_cord_143 : decode cX5_cord 143 = .ok (.aload_n 0, 1) := by decide +kernel
theorem dX5_cord_144 : decode cX5_cord 144 = .ok (.iload_n 1, 1) := by decide +kernel
theorem dX5_cord_145 : decode cX5_cord 145 = .ok (.invokevirtual 146, 3) := by decide +kernel
theorem dX5_cord_148 : decode cX5_cord 148 = .ok (.ireturn, 1) := by decide +kernel
theorem dX5_cord_149 : decode cX5_cord 149 = .ok (.aload_n 0, 1) := by decide +kernel
theorem dX5_cord_150 : decode cX5_cord 150 = .ok (.iload_n 1, 1) := by decide +kernel
theorem dX5_cord_151 : decode cX5_cord 151 = .ok (.invokevirtual 165, 3) := by decide +kernel
theorem dX5_cord_154 : decode cX5_cord 154 = .ok (.ireturn, 1) := by decide +kernel
theorem dX5_cord_155 : decode cX5_cord 155 = .ok (.aload_n 0, 1) := by decide +kernel
theorem dX5_cord_156 : decode cX5_cord 156 = .ok (.iload_n 1, 1) := by decide +kernel
theorem dX5_cord_157 : decode cX5_cord 157 = .ok (.iconst 1, 1) := by decide +kernel
theorem dX5_cord_158 : decode cX5_cord 158 = .ok (.invokevirtual 138, 3) := by decide +kernel
theorem dX5_cord_161 : decode cX5_cord 161 = .ok (.ireturn, 1) := by decide +kernel
theorem dX5_cord_162 : decode cX5_cord 162 = .ok (.aload_n 0, 1) := by decide +kernel
theorem dX5_cord_163 : decode cX5_cord 163 = .ok (.iload_n 1, 1) := by decide +kernel
theorem dX5_cord_164 : decode cX5_cord 164 = .ok (.invokevirtual 168, 3) := by decide +kernel
theorem dX5_cord_167 : decode cX5_cord 167 = .ok (.ireturn, 1) := by decide +kernel
theorem dX5_cord_168 : decode cX5_cord 168 = .ok (.iconst (-1), 1) := by decide +kernel
theorem dX5_cord_169 : decode cX5_cord 169 = .ok (.ireturn, 1) := by decide +kernel
theorem dX5_cluster_0 : decode cX5_cluster 0 = .ok (.aload_n 0, 1) := by decide +kernel
theorem dX5_cluster_1 : decode cX5_cluster 1 = .ok (.iload_n 1, 1) := by decide +kernel
theorem dX5_cluster_2 : decode cX5_cluster 2 = .ok (.invokevirtual 156, 3) := by decide +kernel
theorem dX5_cluster_5 : decode cX5_cluster 5 = .ok (.ifCond .eq 33, 3) := by decide +kernel
theorem dX5_cluster_8 : decode cX5_cluster 8 = .ok (.iload_n 2, 1) := by decide +kernel
theorem dX5_cluster_9 : decode cX5_cluster 9 = .ok (.i2l, 1) := by decide +kernel
theorem dX5_cluster_10 : decode cX5_cluster 10 = .ok (.lconst 0, 1) := by decide +kernel
theorem dX5_cluster_11 : decode cX5_cluster 11 = .ok (.aload_n 0, 1) := by decide +kernel
theorem dX5_cluster_12 : decode cX5_cluster 12 = .ok (.getfield 7, 3) := by decide +kernel
theorem dX5_cluster_15 : decode cX5_cluster 15 = .ok (.bipush 18, 2) := by decide +kernel
theorem dX5_cluster_17 : decode cX5_cluster 17 = .ok (.iload_n 1, 1) := by decide +kernel
theorem dX5_cluster_18 : decode cX5_cluster 18 = .ok (.iadd, 1) := by decide +kernel
theorem dX5_cluster_19 : decode cX5_cluster 19 = .ok (.iaload, 1) := by decide +kernel
theorem dX5_cluster_20 : decode cX5_cluster 20 = .ok (.iconst 1, 1) := by decide +kernel
theorem dX5_cluster_21 : decode cX5_cluster 21 = .ok (.isub, 1) := by decide +kernel
theorem dX5_cluster_22 : decode cX5_cluster 22 = .ok (.i2l, 1) := by decide +kernel
theorem dX5_cluster_23 : decode cX5_cluster 23 = .ok (.invokestatic 54, 3) := by decide +kernel
theorem dX5_cluster_26 : decode cX5_cluster 26 = .ok (.ifCond .eq 12, 3) := by decide +kernel
theorem dX5_cluster_29 : decode cX5_cluster 29 = .ok (.aload_n 0, 1) := by decide +kernel
theorem dX5_cluster_30 : decode cX5_cluster 30 = .ok (.iload_n 1, 1) := by decide +kernel
theorem dX5_cluster_31 : decode cX5_cluster 31 = .ok (.iload_n 2, 1) := by decide +kernel
theorem dX5_cluster_32 : decode cX5_cluster 32 = .ok (.invokevirtual 134, 3) := by decide +kernel
theorem dX5_cluster_35 : decode cX5_cluster 35 = .ok (.goto 4, 3) := by decide +kernel
theorem dX5_cluster_38 : decode cX5_cluster 38 = .ok (.iconst (-1), 1) := by decide +kernel
theorem dX5_cluster_39 : decode cX5_cluster 39 = .ok (.ireturn, 1) := by decide +kernel
theorem dX5_topOf_0 : decode cX5_topOf 0 = .ok (.bipush (-4), 2) := by decide +kernel
theorem dX5_topOf_2 : decode cX5_topOf 2 = .ok (.istore_n 2, 1) := by decide +kernel
theorem dX5_topOf_3 : decode cX5_topOf 3 = .ok (.iconst 0, 1) := by decide +kernel
theorem dX5_topOf_4 : decode cX5_topOf 4 = .ok (.istore_n 3, 1) := by decide +kernel
theorem dX5_topOf_5 : decode cX5_topOf 5 = .ok (.iload_n 3, 1) := by decide +kernel
theorem dX5_topOf_6 : decode cX5_topOf 6 = .ok (.aload_n 0, 1) := by decide +kernel
theorem dX5_topOf_7 : decode cX5_topOf 7 = .ok (.getfield 7, 3) := by decide +kernel
theorem dX5_topOf_10 : decode cX5_topOf 10 = .ok (.iconst 0, 1) := by decide +kernel
theorem dX5_topOf_11 : decode cX5_topOf 11 = .ok (.iaload, 1) := by decide +kernel
theorem dX5_topOf_12 : decode cX5_topOf 12 = .ok (.if_icmp .ge 42, 3) := by decide +kernel
theorem dX5_topOf_15 : decode cX5_topOf 15 = .ok (.aload_n 0, 1) := by decide +kernel
theorem dX5_topOf_16 : decode cX5_topOf 16 = .ok (.getfield 7, 3) := by decide +kernel
theorem dX5_topOf_19 : decode cX5_topOf 19 = .ok (.sipush 130, 3) := by decide +kernel
theorem dX5_topOf_22 : decode cX5_topOf 22 = .ok (.iload_n 3, 1) := by decide +kernel
theorem dX5_topOf_23 : decode cX5_topOf 23 = .ok (.iadd, 1) := by decide +kernel
theorem dX5_topOf_24 : decode cX5_topOf 24 = .ok (.iaload, 1) := by decide +kernel
theorem dX5_topOf_25 : decode cX5_topOf 25 = .ok (.iconst 1, 1) := by decide +kernel
theorem dX5_topOf_26 : decode cX5_topOf 26 = .ok (.if_icmp .ne 20, 3) := by decide +kernel
theorem dX5_topOf_29 : decode cX5_topOf 29 = .ok (.aload_n 0, 1) := by decide +kernel
theorem dX5_topOf_30 : decode cX5_topOf 30 = .ok (.getfield 7, 3) := by decide +kernel
theorem dX5_topOf_33 : decode cX5_topOf 33 = .ok (.bipush 114, 2) := by decide +kernel
theorem dX5_topOf_35 : decode cX5_topOf 35 = .ok (.iload_n 3, 1) := by decide +kernel
theorem dX5_topOf_36 : decode cX5_topOf 36 = .ok (.iadd, 1) := by decide +kernel
theorem dX5_topOf_37 : decode cX5_topOf 37 = .ok (.iaload, 1) := by decide +kernel
theorem dX5_topOf_38 : decode cX5_topOf 38 = .ok (.iload_n 1, 1) := by decide +kernel
theorem dX5_topOf_39 : decode cX5_topOf 39 = .ok (.if_icmp .ne 7, 3) := by decide +kernel
theorem dX5_topOf_42 : decode cX5_topOf 42 = .ok (.iload_n 3, 1) := by decide +kernel
theorem dX5_topOf_43 : decode cX5_topOf 43 = .ok (.goto 4, 3) := by decide +kernel
theorem dX5_topOf_46 : decode cX5_topOf 46 = .ok (.iload_n 2, 1) := by decide +kernel
theorem dX5_topOf_47 : decode cX5_topOf 47 = .ok (.istore_n 2, 1) := by decide +kernel
theorem dX5_topOf_48 : decode cX5_topOf 48 = .ok (.iinc 3 1, 3) := by decide +kernel
theorem dX5_topOf_51 : decode cX5_topOf 51 = .ok (.goto (-46), 3) := by decide +kernel
theorem dX5_topOf_54 : decode cX5_topOf 54 = .ok (.iload_n 2, 1) := by decide +kernel
theorem dX5_topOf_55 : decode cX5_topOf 55 = .ok (.ireturn, 1) := by decide +kernel
theorem dX5_isOf_0 : decode cX5_isOf 0 = .ok (.aload_n 0, 1) := by decide +kernel
theorem dX5_isOf_1 : decode cX5_isOf 1 = .ok (.iload_n 1, 1) := by decide +kernel
theorem dX5_isOf_2 : decode cX5_isOf 2 = .ok (.invokevirtual 170, 3) := by decide +kernel
theorem dX5_isOf_5 : decode cX5_isOf 5 = .ok (.ifCond .eq 25, 3) := by decide +kernel
theorem dX5_isOf_8 : decode cX5_isOf 8 = .ok (.iload_n 2, 1) := by decide +kernel
theorem dX5_isOf_9 : decode cX5_isOf 9 = .ok (.iconst 5, 1) := by decide +kernel
theorem dX5_isOf_10 : decode cX5_isOf 10 = .ok (.if_icmp .eq 16, 3) := by decide +kernel
theorem dX5_isOf_13 : decode cX5_isOf 13 = .ok (.aload_n 0, 1) := by decide +kernel
theorem dX5_isOf_14 : decode cX5_isOf 14 = .ok (.getfield 7, 3) := by decide +kernel
theorem dX5_isOf_17 : decode cX5_isOf 17 = .ok (.bipush 114, 2) := by decide +kernel
theorem dX5_isOf_19 : decode cX5_isOf 19 = .ok (.iload_n 1, 1) := by decide +kernel
theorem dX5_isOf_20 : decode cX5_isOf 20 = .ok (.iadd, 1) := by decide +kernel
theorem dX5_isOf_21 : decode cX5_isOf 21 = .ok (.iaload, 1) := by decide +kernel
theorem dX5_isOf_22 : decode cX5_isOf 22 = .ok (.iload_n 2, 1) := by decide +kernel
theorem dX5_isOf_23 : decode cX5_isOf 23 = .ok (.if_icmp .ne 7, 3) := by decide +kernel
theorem dX5_isOf_26 : decode cX5_isOf 26 = .ok (.iconst 1, 1) := by decide +kernel
theorem dX5_isOf_27 : decode cX5_isOf 27 = .ok (.goto 4, 3) := by decide +kernel
theorem dX5_isOf_30 : decode cX5_isOf 30 = .ok (.iconst 0, 1) := by decide +kernel
theorem dX5_isOf_31 : decode cX5_isOf 31 = .ok (.ireturn, 1) := by decide +kernel
theorem dX5_manyOf_0 : decode cX5_manyOf 0 = .ok (.iconst 0, 1) := by decide +kernel
theorem dX5_manyOf_1 : decode cX5_manyOf 1 = .ok (.istore_n 2, 1) := by decide +kernel
theorem dX5_manyOf_2 : decode cX5_manyOf 2 = .ok (.iconst 0, 1) := by decide +kernel
theorem dX5_manyOf_3 : decode cX5_manyOf 3 = .ok (.istore_n 3, 1) := by decide +kernel
theorem dX5_manyOf_4 : decode cX5_manyOf 4 = .ok (.iload_n 3, 1) := by decide +kernel
theorem dX5_manyOf_5 : decode cX5_manyOf 5 = .ok (.aload_n 0, 1) := by decide +kernel
theorem dX5_manyOf_6 : decode cX5_manyOf 6 = .ok (.getfield 7, 3) := by decide +kernel
theorem dX5_manyOf_9 : decode cX5_manyOf 9 = .ok (.iconst 0, 1) := by decide +kernel
theorem dX5_manyOf_10 : decode cX5_manyOf 10 = .ok (.iaload, 1) := by decide +kernel
theorem dX5_manyOf_11 : decode cX5_manyOf 11 = .ok (.if_icmp .ge 26, 3) := by decide +kernel
theorem dX5_manyOf_14 : decode cX5_manyOf 14 = .ok (.iload_n 2, 1) := by decide +kernel
theorem dX5_manyOf_15 : decode cX5_manyOf 15 = .ok (.aload_n 0, 1) := by decide +kernel
theorem dX5_manyOf_16 : decode cX5_manyOf 16 = .ok (.iload_n 3, 1) := by decide +kernel
theorem dX5_manyOf_17 : decode cX5_manyOf 17 = .ok (.iload_n 1, 1) := by decide +kernel
theorem dX5_manyOf_18 : decode cX5_manyOf 18 = .ok (.invokevirtual 173, 3) := by decide +kernel
theorem dX5_manyOf_21 : decode cX5_manyOf 21 = .ok (.ifCond .eq 7, 3) := by decide +kernel
theorem dX5_manyOf_24 : decode cX5_manyOf 24 = .ok (.iconst 1, 1) := by decide +kernel
theorem dX5_manyOf_25 : decode cX5_manyOf 25 = .ok (.goto 4, 3) := by decide +kernel
theorem dX5_manyOf_28 : decode cX5_manyOf 28 = .ok (.iconst 0, 1) := by decide +kernel
theorem dX5_manyOf_29 : decode cX5_manyOf 29 = .ok (.iadd, 1) := by decide +kernel
theorem dX5_manyOf_30 : decode cX5_manyOf 30 = .ok (.istore_n 2, 1) := by decide +kernel
theorem dX5_manyOf_31 : decode cX5_manyOf 31 = .ok (.iinc 3 1, 3) := by decide +kernel
theorem dX5_manyOf_34 : decode cX5_manyOf 34 = .ok (.goto (-30), 3) := by decide +kernel
theorem dX5_manyOf_37 : decode cX5_manyOf 37 = .ok (.iload_n 2, 1) := by decide +kernel
theorem dX5_manyOf_38 : decode cX5_manyOf 38 = .ok (.ireturn, 1) := by decide +kernel
theorem dX5_sumOf_0 : decode cX5_sumOf 0 = .ok (.iconst 0, 1) := by decide +kernel
theorem dX5_sumOf_1 : decode cX5_sumOf 1 = .ok (.istore_n 2, 1) := by decide +kernel
theorem dX5_sumOf_2 : decode cX5_sumOf 2 = .ok (.iconst 0, 1) := by decide +kernel
theorem dX5_sumOf_3 : decode cX5_sumOf 3 = .ok (.istore_n 3, 1) := by decide +kernel
theorem dX5_sumOf_4 : decode cX5_sumOf 4 = .ok (.iload_n 3, 1) := by decide +kernel
theorem dX5_sumOf_5 : decode cX5_sumOf 5 = .ok (.aload_n 0, 1) := by decide +kernel
theorem dX5_sumOf_6 : decode cX5_sumOf 6 = .ok (.getfield 7, 3) := by decide +kernel
theorem dX5_sumOf_9 : decode cX5_sumOf 9 = .ok (.iconst 0, 1) := by decide +kernel
theorem dX5_sumOf_10 : decode cX5_sumOf 10 = .ok (.iaload, 1) := by decide +kernel
theorem dX5_sumOf_11 : decode cX5_sumOf 11 = .ok (.if_icmp .ge 39, 3) := by decide +kernel
theorem dX5_sumOf_14 : decode cX5_sumOf 14 = .ok (.aload_n 0, 1) := by decide +kernel
theorem dX5_sumOf_15 : decode cX5_sumOf 15 = .ok (.iload_n 3, 1) := by decide +kernel
theorem dX5_sumOf_16 : decode cX5_sumOf 16 = .ok (.iload_n 1, 1) := by decide +kernel
theorem dX5_sumOf_17 : decode cX5_sumOf 17 = .ok (.invokevirtual 173, 3) := by decide +kernel
theorem dX5_sumOf_20 : decode cX5_sumOf 20 = .ok (.ifCond .eq 24, 3) := by decide +kernel
theorem dX5_sumOf_23 : decode cX5_sumOf 23 = .ok (.aload_n 0, 1) := by decide +kernel
theorem dX5_sumOf_24 : decode cX5_sumOf 24 = .ok (.iload_n 3, 1) := by decide +kernel
theorem dX5_sumOf_25 : decode cX5_sumOf 25 = .ok (.invokevirtual 165, 3) := by decide +kernel
theorem dX5_sumOf_28 : decode cX5_sumOf 28 = .ok (.bipush (-4), 2) := by decide +kernel
theorem dX5_sumOf_30 : decode cX5_sumOf 30 = .ok (.if_icmp .ne 6, 3) := by decide +kernel
theorem dX5_sumOf_33 : decode cX5_sumOf 33 = .ok (.bipush (-4), 2) := by decide +kernel
theorem dX5_sumOf_35 : decode cX5_sumOf 35 = .ok (.ireturn, 1) := by decide +kernel
theorem dX5_sumOf_36 : decode cX5_sumOf 36 = .ok (.iload_n 2, 1) := by decide +kernel
theorem dX5_sumOf_37 : decode cX5_sumOf 37 = .ok (.aload_n 0, 1) := by decide +kernel
theorem dX5_sumOf_38 : decode cX5_sumOf 38 = .ok (.iload_n 3, 1) := by decide +kernel
theorem dX5_sumOf_39 : decode cX5_sumOf 39 = .ok (.invokevirtual 165, 3) := by decide +kernel
theorem dX5_sumOf_42 : decode cX5_sumOf 42 = .ok (.iadd, 1) := by decide +kernel
theorem dX5_sumOf_43 : decode cX5_sumOf 43 = .ok (.istore_n 2, 1) := by decide +kernel
theorem dX5_sumOf_44 : decode cX5_sumOf 44 = .ok (.iinc 3 1, 3) := by decide +kernel
theorem dX5_sumOf_47 : decode cX5_sumOf 47 = .ok (.goto (-43), 3) := by decide +kernel
theorem dX5_sumOf_50 : decode cX5_sumOf 50 = .ok (.iload_n 2, 1) := by decide +kernel
theorem dX5_sumOf_51 : decode cX5_sumOf 51 = .ok (.ireturn, 1) := by decide +kernel
theorem dX5_wrongBy_0 : decode cX5_wrongBy 0 = .ok (.aload_n 0, 1) := by decide +kernel
theorem dX5_wrongBy_1 : decode cX5_wrongBy 1 = .ok (.iload_n 1, 1) := by decide +kernel
theorem dX5_wrongBy_2 : decode cX5_wrongBy 2 = .ok (.invokevirtual 176, 3) := by decide +kernel
theorem dX5_wrongBy_5 : decode cX5_wrongBy 5 = .ok (.istore_n 2, 1) := by decide +kernel
theorem dX5_wrongBy_6 : decode cX5_wrongBy 6 = .ok (.iload_n 2, 1) := by decide +kernel
theorem dX5_wrongBy_7 : decode cX5_wrongBy 7 = .ok (.bipush (-4), 2) := by decide +kernel
theorem dX5_wrongBy_9 : decode cX5_wrongBy 9 = .ok (.if_icmp .eq 23, 3) := by decide +kernel
theorem dX5_wrongBy_12 : decode cX5_wrongBy 12 = .ok (.aload_n 0, 1) := by decide +kernel
theorem dX5_wrongBy_13 : decode cX5_wrongBy 13 = .ok (.iload_n 2, 1) := by decide +kernel
theorem dX5_wrongBy_14 : decode cX5_wrongBy 14 = .ok (.invokevirtual 165, 3) := by decide +kernel
theorem dX5_wrongBy_17 : decode cX5_wrongBy 17 = .ok (.bipush (-4), 2) := by decide +kernel
theorem dX5_wrongBy_19 : decode cX5_wrongBy 19 = .ok (.if_icmp .eq 13, 3) := by decide +kernel
theorem dX5_wrongBy_22 : decode cX5_wrongBy 22 = .ok (.aload_n 0, 1) := by decide +kernel
theorem dX5_wrongBy_23 : decode cX5_wrongBy 23 = .ok (.iload_n 1, 1) := by decide +kernel
theorem dX5_wrongBy_24 : decode cX5_wrongBy 24 = .ok (.invokevirtual 179, 3) := by decide +kernel
theorem dX5_wrongBy_27 : decode cX5_wrongBy 27 = .ok (.bipush (-4), 2) := by decide +kernel
theorem dX5_wrongBy_29 : decode cX5_wrongBy 29 = .ok (.if_icmp .ne 6, 3) := by decide +kernel
theorem dX5_wrongBy_32 : decode cX5_wrongBy 32 = .ok (.bipush (-4), 2) := by decide +kernel
theorem dX5_wrongBy_34 : decode cX5_wrongBy 34 = .ok (.ireturn, 1) := by decide +kernel
theorem dX5_wrongBy_35 : decode cX5_wrongBy 35 = .ok (.aload_n 0, 1) := by decide +kernel
theorem dX5_wrongBy_36 : decode cX5_wrongBy 36 = .ok (.iload_n 1, 1) := by decide +kernel
theorem dX5_wrongBy_37 : decode cX5_wrongBy 37 = .ok (.invokevirtual 179, 3) := by decide +kernel
theorem dX5_wrongBy_40 : decode cX5_wrongBy 40 = .ok (.aload_n 0, 1) := by decide +kernel
theorem dX5_wrongBy_41 : decode cX5_wrongBy 41 = .ok (.iload_n 2, 1) := by decide +kernel
theorem dX5_wrongBy_42 : decode cX5_wrongBy 42 = .ok (.invokevirtual 165, 3) := by decide +kernel
theorem dX5_wrongBy_45 : decode cX5_wrongBy 45 = .ok (.isub, 1) := by decide +kernel
theorem dX5_wrongBy_46 : decode cX5_wrongBy 46 = .ok (.ldc 182, 2) := by decide +kernel
theorem dX5_wrongBy_48 : decode cX5_wrongBy 48 = .ok (.iadd, 1) := by decide +kernel
theorem dX5_wrongBy_49 : decode cX5_wrongBy 49 = .ok (.ireturn, 1) := by decide +kernel
theorem dX5_group_0 : decode cX5_group 0 = .ok (.aload_n 0, 1) := by decide +kernel
theorem dX5_group_1 : decode cX5_group 1 = .ok (.iload_n 1, 1) := by decide +kernel
theorem dX5_group_2 : decode cX5_group 2 = .ok (.invokevirtual 183, 3) := by decide +kernel
theorem dX5_group_5 : decode cX5_group 5 = .ok (.ifCond .ne 5, 3) := by decide +kernel
theorem dX5_group_8 : decode cX5_group 8 = .ok (.iconst (-1), 1) := by decide +kernel
theorem dX5_group_9 : decode cX5_group 9 = .ok (.ireturn, 1) := by decide +kernel
theorem dX5_group_10 : decode cX5_group 10 = .ok (.iload_n 2, 1) := by decide +kernel
theorem dX5_group_11 : decode cX5_group 11 = .ok (.tableswitch 63 0 3 #[29, 35, 41, 47], 29) := by decide +kernel
theorem dX5_group_40 : decode cX5_group 40 = .ok (.aload_n 0, 1) := by decide +kernel
theorem dX5_group_41 : decode cX5_group 41 = .ok (.iload_n 1, 1) := by decide +kernel
theorem dX5_group_42 : decode cX5_group 42 = .ok (.invokevirtual 186, 3) := by decide +kernel
theorem dX5_group_45 : decode cX5_group 45 = .ok (.ireturn, 1) := by decide +kernel
theorem dX5_group_46 : decode cX5_group 46 = .ok (.aload_n 0, 1) := by decide +kernel
theorem dX5_group_47 : decode cX5_group 47 = .ok (.iload_n 1, 1) := by decide +kernel
theorem dX5_group_48 : decode cX5_group 48 = .ok (.invokevirtual 176, 3) := by decide +kernel
theorem dX5_group_51 : decode cX5_group 51 = .ok (.ireturn, 1) := by decide +kernel
theorem dX5_group_52 : decode cX5_group 52 = .ok (.aload_n 0, 1) := by decide +kernel
theorem dX5_group_53 : decode cX5_group 53 = .ok (.iload_n 1, 1) := by decide +kernel
theorem dX5_group_54 : decode cX5_group 54 = .ok (.invokevirtual 179, 3) := by decide +kernel
theorem dX5_group_57 : decode cX5_group 57 = .ok (.ireturn, 1) := by decide +kernel
theorem dX5_group_58 : decode cX5_group 58 = .ok (.aload_n 0, 1) := by decide +kernel
theorem dX5_group_59 : decode cX5_group 59 = .ok (.iload_n 1, 1) := by decide +kernel
theorem dX5_group_60 : decode cX5_group 60 = .ok (.invokevirtual 189, 3) := by decide +kernel
theorem dX5_group_63 : decode cX5_group 63 = .ok (.ldc 182, 2) := by decide +kernel
theorem dX5_group_65 : decode cX5_group 65 = .ok (.if_icmp .ne 7, 3) := by decide +kernel
theorem dX5_group_68 : decode cX5_group 68 = .ok (.iconst 1, 1) := by decide +kernel
theorem dX5_group_69 : decode cX5_group 69 = .ok (.goto 4, 3) := by decide +kernel
theorem dX5_group_72 : decode cX5_group 72 = .ok (.iconst 0, 1) := by decide +kernel
theorem dX5_group_73 : decode cX5_group 73 = .ok (.ireturn, 1) := by decide +kernel
theorem dX5_group_74 : decode cX5_group 74 = .ok (.iconst (-1), 1) := by decide +kernel
theorem dX5_group_75 : decode cX5_group 75 = .ok (.ireturn, 1) := by decide +kernel
theorem dX5_pendantAt_0 : decode cX5_pendantAt 0 = .ok (.iconst 0, 1) := by decide +kernel
theorem dX5_pendantAt_1 : decode cX5_pendantAt 1 = .ok (.istore_n 3, 1) := by decide +kernel
theorem dX5_pendantAt_2 : decode cX5_pendantAt 2 = .ok (.iload_n 3, 1) := by decide +kernel
theorem dX5_pendantAt_3 : decode cX5_pendantAt 3 = .ok (.aload_n 0, 1) := by decide +kernel
theorem dX5_pendantAt_4 : decode cX5_pendantAt 4 = .ok (.getfield 7, 3) := by decide +kernel
theorem dX5_pendantAt_7 : decode cX5_pendantAt 7 = .ok (.iconst 0, 1) := by decide +kernel
theorem dX5_pendantAt_8 : decode cX5_pendantAt 8 = .ok (.iaload, 1) := by decide +kernel
theorem dX5_pendantAt_9 : decode cX5_pendantAt 9 = .ok (.if_icmp .ge 93, 3) := by decide +kernel
theorem dX5_pendantAt_12 : decode cX5_pendantAt 12 = .ok (.aload_n 0, 1) := by decide +kernel
theorem dX5_pendantAt_13 : decode cX5_pendantAt 13 = .ok (.iload_n 3, 1) := by decide +kernel
theorem dX5_pendantAt_14 : decode cX5_pendantAt 14 = .ok (.iload_n 1, 1) := by decide +kernel
theorem dX5_pendantAt_15 : decode cX5_pendantAt 15 = .ok (.invokevirtual 173, 3) := by decide +kernel
theorem dX5_pendantAt_18 : decode cX5_pendantAt 18 = .ok (.ifCond .eq 78, 3) := by decide +kernel
theorem dX5_pendantAt_21 : decode cX5_pendantAt 21 = .ok (.iconst 0, 1) := by decide +kernel
theorem dX5_pendantAt_22 : decode cX5_pendantAt 22 = .ok (.istore 4, 2) := by decide +kernel
theorem dX5_pendantAt_24 : decode cX5_pendantAt 24 = .ok (.iconst 0, 1) := by decide +kernel
theorem dX5_pendantAt_25 : decode cX5_pendantAt 25 = .ok (.istore 5, 2) := by decide +kernel
theorem dX5_pendantAt_27 : decode cX5_pendantAt 27 = .ok (.iload 5, 2) := by decide +kernel
theorem dX5_pendantAt_29 : decode cX5_pendantAt 29 = .ok (.aload_n 0, 1) := by decide +kernel
theorem dX5_pendantAt_30 : decode cX5_pendantAt 30 = .ok (.getfield 7, 3) := by decide +kernel
theorem dX5_pendantAt_33 : decode cX5_pendantAt 33 = .ok (.iconst 0, 1) := by decide +kernel
theorem dX5_pendantAt_34 : decode cX5_pendantAt 34 = .ok (.iaload, 1) := by decide +kernel
theorem dX5_pendantAt_35 : decode cX5_pendantAt 35 = .ok (.if_icmp .ge 53, 3) := by decide +kernel
theorem dX5_pendantAt_38 : decode cX5_pendantAt 38 = .ok (.iload 4, 2) := by decide +kernel
theorem dX5_pendantAt_40 : decode cX5_pendantAt 40 = .ok (.aload_n 0, 1) := by decide +kernel
theorem dX5_pendantAt_41 : decode cX5_pendantAt 41 = .ok (.iload 5, 2) := by decide +kernel
theorem dX5_pendantAt_43 : decode cX5_pendantAt 43 = .ok (.iload_n 1, 1) := by decide +kernel
theorem dX5_pendantAt_44 : decode cX5_pendantAt 44 = .ok (.invokevirtual 173, 3) := by decide +kernel
theorem dX5_pendantAt_47 : decode cX5_pendantAt 47 = .ok (.ifCond .eq 31, 3) := by decide +kernel
theorem dX5_pendantAt_50 : decode cX5_pendantAt 50 = .ok (.aload_n 0, 1) := by decide +kernel
theorem dX5_pendantAt_51 : decode cX5_pendantAt 51 = .ok (.getfield 7, 3) := by decide +kernel
theorem dX5_pendantAt_54 : decode cX5_pendantAt 54 = .ok (.sipush 146, 3) := by decide +kernel
theorem dX5_pendantAt_57 : decode cX5_pendantAt 57 = .ok (.iload 5, 2) := by decide +kernel
theorem dX5_pendantAt_59 : decode cX5_pendantAt 59 = .ok (.iadd, 1) := by decide +kernel
theorem dX5_pendantAt_60 : decode cX5_pendantAt 60 = .ok (.iaload, 1) := by decide +kernel
theorem dX5_pendantAt_61 : decode cX5_pendantAt 61 = .ok (.aload_n 0, 1) := by decide +kernel
theorem dX5_pendantAt_62 : decode cX5_pendantAt 62 = .ok (.getfield 7, 3) := by decide +kernel
theorem dX5_pendantAt_65 : decode cX5_pendantAt 65 = .ok (.sipush 146, 3) := by decide +kernel
theorem dX5_pendantAt_68 : decode cX5_pendantAt 68 = .ok (.iload_n 3, 1) := by decide +kernel
theorem dX5_pendantAt_69 : decode cX5_pendantAt 69 = .ok (.iadd, 1) := by decide +kernel
theorem dX5_pendantAt_70 : decode cX5_pendantAt 70 = .ok (.iaload, 1) := by decide +kernel
theorem dX5_pendantAt_71 : decode cX5_pendantAt 71 = .ok (.if_icmp .ge 7, 3) := by decide +kernel
theorem dX5_pendantAt_74 : decode cX5_pendantAt 74 = .ok (.iconst 1, 1) := by decide +kernel
theorem dX5_pendantAt_75 : decode cX5_pendantAt 75 = .ok (.goto 4, 3) := by decide +kernel
theorem dX5_pendantAt_78 : decode cX5_pendantAt 78 = .ok (.iconst 0, 1) := by decide +kernel
theorem dX5_pendantAt_79 : decode cX5_pendantAt 79 = .ok (.iadd, 1) := by decide +kernel
theorem dX5_pendantAt_80 : decode cX5_pendantAt 80 = .ok (.istore 4, 2) := by decide +kernel
theorem dX5_pendantAt_82 : decode cX5_pendantAt 82 = .ok (.iinc 5 1, 3) := by decide +kernel
theorem dX5_pendantAt_85 : decode cX5_pendantAt 85 = .ok (.goto (-58), 3) := by decide +kernel
theorem dX5_pendantAt_88 : decode cX5_pendantAt 88 = .ok (.iload 4, 2) := by decide +kernel
theorem dX5_pendantAt_90 : decode cX5_pendantAt 90 = .ok (.iload_n 2, 1) := by decide +kernel
theorem dX5_pendantAt_91 : decode cX5_pendantAt 91 = .ok (.if_icmp .ne 5, 3) := by decide +kernel
theorem dX5_pendantAt_94 : decode cX5_pendantAt 94 = .ok (.iload_n 3, 1) := by decide +kernel
theorem dX5_pendantAt_95 : decode cX5_pendantAt 95 = .ok (.ireturn, 1) := by decide +kernel
theorem dX5_pendantAt_96 : decode cX5_pendantAt 96 = .ok (.iinc 3 1, 3) := by decide +kernel
theorem dX5_pendantAt_99 : decode cX5_pendantAt 99 = .ok (.goto (-97), 3) := by decide +kernel
theorem dX5_pendantAt_102 : decode cX5_pendantAt 102 = .ok (.bipush (-4), 2) := by decide +kernel
theorem dX5_pendantAt_104 : decode cX5_pendantAt 104 = .ok (.ireturn, 1) := by decide +kernel
theorem dX5_pendant_0 : decode cX5_pendant 0 = .ok (.aload_n 0, 1) := by decide +kernel
theorem dX5_pendant_1 : decode cX5_pendant 1 = .ok (.iload_n 1, 1) := by decide +kernel
theorem dX5_pendant_2 : decode cX5_pendant 2 = .ok (.invokevirtual 183, 3) := by decide +kernel
theorem dX5_pendant_5 : decode cX5_pendant 5 = .ok (.ifCond .eq 16, 3) := by decide +kernel
theorem dX5_pendant_8 : decode cX5_pendant 8 = .ok (.iload_n 2, 1) := by decide +kernel
theorem dX5_pendant_9 : decode cX5_pendant 9 = .ok (.ifCond .lt 12, 3) := by decide +kernel
theorem dX5_pendant_12 : decode cX5_pendant 12 = .ok (.aload_n 0, 1) := by decide +kernel
theorem dX5_pendant_13 : decode cX5_pendant 13 = .ok (.iload_n 1, 1) := by decide +kernel
theorem dX5_pendant_14 : decode cX5_pendant 14 = .ok (.iload_n 2, 1) := by decide +kernel
theorem dX5_pendant_15 : decode cX5_pendant 15 = .ok (.invokevirtual 192, 3) := by decide +kernel
theorem dX5_pendant_18 : decode cX5_pendant 18 = .ok (.goto 4, 3) := by decide +kernel
theorem dX5_pendant_21 : decode cX5_pendant 21 = .ok (.iconst (-1), 1) := by decide +kernel
theorem dX5_pendant_22 : decode cX5_pendant 22 = .ok (.ireturn, 1) := by decide +kernel
theorem dX5_remember_0 : decode cX5_remember 0 = .ok (.aload_n 0, 1) := by decide +kernel
theorem dX5_remember_1 : decode cX5_remember 1 = .ok (.getfield 122, 3) := by decide +kernel
theorem dX5_remember_4 : decode cX5_remember 4 = .ok (.bipush 8, 2) := by decide +kernel
theorem dX5_remember_6 : decode cX5_remember 6 = .ok (.if_icmp .ne 44, 3) := by decide +kernel
theorem dX5_remember_9 : decode cX5_remember 9 = .ok (.iconst 0, 1) := by decide +kernel
theorem dX5_remember_10 : decode cX5_remember 10 = .ok (.istore_n 1, 1) := by decide +kernel
theorem dX5_remember_11 : decode cX5_remember 11 = .ok (.iload_n 1, 1) := by decide +kernel
theorem dX5_remember_12 : decode cX5_remember 12 = .ok (.sipush 1134, 3) := by decide +kernel
theorem dX5_remember_15 : decode cX5_remember 15 = .ok (.if_icmp .ge 25, 3) := by decide +kernel
theorem dX5_remember_18 : decode cX5_remember 18 = .ok (.aload_n 0, 1) := by decide +kernel
theorem dX5_remember_19 : decode cX5_remember 19 = .ok (.getfield 13, 3) := by decide +kernel
theorem dX5_remember_22 : decode cX5_remember 22 = .ok (.iload_n 1, 1) := by decide +kernel
theorem dX5_remember_23 : decode cX5_remember 23 = .ok (.aload_n 0, 1) := by decide +kernel
theorem dX5_remember_24 : decode cX5_remember 24 = .ok (.getfield 13, 3) := by decide +kernel
theorem dX5_remember_27 : decode cX5_remember 27 = .ok (.iload_n 1, 1) := by decide +kernel
theorem dX5_remember_28 : decode cX5_remember 28 = .ok (.sipush 162, 3) := by decide +kernel
theorem dX5_remember_31 : decode cX5_remember 31 = .ok (.iadd, 1) := by decide +kernel
theorem dX5_remember_32 : decode cX5_remember 32 = .ok (.iaload, 1) := by decide +kernel
theorem dX5_remember_33 : decode cX5_remember 33 = .ok (.iastore, 1) := by decide +kernel
theorem dX5_remember_34 : decode cX5_remember 34 = .ok (.iinc 1 1, 3) := by decide +kernel
theorem dX5_remember_37 : decode cX5_remember 37 = .ok (.goto (-26), 3) := by decide +kernel
theorem dX5_remember_40 : decode cX5_remember 40 = .ok (.aload_n 0, 1) := by decide +kernel
theorem dX5_remember_41 : decode cX5_remember 41 = .ok (.dup, 1) := by decide +kernel
theorem dX5_remember_42 : decode cX5_remember 42 = .ok (.getfield 122, 3) := by decide +kernel
theorem dX5_remember_45 : decode cX5_remember 45 = .ok (.iconst 1, 1) := by decide +kernel
theorem dX5_remember_46 : decode cX5_remember 46 = .ok (.isub, 1) := by decide +kernel
theorem dX5_remember_47 : decode cX5_remember 47 = .ok (.putfield 122, 3) := by decide +kernel
theorem dX5_remember_50 : decode cX5_remember 50 = .ok (.aload_n 0, 1) := by decide +kernel
theorem dX5_remember_51 : decode cX5_remember 51 = .ok (.getfield 7, 3) := by decide +kernel
theorem dX5_remember_54 : decode cX5_remember 54 = .ok (.iconst 0, 1) := by decide +kernel
theorem dX5_remember_55 : decode cX5_remember 55 = .ok (.aload_n 0, 1) := by decide +kernel
theorem dX5_remember_56 : decode cX5_remember 56 = .ok (.getfield 13, 3) := by decide +kernel
theorem dX5_remember_59 : decode cX5_remember 59 = .ok (.sipush 162, 3) := by decide +kernel
theorem dX5_remember_62 : decode cX5_remember 62 = .ok (.aload_n 0, 1) := by decide +kernel
theorem dX5_remember_63 : decode cX5_remember 63 = .ok (.getfield 122, 3) := by decide +kernel
theorem dX5_remember_66 : decode cX5_remember 66 = .ok (.imul, 1) := by decide +kernel
theorem dX5_remember_67 : decode cX5_remember 67 = .ok (.invokestatic 118, 3) := by decide +kernel
theorem dX5_remember_70 : decode cX5_remember 70 = .ok (.aload_n 0, 1) := by decide +kernel
theorem dX5_remember_71 : decode cX5_remember 71 = .ok (.dup, 1) := by decide +kernel
theorem dX5_remember_72 : decode cX5_remember 72 = .ok (.getfield 122, 3) := by decide +kernel
theorem dX5_remember_75 : decode cX5_remember 75 = .ok (.iconst 1, 1) := by decide +kernel
theorem dX5_remember_76 : decode cX5_remember 76 = .ok (.iadd, 1) := by decide +kernel
theorem dX5_remember_77 : decode cX5_remember 77 = .ok (.putfield 122, 3) := by decide +kernel
theorem dX5_remember_80 : decode cX5_remember 80 = .ok (.return_, 1) := by decide +kernel
theorem dX5_power_0 : decode cX5_power 0 = .ok (.iconst 1, 1) := by decide +kernel
theorem dX5_power_1 : decode cX5_power 1 = .ok (.istore_n 1, 1) := by decide +kernel
theorem dX5_power_2 : decode cX5_power 2 = .ok (.iconst 0, 1) := by decide +kernel
theorem dX5_power_3 : decode cX5_power 3 = .ok (.istore_n 2, 1) := by decide +kernel
theorem dX5_power_4 : decode cX5_power 4 = .ok (.iload_n 2, 1) := by decide +kernel
theorem dX5_power_5 : decode cX5_power 5 = .ok (.iload_n 0, 1) := by decide +kernel
theorem dX5_power_6 : decode cX5_power 6 = .ok (.if_icmp .ge 14, 3) := by decide +kernel
theorem dX5_power_9 : decode cX5_power 9 = .ok (.iload_n 1, 1) := by decide +kernel
theorem dX5_power_10 : decode cX5_power 10 = .ok (.bipush 10, 2) := by decide +kernel
theorem dX5_power_12 : decode cX5_power 12 = .ok (.imul, 1) := by decide +kernel
theorem dX5_power_13 : decode cX5_power 13 = .ok (.istore_n 1, 1) := by decide +kernel
theorem dX5_power_14 : decode cX5_power 14 = .ok (.iinc 2 1, 3) := by decide +kernel
theorem dX5_power_17 : decode cX5_power 17 = .ok (.goto (-13), 3) := by decide +kernel
theorem dX5_power_20 : decode cX5_power 20 = .ok (.iload_n 1, 1) := by decide +kernel
theorem dX5_power_21 : decode cX5_power 21 = .ok (.ireturn, 1) := by decide +kernel
theorem dX5_clusterFor_0 : decode cX5_clusterFor 0 = .ok (.iload_n 0, 1) := by decide +kernel
theorem dX5_clusterFor_1 : decode cX5_clusterFor 1 = .ok (.ifCond .ne 7, 3) := by decide +kernel
theorem dX5_clusterFor_4 : decode cX5_clusterFor 4 = .ok (.iconst 0, 1) := by decide +kernel
theorem dX5_clusterFor_5 : decode cX5_clusterFor 5 = .ok (.goto 28, 3) := by decide +kernel
theorem dX5_clusterFor_8 : decode cX5_clusterFor 8 = .ok (.iload_n 1, 1) := by decide +kernel
theorem dX5_clusterFor_9 : decode cX5_clusterFor 9 = .ok (.ifCond .le 10, 3) := by decide +kernel
theorem dX5_clusterFor_12 : decode cX5_clusterFor 12 = .ok (.bipush 10, 2) := by decide +kernel
theorem dX5_clusterFor_14 : decode cX5_clusterFor 14 = .ok (.iload_n 0, 1) := by decide +kernel
theorem dX5_clusterFor_15 : decode cX5_clusterFor 15 = .ok (.iadd, 1) := by decide +kernel
theorem dX5_clusterFor_16 : decode cX5_clusterFor 16 = .ok (.goto 17, 3) := by decide +kernel
theorem dX5_clusterFor_19 : decode cX5_clusterFor 19 = .ok (.iload_n 0, 1) := by decide +kernel
theorem dX5_clusterFor_20 : decode cX5_clusterFor 20 = .ok (.iconst 1, 1) := by decide +kernel
theorem dX5_clusterFor_21 : decode cX5_clusterFor 21 = .ok (.if_icmp .ne 8, 3) := by decide +kernel
theorem dX5_clusterFor_24 : decode cX5_clusterFor 24 = .ok (.bipush 31, 2) := by decide +kernel
theorem dX5_clusterFor_26 : decode cX5_clusterFor 26 = .ok (.goto 7, 3) := by decide +kernel
theorem dX5_clusterFor_29 : decode cX5_clusterFor 29 = .ok (.bipush 20, 2) := by decide +kernel
theorem dX5_clusterFor_31 : decode cX5_clusterFor 31 = .ok (.iload_n 0, 1) := by decide +kernel
theorem dX5_clusterFor_32 : decode cX5_clusterFor 32 = .ok (.iadd, 1) := by decide +kernel
theorem dX5_clusterFor_33 : decode cX5_clusterFor 33 = .ok (.ireturn, 1) := by decide +kernel
theorem dX5_workFor_0 : decode cX5_workFor 0 = .ok (.iconst 0, 1) := by decide +kernel
theorem dX5_workFor_1 : decode cX5_workFor 1 = .ok (.istore_n 3, 1) := by decide +kernel
theorem dX5_workFor_2 : decode cX5_workFor 2 = .ok (.iload_n 2, 1) := by decide +kernel
theorem dX5_workFor_3 : decode cX5_workFor 3 = .ok (.istore 4, 2) := by decide +kernel
theorem dX5_workFor_5 : decode cX5_workFor 5 = .ok (.iconst 0, 1) := by decide +kernel
theorem dX5_workFor_6 : decode cX5_workFor 6 = .ok (.istore 5, 2) := by decide +kernel
theorem dX5_workFor_8 : decode cX5_workFor 8 = .ok (.iload 5, 2) := by decide +kernel
theorem dX5_workFor_10 : decode cX5_workFor 10 = .ok (.aload_n 0, 1) := by decide +kernel
theorem dX5_workFor_11 : decode cX5_workFor 11 = .ok (.getfield 7, 3) := by decide +kernel
theorem dX5_workFor_14 : decode cX5_workFor 14 = .ok (.bipush 18, 2) := by decide +kernel
theorem dX5_workFor_16 : decode cX5_workFor 16 = .ok (.iload_n 1, 1) := by decide +kernel
theorem dX5_workFor_17 : decode cX5_workFor 17 = .ok (.iadd, 1) := by decide +kernel
theorem dX5_workFor_18 : decode cX5_workFor 18 = .ok (.iaload, 1) := by decide +kernel
theorem dX5_workFor_19 : decode cX5_workFor 19 = .ok (.if_icmp .ge 63, 3) := by decide +kernel
theorem dX5_workFor_22 : decode cX5_workFor 22 = .ok (.iload 4, 2) := by decide +kernel
theorem dX5_workFor_24 : decode cX5_workFor 24 = .ok (.bipush 10, 2) := by decide +kernel
theorem dX5_workFor_26 : decode cX5_workFor 26 = .ok (.irem, 1) := by decide +kernel
theorem dX5_workFor_27 : decode cX5_workFor 27 = .ok (.iload 5, 2) := by decide +kernel
theorem dX5_workFor_29 : decode cX5_workFor 29 = .ok (.invokestatic 195, 3) := by decide +kernel
theorem dX5_workFor_32 : decode cX5_workFor 32 = .ok (.istore 6, 2) := by decide +kernel
theorem dX5_workFor_34 : decode cX5_workFor 34 = .ok (.iload 4, 2) := by decide +kernel
theorem dX5_workFor_36 : decode cX5_workFor 36 = .ok (.bipush 10, 2) := by decide +kernel
theorem dX5_workFor_38 : decode cX5_workFor 38 = .ok (.idiv, 1) := by decide +kernel
theorem dX5_workFor_39 : decode cX5_workFor 39 = .ok (.istore 4, 2) := by decide +kernel
theorem dX5_workFor_41 : decode cX5_workFor 41 = .ok (.iload_n 3, 1) := by decide +kernel
theorem dX5_workFor_42 : decode cX5_workFor 42 = .ok (.iload 6, 2) := by decide +kernel
theorem dX5_workFor_44 : decode cX5_workFor 44 = .ok (.aload_n 0, 1) := by decide +kernel
theorem dX5_workFor_45 : decode cX5_workFor 45 = .ok (.iload_n 1, 1) := by decide +kernel
theorem dX5_workFor_46 : decode cX5_workFor 46 = .ok (.iload 5, 2) := by decide +kernel
theorem dX5_workFor_48 : decode cX5_workFor 48 = .ok (.invokevirtual 134, 3) := by decide +kernel
theorem dX5_workFor_51 : decode cX5_workFor 51 = .ok (.if_icmp .ne 7, 3) := by decide +kernel
theorem dX5_workFor_54 : decode cX5_workFor 54 = .ok (.iconst 0, 1) := by decide +kernel
theorem dX5_workFor_55 : decode cX5_workFor 55 = .ok (.goto 19, 3) := by decide +kernel
theorem dX5_workFor_58 : decode cX5_workFor 58 = .ok (.iload 6, 2) := by decide +kernel
theorem dX5_workFor_60 : decode cX5_workFor 60 = .ok (.invokestatic 153, 3) := by decide +kernel
theorem dX5_workFor_63 : decode cX5_workFor 63 = .ok (.aload_n 0, 1) := by decide +kernel
theorem dX5_workFor_64 : decode cX5_workFor 64 = .ok (.iload_n 1, 1) := by decide +kernel
theorem dX5_workFor_65 : decode cX5_workFor 65 = .ok (.iload 5, 2) := by decide +kernel
theorem dX5_workFor_67 : decode cX5_workFor 67 = .ok (.invokevirtual 134, 3) := by decide +kernel
theorem dX5_workFor_70 : decode cX5_workFor 70 = .ok (.invokestatic 153, 3) := by decide +kernel
theorem dX5_workFor_73 : decode cX5_workFor 73 = .ok (.iadd, 1) := by decide +kernel
theorem dX5_workFor_74 : decode cX5_workFor 74 = .ok (.iadd, 1) := by decide +kernel
theorem dX5_workFor_75 : decode cX5_workFor 75 = .ok (.istore_n 3, 1) := by decide +kernel
theorem dX5_workFor_76 : decode cX5_workFor 76 = .ok (.iinc 5 1, 3) := by decide +kernel
theorem dX5_workFor_79 : decode cX5_workFor 79 = .ok (.goto (-71), 3) := by decide +kernel
theorem dX5_workFor_82 : decode cX5_workFor 82 = .ok (.iload_n 3, 1) := by decide +kernel
theorem dX5_workFor_83 : decode cX5_workFor 83 = .ok (.ireturn, 1) := by decide +kernel
theorem dX5_ties_0 : decode cX5_ties 0 = .ok (.aload_n 0, 1) := by decide +kernel
theorem dX5_ties_1 : decode cX5_ties 1 = .ok (.invokevirtual 198, 3) := by decide +kernel
theorem dX5_ties_4 : decode cX5_ties 4 = .ok (.iload_n 2, 1) := by decide +kernel
theorem dX5_ties_5 : decode cX5_ties 5 = .ok (.istore_n 3, 1) := by decide +kernel
theorem dX5_ties_6 : decode cX5_ties 6 = .ok (.iconst 0, 1) := by decide +kernel
theorem dX5_ties_7 : decode cX5_ties 7 = .ok (.istore 4, 2) := by decide +kernel
theorem dX5_ties_9 : decode cX5_ties 9 = .ok (.iload 4, 2) := by decide +kernel
theorem dX5_ties_11 : decode cX5_ties 11 = .ok (.aload_n 0, 1) := by decide +kernel
theorem dX5_ties_12 : decode cX5_ties 12 = .ok (.getfield 7, 3) := by decide +kernel
theorem dX5_ties_15 : decode cX5_ties 15 = .ok (.bipush 18, 2) := by decide +kernel
theorem dX5_ties_17 : decode cX5_ties 17 = .ok (.iload_n 1, 1) := by decide +kernel
theorem dX5_ties_18 : decode cX5_ties 18 = .ok (.iadd, 1) := by decide +kernel
theorem dX5_ties_19 : decode cX5_ties 19 = .ok (.iaload, 1) := by decide +kernel
theorem dX5_ties_20 : decode cX5_ties 20 = .ok (.if_icmp .ge 37, 3) := by decide +kernel
theorem dX5_ties_23 : decode cX5_ties 23 = .ok (.aload_n 0, 1) := by decide +kernel
theorem dX5_ties_24 : decode cX5_ties 24 = .ok (.getfield 7, 3) := by decide +kernel
theorem dX5_ties_27 : decode cX5_ties 27 = .ok (.bipush 34, 2) := by decide +kernel
theorem dX5_ties_29 : decode cX5_ties 29 = .ok (.iconst 4, 1) := by decide +kernel
theorem dX5_ties_30 : decode cX5_ties 30 = .ok (.iload_n 1, 1) := by decide +kernel
theorem dX5_ties_31 : decode cX5_ties 31 = .ok (.imul, 1) := by decide +kernel
theorem dX5_ties_32 : decode cX5_ties 32 = .ok (.iadd, 1) := by decide +kernel
theorem dX5_ties_33 : decode cX5_ties 33 = .ok (.iload 4, 2) := by decide +kernel
theorem dX5_ties_35 : decode cX5_ties 35 = .ok (.iadd, 1) := by decide +kernel
theorem dX5_ties_36 : decode cX5_ties 36 = .ok (.iload_n 3, 1) := by decide +kernel
theorem dX5_ties_37 : decode cX5_ties 37 = .ok (.bipush 10, 2) := by decide +kernel
theorem dX5_ties_39 : decode cX5_ties 39 = .ok (.irem, 1) := by decide +kernel
theorem dX5_ties_40 : decode cX5_ties 40 = .ok (.iload 4, 2) := by decide +kernel
theorem dX5_ties_42 : decode cX5_ties 42 = .ok (.invokestatic 195, 3) := by decide +kernel
theorem dX5_ties_45 : decode cX5_ties 45 = .ok (.iastore, 1) := by decide +kernel
theorem dX5_ties_46 : decode cX5_ties 46 = .ok (.iload_n 3, 1) := by decide +kernel
theorem dX5_ties_47 : decode cX5_ties 47 = .ok (.bipush 10, 2) := by decide +kernel
theorem dX5_ties_49 : decode cX5_ties 49 = .ok (.idiv, 1) := by decide +kernel
theorem dX5_ties_50 : decode cX5_ties 50 = .ok (.istore_n 3, 1) := by decide +kernel
theorem dX5_ties_51 : decode cX5_ties 51 = .ok (.iinc 4 1, 3) := by decide +kernel
theorem dX5_ties_54 : decode cX5_ties 54 = .ok (.goto (-45), 3) := by decide +kernel
theorem dX5_ties_57 : decode cX5_ties 57 = .ok (.return_, 1) := by decide +kernel
theorem dX5_tie_0 : decode cX5_tie 0 = .ok (.aload_n 0, 1) := by decide +kernel
theorem dX5_tie_1 : decode cX5_tie 1 = .ok (.iload_n 1, 1) := by decide +kernel
theorem dX5_tie_2 : decode cX5_tie 2 = .ok (.invokevirtual 156, 3) := by decide +kernel
theorem dX5_tie_5 : decode cX5_tie 5 = .ok (.ifCond .eq 7, 3) := by decide +kernel
theorem dX5_tie_8 : decode cX5_tie 8 = .ok (.iload_n 2, 1) := by decide +kernel
theorem dX5_tie_9 : decode cX5_tie 9 = .ok (.ifCond .ge 5, 3) := by decide +kernel
theorem dX5_tie_12 : decode cX5_tie 12 = .ok (.iconst (-1), 1) := by decide +kernel
theorem dX5_tie_13 : decode cX5_tie 13 = .ok (.ireturn, 1) := by decide +kernel
theorem dX5_tie_14 : decode cX5_tie 14 = .ok (.iload_n 2, 1) := by decide +kernel
theorem dX5_tie_15 : decode cX5_tie 15 = .ok (.aload_n 0, 1) := by decide +kernel
theorem dX5_tie_16 : decode cX5_tie 16 = .ok (.getfield 7, 3) := by decide +kernel
theorem dX5_tie_19 : decode cX5_tie 19 = .ok (.bipush 18, 2) := by decide +kernel
theorem dX5_tie_21 : decode cX5_tie 21 = .ok (.iload_n 1, 1) := by decide +kernel
theorem dX5_tie_22 : decode cX5_tie 22 = .ok (.iadd, 1) := by decide +kernel
theorem dX5_tie_23 : decode cX5_tie 23 = .ok (.iaload, 1) := by decide +kernel
theorem dX5_tie_24 : decode cX5_tie 24 = .ok (.invokestatic 201, 3) := by decide +kernel
theorem dX5_tie_27 : decode cX5_tie 27 = .ok (.if_icmp .lt 6, 3) := by decide +kernel
theorem dX5_tie_30 : decode cX5_tie 30 = .ok (.bipush (-2), 2) := by decide +kernel
theorem dX5_tie_32 : decode cX5_tie 32 = .ok (.ireturn, 1) := by decide +kernel
theorem dX5_tie_33 : decode cX5_tie 33 = .ok (.aload_n 0, 1) := by decide +kernel
theorem dX5_tie_34 : decode cX5_tie 34 = .ok (.iload_n 1, 1) := by decide +kernel
theorem dX5_tie_35 : decode cX5_tie 35 = .ok (.iload_n 2, 1) := by decide +kernel
theorem dX5_tie_36 : decode cX5_tie 36 = .ok (.invokevirtual 204, 3) := by decide +kernel
theorem dX5_tie_39 : decode cX5_tie 39 = .ok (.istore_n 3, 1) := by decide +kernel
theorem dX5_tie_40 : decode cX5_tie 40 = .ok (.aload_n 0, 1) := by decide +kernel
theorem dX5_tie_41 : decode cX5_tie 41 = .ok (.iload_n 1, 1) := by decide +kernel
theorem dX5_tie_42 : decode cX5_tie 42 = .ok (.iload_n 2, 1) := by decide +kernel
theorem dX5_tie_43 : decode cX5_tie 43 = .ok (.invokevirtual 207, 3) := by decide +kernel
theorem dX5_tie_46 : decode cX5_tie 46 = .ok (.iload_n 3, 1) := by decide +kernel
theorem dX5_tie_47 : decode cX5_tie 47 = .ok (.ireturn, 1) := by decide +kernel
theorem dX5_more_0 : decode cX5_more 0 = .ok (.aload_n 0, 1) := by decide +kernel
theorem dX5_more_1 : decode cX5_more 1 = .ok (.iload_n 1, 1) := by decide +kernel
theorem dX5_more_2 : decode cX5_more 2 = .ok (.invokevirtual 156, 3) := by decide +kernel
theorem dX5_more_5 : decode cX5_more 5 = .ok (.ifCond .eq 17, 3) := by decide +kernel
theorem dX5_more_8 : decode cX5_more 8 = .ok (.iload_n 2, 1) := by decide +kernel
theorem dX5_more_9 : decode cX5_more 9 = .ok (.i2l, 1) := by decide +kernel
end
section
theorem dX5_more_10 : decode cX5_more 10 = .ok (.ldc2_w 211, 3) := by decide +kernel
theorem dX5_more_13 : decode cX5_more 13 = .ok (.ldc2_w 213, 3) := by decide +kernel
theorem dX5_more_16 : decode cX5_more 16 = .ok (.invokestatic 54, 3) := by decide +kernel
theorem dX5_more_19 : decode cX5_more 19 = .ok (.ifCond .ne 5, 3) := by decide +kernel
theorem dX5_more_22 : decode cX5_more 22 = .ok (.iconst (-1), 1) := by decide +kernel
theorem dX5_more_23 : decode cX5_more 23 = .ok (.ireturn, 1) := by decide +kernel
theorem dX5_more_24 : decode cX5_more 24 = .ok (.aload_n 0, 1) := by decide +kernel
theorem dX5_more_25 : decode cX5_more 25 = .ok (.iload_n 1, 1) := by decide +kernel
theorem dX5_more_26 : decode cX5_more 26 = .ok (.invokevirtual 146, 3) := by decide +kernel
theorem dX5_more_29 : decode cX5_more 29 = .ok (.iload_n 2, 1) := by decide +kernel
theorem dX5_more_30 : decode cX5_more 30 = .ok (.iadd, 1) := by decide +kernel
theorem dX5_more_31 : decode cX5_more 31 = .ok (.istore_n 3, 1) := by decide +kernel
theorem dX5_more_32 : decode cX5_more 32 = .ok (.aload_n 0, 1) := by decide +kernel
theorem dX5_more_33 : decode cX5_more 33 = .ok (.iload_n 1, 1) := by decide +kernel
theorem dX5_more_34 : decode cX5_more 34 = .ok (.invokevirtual 146, 3) := by decide +kernel
theorem dX5_more_37 : decode cX5_more 37 = .ok (.bipush (-4), 2) := by decide +kernel
theorem dX5_more_39 : decode cX5_more 39 = .ok (.if_icmp .eq 27, 3) := by decide +kernel
theorem dX5_more_42 : decode cX5_more 42 = .ok (.iload_n 3, 1) := by decide +kernel
theorem dX5_more_43 : decode cX5_more 43 = .ok (.i2l, 1) := by decide +kernel
theorem dX5_more_44 : decode cX5_more 44 = .ok (.lconst 0, 1) := by decide +kernel
theorem dX5_more_45 : decode cX5_more 45 = .ok (.aload_n 0, 1) := by decide +kernel
theorem dX5_more_46 : decode cX5_more 46 = .ok (.getfield 7, 3) := by decide +kernel
theorem dX5_more_49 : decode cX5_more 49 = .ok (.bipush 18, 2) := by decide +kernel
theorem dX5_more_51 : decode cX5_more 51 = .ok (.iload_n 1, 1) := by decide +kernel
theorem dX5_more_52 : decode cX5_more 52 = .ok (.iadd, 1) := by decide +kernel
theorem dX5_more_53 : decode cX5_more 53 = .ok (.iaload, 1) := by decide +kernel
theorem dX5_more_54 : decode cX5_more 54 = .ok (.invokestatic 201, 3) := by decide +kernel
theorem dX5_more_57 : decode cX5_more 57 = .ok (.iconst 1, 1) := by decide +kernel
theorem dX5_more_58 : decode cX5_more 58 = .ok (.isub, 1) := by decide +kernel
theorem dX5_more_59 : decode cX5_more 59 = .ok (.i2l, 1) := by decide +kernel
theorem dX5_more_60 : decode cX5_more 60 = .ok (.invokestatic 54, 3) := by decide +kernel
theorem dX5_more_63 : decode cX5_more 63 = .ok (.ifCond .ne 6, 3) := by decide +kernel
theorem dX5_more_66 : decode cX5_more 66 = .ok (.bipush (-2), 2) := by decide +kernel
theorem dX5_more_68 : decode cX5_more 68 = .ok (.ireturn, 1) := by decide +kernel
theorem dX5_more_69 : decode cX5_more 69 = .ok (.aload_n 0, 1) := by decide +kernel
theorem dX5_more_70 : decode cX5_more 70 = .ok (.iload_n 1, 1) := by decide +kernel
theorem dX5_more_71 : decode cX5_more 71 = .ok (.iload_n 3, 1) := by decide +kernel
theorem dX5_more_72 : decode cX5_more 72 = .ok (.invokevirtual 207, 3) := by decide +kernel
theorem dX5_more_75 : decode cX5_more 75 = .ok (.iload_n 3, 1) := by decide +kernel
theorem dX5_more_76 : decode cX5_more 76 = .ok (.ireturn, 1) := by decide +kernel
theorem dX5_isKnot_0 : decode cX5_isKnot 0 = .ok (.iload_n 0, 1) := by decide +kernel
theorem dX5_isKnot_1 : decode cX5_isKnot 1 = .ok (.tableswitch 74 0 3 #[31, 41, 51, 63], 31) := by decide +kernel
theorem dX5_isKnot_32 : decode cX5_isKnot 32 = .ok (.iload_n 1, 1) := by decide +kernel
theorem dX5_isKnot_33 : decode cX5_isKnot 33 = .ok (.ifCond .ne 7, 3) := by decide +kernel
theorem dX5_isKnot_36 : decode cX5_isKnot 36 = .ok (.iconst 1, 1) := by decide +kernel
theorem dX5_isKnot_37 : decode cX5_isKnot 37 = .ok (.goto 4, 3) := by decide +kernel
theorem dX5_isKnot_40 : decode cX5_isKnot 40 = .ok (.iconst 0, 1) := by decide +kernel
theorem dX5_isKnot_41 : decode cX5_isKnot 41 = .ok (.ireturn, 1) := by decide +kernel
theorem dX5_isKnot_42 : decode cX5_isKnot 42 = .ok (.iload_n 1, 1) := by decide +kernel
theorem dX5_isKnot_43 : decode cX5_isKnot 43 = .ok (.i2l, 1) := by decide +kernel
theorem dX5_isKnot_44 : decode cX5_isKnot 44 = .ok (.lconst 1, 1) := by decide +kernel
theorem dX5_isKnot_45 : decode cX5_isKnot 45 = .ok (.ldc2_w 215, 3) := by decide +kernel
theorem dX5_isKnot_48 : decode cX5_isKnot 48 = .ok (.invokestatic 54, 3) := by decide +kernel
theorem dX5_isKnot_51 : decode cX5_isKnot 51 = .ok (.ireturn, 1) := by decide +kernel
theorem dX5_isKnot_52 : decode cX5_isKnot 52 = .ok (.iload_n 1, 1) := by decide +kernel
theorem dX5_isKnot_53 : decode cX5_isKnot 53 = .ok (.i2l, 1) := by decide +kernel
theorem dX5_isKnot_54 : decode cX5_isKnot 54 = .ok (.ldc2_w 217, 3) := by decide +kernel
theorem dX5_isKnot_57 : decode cX5_isKnot 57 = .ok (.ldc2_w 215, 3) := by decide +kernel
theorem dX5_isKnot_60 : decode cX5_isKnot 60 = .ok (.invokestatic 54, 3) := by decide +kernel
theorem dX5_isKnot_63 : decode cX5_isKnot 63 = .ok (.ireturn, 1) := by decide +kernel
theorem dX5_isKnot_64 : decode cX5_isKnot 64 = .ok (.iload_n 1, 1) := by decide +kernel
theorem dX5_isKnot_65 : decode cX5_isKnot 65 = .ok (.iconst 1, 1) := by decide +kernel
theorem dX5_isKnot_66 : decode cX5_isKnot 66 = .ok (.if_icmp .ne 7, 3) := by decide +kernel
theorem dX5_isKnot_69 : decode cX5_isKnot 69 = .ok (.iconst 1, 1) := by decide +kernel
theorem dX5_isKnot_70 : decode cX5_isKnot 70 = .ok (.goto 4, 3) := by decide +kernel
theorem dX5_isKnot_73 : decode cX5_isKnot 73 = .ok (.iconst 0, 1) := by decide +kernel
theorem dX5_isKnot_74 : decode cX5_isKnot 74 = .ok (.ireturn, 1) := by decide +kernel
theorem dX5_isKnot_75 : decode cX5_isKnot 75 = .ok (.iconst 0, 1) := by decide +kernel
theorem dX5_isKnot_76 : decode cX5_isKnot 76 = .ok (.ireturn, 1) := by decide +kernel
theorem dX5_knot_0 : decode cX5_knot 0 = .ok (.aload_n 0, 1) := by decide +kernel
theorem dX5_knot_1 : decode cX5_knot 1 = .ok (.iload_n 1, 1) := by decide +kernel
theorem dX5_knot_2 : decode cX5_knot 2 = .ok (.invokevirtual 156, 3) := by decide +kernel
theorem dX5_knot_5 : decode cX5_knot 5 = .ok (.ifCond .eq 33, 3) := by decide +kernel
theorem dX5_knot_8 : decode cX5_knot 8 = .ok (.iload_n 2, 1) := by decide +kernel
theorem dX5_knot_9 : decode cX5_knot 9 = .ok (.i2l, 1) := by decide +kernel
theorem dX5_knot_10 : decode cX5_knot 10 = .ok (.lconst 0, 1) := by decide +kernel
theorem dX5_knot_11 : decode cX5_knot 11 = .ok (.aload_n 0, 1) := by decide +kernel
theorem dX5_knot_12 : decode cX5_knot 12 = .ok (.getfield 7, 3) := by decide +kernel
theorem dX5_knot_15 : decode cX5_knot 15 = .ok (.bipush 18, 2) := by decide +kernel
theorem dX5_knot_17 : decode cX5_knot 17 = .ok (.iload_n 1, 1) := by decide +kernel
theorem dX5_knot_18 : decode cX5_knot 18 = .ok (.iadd, 1) := by decide +kernel
theorem dX5_knot_19 : decode cX5_knot 19 = .ok (.iaload, 1) := by decide +kernel
theorem dX5_knot_20 : decode cX5_knot 20 = .ok (.iconst 1, 1) := by decide +kernel
theorem dX5_knot_21 : decode cX5_knot 21 = .ok (.isub, 1) := by decide +kernel
theorem dX5_knot_22 : decode cX5_knot 22 = .ok (.i2l, 1) := by decide +kernel
theorem dX5_knot_23 : decode cX5_knot 23 = .ok (.invokestatic 54, 3) := by decide +kernel
theorem dX5_knot_26 : decode cX5_knot 26 = .ok (.ifCond .eq 12, 3) := by decide +kernel
theorem dX5_knot_29 : decode cX5_knot 29 = .ok (.iload_n 3, 1) := by decide +kernel
theorem dX5_knot_30 : decode cX5_knot 30 = .ok (.iload 4, 2) := by decide +kernel
theorem dX5_knot_32 : decode cX5_knot 32 = .ok (.invokestatic 219, 3) := by decide +kernel
theorem dX5_knot_35 : decode cX5_knot 35 = .ok (.ifCond .ne 5, 3) := by decide +kernel
theorem dX5_knot_38 : decode cX5_knot 38 = .ok (.iconst (-1), 1) := by decide +kernel
theorem dX5_knot_39 : decode cX5_knot 39 = .ok (.ireturn, 1) := by decide +kernel
theorem dX5_knot_40 : decode cX5_knot 40 = .ok (.aload_n 0, 1) := by decide +kernel
theorem dX5_knot_41 : decode cX5_knot 41 = .ok (.invokevirtual 198, 3) := by decide +kernel
theorem dX5_knot_44 : decode cX5_knot 44 = .ok (.aload_n 0, 1) := by decide +kernel
theorem dX5_knot_45 : decode cX5_knot 45 = .ok (.getfield 7, 3) := by decide +kernel
theorem dX5_knot_48 : decode cX5_knot 48 = .ok (.bipush 34, 2) := by decide +kernel
theorem dX5_knot_50 : decode cX5_knot 50 = .ok (.iconst 4, 1) := by decide +kernel
theorem dX5_knot_51 : decode cX5_knot 51 = .ok (.iload_n 1, 1) := by decide +kernel
theorem dX5_knot_52 : decode cX5_knot 52 = .ok (.imul, 1) := by decide +kernel
theorem dX5_knot_53 : decode cX5_knot 53 = .ok (.iadd, 1) := by decide +kernel
theorem dX5_knot_54 : decode cX5_knot 54 = .ok (.iload_n 2, 1) := by decide +kernel
theorem dX5_knot_55 : decode cX5_knot 55 = .ok (.iadd, 1) := by decide +kernel
theorem dX5_knot_56 : decode cX5_knot 56 = .ok (.bipush 10, 2) := by decide +kernel
theorem dX5_knot_58 : decode cX5_knot 58 = .ok (.iload_n 3, 1) := by decide +kernel
theorem dX5_knot_59 : decode cX5_knot 59 = .ok (.imul, 1) := by decide +kernel
theorem dX5_knot_60 : decode cX5_knot 60 = .ok (.iload 4, 2) := by decide +kernel
theorem dX5_knot_62 : decode cX5_knot 62 = .ok (.iadd, 1) := by decide +kernel
theorem dX5_knot_63 : decode cX5_knot 63 = .ok (.iastore, 1) := by decide +kernel
theorem dX5_knot_64 : decode cX5_knot 64 = .ok (.aload_n 0, 1) := by decide +kernel
theorem dX5_knot_65 : decode cX5_knot 65 = .ok (.iload_n 1, 1) := by decide +kernel
theorem dX5_knot_66 : decode cX5_knot 66 = .ok (.invokevirtual 168, 3) := by decide +kernel
theorem dX5_knot_69 : decode cX5_knot 69 = .ok (.ireturn, 1) := by decide +kernel
theorem dX5_dye_0 : decode cX5_dye 0 = .ok (.aload_n 0, 1) := by decide +kernel
theorem dX5_dye_1 : decode cX5_dye 1 = .ok (.iload_n 1, 1) := by decide +kernel
theorem dX5_dye_2 : decode cX5_dye 2 = .ok (.invokevirtual 156, 3) := by decide +kernel
theorem dX5_dye_5 : decode cX5_dye 5 = .ok (.ifCond .eq 15, 3) := by decide +kernel
theorem dX5_dye_8 : decode cX5_dye 8 = .ok (.iload_n 2, 1) := by decide +kernel
theorem dX5_dye_9 : decode cX5_dye 9 = .ok (.i2l, 1) := by decide +kernel
theorem dX5_dye_10 : decode cX5_dye 10 = .ok (.lconst 0, 1) := by decide +kernel
theorem dX5_dye_11 : decode cX5_dye 11 = .ok (.ldc2_w 215, 3) := by decide +kernel
theorem dX5_dye_14 : decode cX5_dye 14 = .ok (.invokestatic 54, 3) := by decide +kernel
theorem dX5_dye_17 : decode cX5_dye 17 = .ok (.ifCond .ne 5, 3) := by decide +kernel
theorem dX5_dye_20 : decode cX5_dye 20 = .ok (.iconst (-1), 1) := by decide +kernel
theorem dX5_dye_21 : decode cX5_dye 21 = .ok (.ireturn, 1) := by decide +kernel
theorem dX5_dye_22 : decode cX5_dye 22 = .ok (.aload_n 0, 1) := by decide +kernel
theorem dX5_dye_23 : decode cX5_dye 23 = .ok (.invokevirtual 198, 3) := by decide +kernel
theorem dX5_dye_26 : decode cX5_dye 26 = .ok (.aload_n 0, 1) := by decide +kernel
theorem dX5_dye_27 : decode cX5_dye 27 = .ok (.getfield 7, 3) := by decide +kernel
theorem dX5_dye_30 : decode cX5_dye 30 = .ok (.iconst 2, 1) := by decide +kernel
theorem dX5_dye_31 : decode cX5_dye 31 = .ok (.iload_n 1, 1) := by decide +kernel
theorem dX5_dye_32 : decode cX5_dye 32 = .ok (.iadd, 1) := by decide +kernel
theorem dX5_dye_33 : decode cX5_dye 33 = .ok (.iaload, 1) := by decide +kernel
theorem dX5_dye_34 : decode cX5_dye 34 = .ok (.istore_n 3, 1) := by decide +kernel
theorem dX5_dye_35 : decode cX5_dye 35 = .ok (.aload_n 0, 1) := by decide +kernel
theorem dX5_dye_36 : decode cX5_dye 36 = .ok (.getfield 7, 3) := by decide +kernel
theorem dX5_dye_39 : decode cX5_dye 39 = .ok (.iconst 2, 1) := by decide +kernel
theorem dX5_dye_40 : decode cX5_dye 40 = .ok (.iload_n 1, 1) := by decide +kernel
theorem dX5_dye_41 : decode cX5_dye 41 = .ok (.iadd, 1) := by decide +kernel
theorem dX5_dye_42 : decode cX5_dye 42 = .ok (.iload_n 2, 1) := by decide +kernel
theorem dX5_dye_43 : decode cX5_dye 43 = .ok (.iastore, 1) := by decide +kernel
theorem dX5_dye_44 : decode cX5_dye 44 = .ok (.iload_n 3, 1) := by decide +kernel
theorem dX5_dye_45 : decode cX5_dye 45 = .ok (.ireturn, 1) := by decide +kernel
theorem dX5_hang_0 : decode cX5_hang 0 = .ok (.aload_n 0, 1) := by decide +kernel
theorem dX5_hang_1 : decode cX5_hang 1 = .ok (.iload_n 1, 1) := by decide +kernel
theorem dX5_hang_2 : decode cX5_hang 2 = .ok (.invokevirtual 156, 3) := by decide +kernel
theorem dX5_hang_5 : decode cX5_hang 5 = .ok (.ifCond .eq 11, 3) := by decide +kernel
theorem dX5_hang_8 : decode cX5_hang 8 = .ok (.aload_n 0, 1) := by decide +kernel
theorem dX5_hang_9 : decode cX5_hang 9 = .ok (.iload_n 2, 1) := by decide +kernel
theorem dX5_hang_10 : decode cX5_hang 10 = .ok (.invokevirtual 183, 3) := by decide +kernel
theorem dX5_hang_13 : decode cX5_hang 13 = .ok (.ifCond .ne 5, 3) := by decide +kernel
theorem dX5_hang_16 : decode cX5_hang 16 = .ok (.iconst (-1), 1) := by decide +kernel
theorem dX5_hang_17 : decode cX5_hang 17 = .ok (.ireturn, 1) := by decide +kernel
theorem dX5_hang_18 : decode cX5_hang 18 = .ok (.aload_n 0, 1) := by decide +kernel
theorem dX5_hang_19 : decode cX5_hang 19 = .ok (.iload_n 1, 1) := by decide +kernel
theorem dX5_hang_20 : decode cX5_hang 20 = .ok (.invokevirtual 170, 3) := by decide +kernel
theorem dX5_hang_23 : decode cX5_hang 23 = .ok (.ifCond .eq 33, 3) := by decide +kernel
theorem dX5_hang_26 : decode cX5_hang 26 = .ok (.aload_n 0, 1) := by decide +kernel
theorem dX5_hang_27 : decode cX5_hang 27 = .ok (.aload_n 0, 1) := by decide +kernel
theorem dX5_hang_28 : decode cX5_hang 28 = .ok (.getfield 7, 3) := by decide +kernel
theorem dX5_hang_31 : decode cX5_hang 31 = .ok (.bipush 114, 2) := by decide +kernel
theorem dX5_hang_33 : decode cX5_hang 33 = .ok (.iload_n 1, 1) := by decide +kernel
theorem dX5_hang_34 : decode cX5_hang 34 = .ok (.iadd, 1) := by decide +kernel
theorem dX5_hang_35 : decode cX5_hang 35 = .ok (.iaload, 1) := by decide +kernel
theorem dX5_hang_36 : decode cX5_hang 36 = .ok (.invokevirtual 186, 3) := by decide +kernel
theorem dX5_hang_39 : decode cX5_hang 39 = .ok (.iconst 1, 1) := by decide +kernel
theorem dX5_hang_40 : decode cX5_hang 40 = .ok (.if_icmp .eq 16, 3) := by decide +kernel
theorem dX5_hang_43 : decode cX5_hang 43 = .ok (.aload_n 0, 1) := by decide +kernel
theorem dX5_hang_44 : decode cX5_hang 44 = .ok (.getfield 7, 3) := by decide +kernel
theorem dX5_hang_47 : decode cX5_hang 47 = .ok (.bipush 114, 2) := by decide +kernel
theorem dX5_hang_49 : decode cX5_hang 49 = .ok (.iload_n 1, 1) := by decide +kernel
theorem dX5_hang_50 : decode cX5_hang 50 = .ok (.iadd, 1) := by decide +kernel
theorem dX5_hang_51 : decode cX5_hang 51 = .ok (.iaload, 1) := by decide +kernel
theorem dX5_hang_52 : decode cX5_hang 52 = .ok (.iload_n 2, 1) := by decide +kernel
theorem dX5_hang_53 : decode cX5_hang 53 = .ok (.if_icmp .ne 6, 3) := by decide +kernel
theorem dX5_hang_56 : decode cX5_hang 56 = .ok (.bipush (-2), 2) := by decide +kernel
theorem dX5_hang_58 : decode cX5_hang 58 = .ok (.ireturn, 1) := by decide +kernel
theorem dX5_hang_59 : decode cX5_hang 59 = .ok (.aload_n 0, 1) := by decide +kernel
theorem dX5_hang_60 : decode cX5_hang 60 = .ok (.invokevirtual 198, 3) := by decide +kernel
theorem dX5_hang_63 : decode cX5_hang 63 = .ok (.iconst 0, 1) := by decide +kernel
theorem dX5_hang_64 : decode cX5_hang 64 = .ok (.istore_n 3, 1) := by decide +kernel
theorem dX5_hang_65 : decode cX5_hang 65 = .ok (.iconst 0, 1) := by decide +kernel
theorem dX5_hang_66 : decode cX5_hang 66 = .ok (.istore 4, 2) := by decide +kernel
theorem dX5_hang_68 : decode cX5_hang 68 = .ok (.iload 4, 2) := by decide +kernel
theorem dX5_hang_70 : decode cX5_hang 70 = .ok (.aload_n 0, 1) := by decide +kernel
theorem dX5_hang_71 : decode cX5_hang 71 = .ok (.getfield 7, 3) := by decide +kernel
theorem dX5_hang_74 : decode cX5_hang 74 = .ok (.iconst 0, 1) := by decide +kernel
theorem dX5_hang_75 : decode cX5_hang 75 = .ok (.iaload, 1) := by decide +kernel
theorem dX5_hang_76 : decode cX5_hang 76 = .ok (.if_icmp .ge 74, 3) := by decide +kernel
theorem dX5_hang_79 : decode cX5_hang 79 = .ok (.aload_n 0, 1) := by decide +kernel
theorem dX5_hang_80 : decode cX5_hang 80 = .ok (.getfield 7, 3) := by decide +kernel
theorem dX5_hang_83 : decode cX5_hang 83 = .ok (.sipush 146, 3) := by decide +kernel
theorem dX5_hang_86 : decode cX5_hang 86 = .ok (.iload 4, 2) := by decide +kernel
theorem dX5_hang_88 : decode cX5_hang 88 = .ok (.iadd, 1) := by decide +kernel
theorem dX5_hang_89 : decode cX5_hang 89 = .ok (.iaload, 1) := by decide +kernel
theorem dX5_hang_90 : decode cX5_hang 90 = .ok (.iload_n 3, 1) := by decide +kernel
theorem dX5_hang_91 : decode cX5_hang 91 = .ok (.if_icmp .le 17, 3) := by decide +kernel
theorem dX5_hang_94 : decode cX5_hang 94 = .ok (.aload_n 0, 1) := by decide +kernel
theorem dX5_hang_95 : decode cX5_hang 95 = .ok (.getfield 7, 3) := by decide +kernel
theorem dX5_hang_98 : decode cX5_hang 98 = .ok (.sipush 146, 3) := by decide +kernel
theorem dX5_hang_101 : decode cX5_hang 101 = .ok (.iload 4, 2) := by decide +kernel
theorem dX5_hang_103 : decode cX5_hang 103 = .ok (.iadd, 1) := by decide +kernel
theorem dX5_hang_104 : decode cX5_hang 104 = .ok (.iaload, 1) := by decide +kernel
theorem dX5_hang_105 : decode cX5_hang 105 = .ok (.goto 4, 3) := by decide +kernel
theorem dX5_hang_108 : decode cX5_hang 108 = .ok (.iload_n 3, 1) := by decide +kernel
theorem dX5_hang_109 : decode cX5_hang 109 = .ok (.istore_n 3, 1) := by decide +kernel
theorem dX5_hang_110 : decode cX5_hang 110 = .ok (.aload_n 0, 1) := by decide +kernel
theorem dX5_hang_111 : decode cX5_hang 111 = .ok (.getfield 7, 3) := by decide +kernel
theorem dX5_hang_114 : decode cX5_hang 114 = .ok (.bipush 114, 2) := by decide +kernel
theorem dX5_hang_116 : decode cX5_hang 116 = .ok (.iload 4, 2) := by decide +kernel
theorem dX5_hang_118 : decode cX5_hang 118 = .ok (.iadd, 1) := by decide +kernel
theorem dX5_hang_119 : decode cX5_hang 119 = .ok (.aload_n 0, 1) := by decide +kernel
theorem dX5_hang_120 : decode cX5_hang 120 = .ok (.iload 4, 2) := by decide +kernel
theorem dX5_hang_122 : decode cX5_hang 122 = .ok (.iload_n 1, 1) := by decide +kernel
theorem dX5_hang_123 : decode cX5_hang 123 = .ok (.invokevirtual 142, 3) := by decide +kernel
theorem dX5_hang_126 : decode cX5_hang 126 = .ok (.ifCond .eq 7, 3) := by decide +kernel
theorem dX5_hang_129 : decode cX5_hang 129 = .ok (.iload_n 2, 1) := by decide +kernel
theorem dX5_hang_130 : decode cX5_hang 130 = .ok (.goto 13, 3) := by decide +kernel
theorem dX5_hang_133 : decode cX5_hang 133 = .ok (.aload_n 0, 1) := by decide +kernel
theorem dX5_hang_134 : decode cX5_hang 134 = .ok (.getfield 7, 3) := by decide +kernel
theorem dX5_hang_137 : decode cX5_hang 137 = .ok (.bipush 114, 2) := by decide +kernel
theorem dX5_hang_139 : decode cX5_hang 139 = .ok (.iload 4, 2) := by decide +kernel
theorem dX5_hang_141 : decode cX5_hang 141 = .ok (.iadd, 1) := by decide +kernel
theorem dX5_hang_142 : decode cX5_hang 142 = .ok (.iaload, 1) := by decide +kernel
theorem dX5_hang_143 : decode cX5_hang 143 = .ok (.iastore, 1) := by decide +kernel
theorem dX5_hang_144 : decode cX5_hang 144 = .ok (.iinc 4 1, 3) := by decide +kernel
theorem dX5_hang_147 : decode cX5_hang 147 = .ok (.goto (-79), 3) := by decide +kernel
theorem dX5_hang_150 : decode cX5_hang 150 = .ok (.aload_n 0, 1) := by decide +kernel
theorem dX5_hang_151 : decode cX5_hang 151 = .ok (.getfield 7, 3) := by decide +kernel
theorem dX5_hang_154 : decode cX5_hang 154 = .ok (.bipush 114, 2) := by decide +kernel
theorem dX5_hang_156 : decode cX5_hang 156 = .ok (.iload_n 1, 1) := by decide +kernel
theorem dX5_hang_157 : decode cX5_hang 157 = .ok (.iadd, 1) := by decide +kernel
theorem dX5_hang_158 : decode cX5_hang 158 = .ok (.iload_n 2, 1) := by decide +kernel
theorem dX5_hang_159 : decode cX5_hang 159 = .ok (.iastore, 1) := by decide +kernel
theorem dX5_hang_160 : decode cX5_hang 160 = .ok (.aload_n 0, 1) := by decide +kernel
theorem dX5_hang_161 : decode cX5_hang 161 = .ok (.getfield 7, 3) := by decide +kernel
theorem dX5_hang_164 : decode cX5_hang 164 = .ok (.sipush 146, 3) := by decide +kernel
theorem dX5_hang_167 : decode cX5_hang 167 = .ok (.iload_n 1, 1) := by decide +kernel
theorem dX5_hang_168 : decode cX5_hang 168 = .ok (.iadd, 1) := by decide +kernel
theorem dX5_hang_169 : decode cX5_hang 169 = .ok (.iload_n 3, 1) := by decide +kernel
theorem dX5_hang_170 : decode cX5_hang 170 = .ok (.iconst 1, 1) := by decide +kernel
theorem dX5_hang_171 : decode cX5_hang 171 = .ok (.iadd, 1) := by decide +kernel
theorem dX5_hang_172 : decode cX5_hang 172 = .ok (.iastore, 1) := by decide +kernel
theorem dX5_hang_173 : decode cX5_hang 173 = .ok (.aload_n 0, 1) := by decide +kernel
theorem dX5_hang_174 : decode cX5_hang 174 = .ok (.iload_n 2, 1) := by decide +kernel
theorem dX5_hang_175 : decode cX5_hang 175 = .ok (.invokevirtual 186, 3) := by decide +kernel
theorem dX5_hang_178 : decode cX5_hang 178 = .ok (.ireturn, 1) := by decide +kernel
theorem dX5_undo_0 : decode cX5_undo 0 = .ok (.aload_n 0, 1) := by decide +kernel
theorem dX5_undo_1 : decode cX5_undo 1 = .ok (.getfield 122, 3) := by decide +kernel
theorem dX5_undo_4 : decode cX5_undo 4 = .ok (.ifCond .ne 6, 3) := by decide +kernel
theorem dX5_undo_7 : decode cX5_undo 7 = .ok (.bipush (-2), 2) := by decide +kernel
theorem dX5_undo_9 : decode cX5_undo 9 = .ok (.ireturn, 1) := by decide +kernel
theorem dX5_undo_10 : decode cX5_undo 10 = .ok (.aload_n 0, 1) := by decide +kernel
theorem dX5_undo_11 : decode cX5_undo 11 = .ok (.dup, 1) := by decide +kernel
theorem dX5_undo_12 : decode cX5_undo 12 = .ok (.getfield 122, 3) := by decide +kernel
theorem dX5_undo_15 : decode cX5_undo 15 = .ok (.iconst 1, 1) := by decide +kernel
theorem dX5_undo_16 : decode cX5_undo 16 = .ok (.isub, 1) := by decide +kernel
theorem dX5_undo_17 : decode cX5_undo 17 = .ok (.putfield 122, 3) := by decide +kernel
theorem dX5_undo_20 : decode cX5_undo 20 = .ok (.aload_n 0, 1) := by decide +kernel
theorem dX5_undo_21 : decode cX5_undo 21 = .ok (.getfield 13, 3) := by decide +kernel
theorem dX5_undo_24 : decode cX5_undo 24 = .ok (.sipush 162, 3) := by decide +kernel
theorem dX5_undo_27 : decode cX5_undo 27 = .ok (.aload_n 0, 1) := by decide +kernel
theorem dX5_undo_28 : decode cX5_undo 28 = .ok (.getfield 122, 3) := by decide +kernel
theorem dX5_undo_31 : decode cX5_undo 31 = .ok (.imul, 1) := by decide +kernel
theorem dX5_undo_32 : decode cX5_undo 32 = .ok (.aload_n 0, 1) := by decide +kernel
theorem dX5_undo_33 : decode cX5_undo 33 = .ok (.getfield 7, 3) := by decide +kernel
theorem dX5_undo_36 : decode cX5_undo 36 = .ok (.iconst 0, 1) := by decide +kernel
theorem dX5_undo_37 : decode cX5_undo 37 = .ok (.invokestatic 118, 3) := by decide +kernel
theorem dX5_undo_40 : decode cX5_undo 40 = .ok (.aload_n 0, 1) := by decide +kernel
theorem dX5_undo_41 : decode cX5_undo 41 = .ok (.getfield 122, 3) := by decide +kernel
theorem dX5_undo_44 : decode cX5_undo 44 = .ok (.ireturn, 1) := by decide +kernel
theorem dX5_wrong_0 : decode cX5_wrong 0 = .ok (.aload_n 0, 1) := by decide +kernel
theorem dX5_wrong_1 : decode cX5_wrong 1 = .ok (.iload_n 1, 1) := by decide +kernel
theorem dX5_wrong_2 : decode cX5_wrong 2 = .ok (.invokevirtual 183, 3) := by decide +kernel
theorem dX5_wrong_5 : decode cX5_wrong 5 = .ok (.ifCond .eq 11, 3) := by decide +kernel
theorem dX5_wrong_8 : decode cX5_wrong 8 = .ok (.aload_n 0, 1) := by decide +kernel
theorem dX5_wrong_9 : decode cX5_wrong 9 = .ok (.iload_n 1, 1) := by decide +kernel
theorem dX5_wrong_10 : decode cX5_wrong 10 = .ok (.invokevirtual 189, 3) := by decide +kernel
theorem dX5_wrong_13 : decode cX5_wrong 13 = .ok (.goto 4, 3) := by decide +kernel
theorem dX5_wrong_16 : decode cX5_wrong 16 = .ok (.iconst (-1), 1) := by decide +kernel
theorem dX5_wrong_17 : decode cX5_wrong 17 = .ok (.ireturn, 1) := by decide +kernel
theorem dX5_layRoom_0 : decode cX5_layRoom 0 = .ok (.iconst 0, 1) := by decide +kernel
theorem dX5_layRoom_1 : decode cX5_layRoom 1 = .ok (.istore_n 2, 1) := by decide +kernel
theorem dX5_layRoom_2 : decode cX5_layRoom 2 = .ok (.iload_n 2, 1) := by decide +kernel
theorem dX5_layRoom_3 : decode cX5_layRoom 3 = .ok (.iconst 4, 1) := by decide +kernel
theorem dX5_layRoom_4 : decode cX5_layRoom 4 = .ok (.if_icmp .ge 23, 3) := by decide +kernel
theorem dX5_layRoom_7 : decode cX5_layRoom 7 = .ok (.aload_n 0, 1) := by decide +kernel
theorem dX5_layRoom_8 : decode cX5_layRoom 8 = .ok (.getfield 28, 3) := by decide +kernel
theorem dX5_layRoom_11 : decode cX5_layRoom 11 = .ok (.iload_n 2, 1) := by decide +kernel
theorem dX5_layRoom_12 : decode cX5_layRoom 12 = .ok (.iconst 0, 1) := by decide +kernel
theorem dX5_layRoom_13 : decode cX5_layRoom 13 = .ok (.iastore, 1) := by decide +kernel
theorem dX5_layRoom_14 : decode cX5_layRoom 14 = .ok (.aload_n 0, 1) := by decide +kernel
theorem dX5_layRoom_15 : decode cX5_layRoom 15 = .ok (.getfield 31, 3) := by decide +kernel
theorem dX5_layRoom_18 : decode cX5_layRoom 18 = .ok (.iload_n 2, 1) := by decide +kernel
theorem dX5_layRoom_19 : decode cX5_layRoom 19 = .ok (.iconst 0, 1) := by decide +kernel
theorem dX5_layRoom_20 : decode cX5_layRoom 20 = .ok (.iastore, 1) := by decide +kernel
theorem dX5_layRoom_21 : decode cX5_layRoom 21 = .ok (.iinc 2 1, 3) := by decide +kernel
theorem dX5_layRoom_24 : decode cX5_layRoom 24 = .ok (.goto (-22), 3) := by decide +kernel
theorem dX5_layRoom_27 : decode cX5_layRoom 27 = .ok (.iconst 0, 1) := by decide +kernel
theorem dX5_layRoom_28 : decode cX5_layRoom 28 = .ok (.istore_n 2, 1) := by decide +kernel
theorem dX5_layRoom_29 : decode cX5_layRoom 29 = .ok (.iload_n 2, 1) := by decide +kernel
theorem dX5_layRoom_30 : decode cX5_layRoom 30 = .ok (.aload_n 0, 1) := by decide +kernel
theorem dX5_layRoom_31 : decode cX5_layRoom 31 = .ok (.getfield 7, 3) := by decide +kernel
theorem dX5_layRoom_34 : decode cX5_layRoom 34 = .ok (.iconst 0, 1) := by decide +kernel
theorem dX5_layRoom_35 : decode cX5_layRoom 35 = .ok (.iaload, 1) := by decide +kernel
theorem dX5_layRoom_36 : decode cX5_layRoom 36 = .ok (.if_icmp .ge 138, 3) := by decide +kernel
theorem dX5_layRoom_39 : decode cX5_layRoom 39 = .ok (.aload_n 0, 1) := by decide +kernel
theorem dX5_layRoom_40 : decode cX5_layRoom 40 = .ok (.getfield 7, 3) := by decide +kernel
theorem dX5_layRoom_43 : decode cX5_layRoom 43 = .ok (.sipush 130, 3) := by decide +kernel
theorem dX5_layRoom_46 : decode cX5_layRoom 46 = .ok (.iload_n 2, 1) := by decide +kernel
theorem dX5_layRoom_47 : decode cX5_layRoom 47 = .ok (.iadd, 1) := by decide +kernel
theorem dX5_layRoom_48 : decode cX5_layRoom 48 = .ok (.iaload, 1) := by decide +kernel
theorem dX5_layRoom_49 : decode cX5_layRoom 49 = .ok (.iconst 1, 1) := by decide +kernel
theorem dX5_layRoom_50 : decode cX5_layRoom 50 = .ok (.if_icmp .ne 20, 3) := by decide +kernel
theorem dX5_layRoom_53 : decode cX5_layRoom 53 = .ok (.aload_n 0, 1) := by decide +kernel
theorem dX5_layRoom_54 : decode cX5_layRoom 54 = .ok (.getfield 7, 3) := by decide +kernel
theorem dX5_layRoom_57 : decode cX5_layRoom 57 = .ok (.bipush 114, 2) := by decide +kernel
theorem dX5_layRoom_59 : decode cX5_layRoom 59 = .ok (.iload_n 2, 1) := by decide +kernel
theorem dX5_layRoom_60 : decode cX5_layRoom 60 = .ok (.iadd, 1) := by decide +kernel
theorem dX5_layRoom_61 : decode cX5_layRoom 61 = .ok (.iaload, 1) := by decide +kernel
theorem dX5_layRoom_62 : decode cX5_layRoom 62 = .ok (.iload_n 1, 1) := by decide +kernel
theorem dX5_layRoom_63 : decode cX5_layRoom 63 = .ok (.if_icmp .ne 7, 3) := by decide +kernel
theorem dX5_layRoom_66 : decode cX5_layRoom 66 = .ok (.iconst 1, 1) := by decide +kernel
theorem dX5_layRoom_67 : decode cX5_layRoom 67 = .ok (.goto 4, 3) := by decide +kernel
theorem dX5_layRoom_70 : decode cX5_layRoom 70 = .ok (.iconst 0, 1) := by decide +kernel
theorem dX5_layRoom_71 : decode cX5_layRoom 71 = .ok (.istore_n 3, 1) := by decide +kernel
theorem dX5_layRoom_72 : decode cX5_layRoom 72 = .ok (.iconst 0, 1) := by decide +kernel
theorem dX5_layRoom_73 : decode cX5_layRoom 73 = .ok (.istore 4, 2) := by decide +kernel
theorem dX5_layRoom_75 : decode cX5_layRoom 75 = .ok (.iload 4, 2) := by decide +kernel
theorem dX5_layRoom_77 : decode cX5_layRoom 77 = .ok (.aload_n 0, 1) := by decide +kernel
theorem dX5_layRoom_78 : decode cX5_layRoom 78 = .ok (.getfield 7, 3) := by decide +kernel
theorem dX5_layRoom_81 : decode cX5_layRoom 81 = .ok (.bipush 18, 2) := by decide +kernel
theorem dX5_layRoom_83 : decode cX5_layRoom 83 = .ok (.iload_n 2, 1) := by decide +kernel
theorem dX5_layRoom_84 : decode cX5_layRoom 84 = .ok (.iadd, 1) := by decide +kernel
theorem dX5_layRoom_85 : decode cX5_layRoom 85 = .ok (.iaload, 1) := by decide +kernel
theorem dX5_layRoom_86 : decode cX5_layRoom 86 = .ok (.if_icmp .ge 82, 3) := by decide +kernel
theorem dX5_layRoom_89 : decode cX5_layRoom 89 = .ok (.iload_n 3, 1) := by decide +kernel
theorem dX5_layRoom_90 : decode cX5_layRoom 90 = .ok (.ifCond .ne 12, 3) := by decide +kernel
theorem dX5_layRoom_93 : decode cX5_layRoom 93 = .ok (.aload_n 0, 1) := by decide +kernel
theorem dX5_layRoom_94 : decode cX5_layRoom 94 = .ok (.iload_n 2, 1) := by decide +kernel
theorem dX5_layRoom_95 : decode cX5_layRoom 95 = .ok (.iload_n 1, 1) := by decide +kernel
theorem dX5_layRoom_96 : decode cX5_layRoom 96 = .ok (.invokevirtual 173, 3) := by decide +kernel
theorem dX5_layRoom_99 : decode cX5_layRoom 99 = .ok (.ifCond .eq 69, 3) := by decide +kernel
theorem dX5_layRoom_102 : decode cX5_layRoom 102 = .ok (.aload_n 0, 1) := by decide +kernel
theorem dX5_layRoom_103 : decode cX5_layRoom 103 = .ok (.iload_n 2, 1) := by decide +kernel
theorem dX5_layRoom_104 : decode cX5_layRoom 104 = .ok (.iload 4, 2) := by decide +kernel
theorem dX5_layRoom_106 : decode cX5_layRoom 106 = .ok (.invokevirtual 134, 3) := by decide +kernel
theorem dX5_layRoom_109 : decode cX5_layRoom 109 = .ok (.bipush 10, 2) := by decide +kernel
theorem dX5_layRoom_111 : decode cX5_layRoom 111 = .ok (.irem, 1) := by decide +kernel
theorem dX5_layRoom_112 : decode cX5_layRoom 112 = .ok (.istore 5, 2) := by decide +kernel
theorem dX5_layRoom_114 : decode cX5_layRoom 114 = .ok (.aload_n 0, 1) := by decide +kernel
theorem dX5_layRoom_115 : decode cX5_layRoom 115 = .ok (.getfield 28, 3) := by decide +kernel
theorem dX5_layRoom_118 : decode cX5_layRoom 118 = .ok (.iload 4, 2) := by decide +kernel
theorem dX5_layRoom_120 : decode cX5_layRoom 120 = .ok (.dup2, 1) := by decide +kernel
theorem dX5_layRoom_121 : decode cX5_layRoom 121 = .ok (.iaload, 1) := by decide +kernel
theorem dX5_layRoom_122 : decode cX5_layRoom 122 = .ok (.iload_n 3, 1) := by decide +kernel
theorem dX5_layRoom_123 : decode cX5_layRoom 123 = .ok (.ifCond .eq 8, 3) := by decide +kernel
theorem dX5_layRoom_126 : decode cX5_layRoom 126 = .ok (.iload 5, 2) := by decide +kernel
theorem dX5_layRoom_128 : decode cX5_layRoom 128 = .ok (.goto 8, 3) := by decide +kernel
theorem dX5_layRoom_131 : decode cX5_layRoom 131 = .ok (.bipush 9, 2) := by decide +kernel
theorem dX5_layRoom_133 : decode cX5_layRoom 133 = .ok (.iload 5, 2) := by decide +kernel
theorem dX5_layRoom_135 : decode cX5_layRoom 135 = .ok (.isub, 1) := by decide +kernel
theorem dX5_layRoom_136 : decode cX5_layRoom 136 = .ok (.iadd, 1) := by decide +kernel
theorem dX5_layRoom_137 : decode cX5_layRoom 137 = .ok (.iastore, 1) := by decide +kernel
theorem dX5_layRoom_138 : decode cX5_layRoom 138 = .ok (.aload_n 0, 1) := by decide +kernel
theorem dX5_layRoom_139 : decode cX5_layRoom 139 = .ok (.getfield 31, 3) := by decide +kernel
theorem dX5_layRoom_142 : decode cX5_layRoom 142 = .ok (.iload 4, 2) := by decide +kernel
theorem dX5_layRoom_144 : decode cX5_layRoom 144 = .ok (.dup2, 1) := by decide +kernel
theorem dX5_layRoom_145 : decode cX5_layRoom 145 = .ok (.iaload, 1) := by decide +kernel
theorem dX5_layRoom_146 : decode cX5_layRoom 146 = .ok (.iload_n 3, 1) := by decide +kernel
theorem dX5_layRoom_147 : decode cX5_layRoom 147 = .ok (.ifCond .eq 11, 3) := by decide +kernel
theorem dX5_layRoom_150 : decode cX5_layRoom 150 = .ok (.bipush 9, 2) := by decide +kernel
theorem dX5_layRoom_152 : decode cX5_layRoom 152 = .ok (.iload 5, 2) := by decide +kernel
theorem dX5_layRoom_154 : decode cX5_layRoom 154 = .ok (.isub, 1) := by decide +kernel
theorem dX5_layRoom_155 : decode cX5_layRoom 155 = .ok (.goto 5, 3) := by decide +kernel
theorem dX5_layRoom_158 : decode cX5_layRoom 158 = .ok (.iload 5, 2) := by decide +kernel
theorem dX5_layRoom_160 : decode cX5_layRoom 160 = .ok (.iadd, 1) := by decide +kernel
theorem dX5_layRoom_161 : decode cX5_layRoom 161 = .ok (.iastore, 1) := by decide +kernel
theorem dX5_layRoom_162 : decode cX5_layRoom 162 = .ok (.iinc 4 1, 3) := by decide +kernel
theorem dX5_layRoom_165 : decode cX5_layRoom 165 = .ok (.goto (-90), 3) := by decide +kernel
theorem dX5_layRoom_168 : decode cX5_layRoom 168 = .ok (.iinc 2 1, 3) := by decide +kernel
theorem dX5_layRoom_171 : decode cX5_layRoom 171 = .ok (.goto (-142), 3) := by decide +kernel
theorem dX5_layRoom_174 : decode cX5_layRoom 174 = .ok (.return_, 1) := by decide +kernel
theorem dX5_plain_0 : decode cX5_plain 0 = .ok (.iload_n 0, 1) := by decide +kernel
theorem dX5_plain_1 : decode cX5_plain 1 = .ok (.ifCond .ge 8, 3) := by decide +kernel
theorem dX5_plain_4 : decode cX5_plain 4 = .ok (.iload_n 0, 1) := by decide +kernel
theorem dX5_plain_5 : decode cX5_plain 5 = .ok (.ineg, 1) := by decide +kernel
theorem dX5_plain_6 : decode cX5_plain 6 = .ok (.goto 4, 3) := by decide +kernel
theorem dX5_plain_9 : decode cX5_plain 9 = .ok (.iload_n 0, 1) := by decide +kernel
theorem dX5_plain_10 : decode cX5_plain 10 = .ok (.ireturn, 1) := by decide +kernel
theorem dX5_mend_0 : decode cX5_mend 0 = .ok (.aload_n 0, 1) := by decide +kernel
theorem dX5_mend_1 : decode cX5_mend 1 = .ok (.iload_n 1, 1) := by decide +kernel
theorem dX5_mend_2 : decode cX5_mend 2 = .ok (.invokevirtual 183, 3) := by decide +kernel
theorem dX5_mend_5 : decode cX5_mend 5 = .ok (.ifCond .ne 5, 3) := by decide +kernel
theorem dX5_mend_8 : decode cX5_mend 8 = .ok (.iconst (-1), 1) := by decide +kernel
theorem dX5_mend_9 : decode cX5_mend 9 = .ok (.ireturn, 1) := by decide +kernel
theorem dX5_mend_10 : decode cX5_mend 10 = .ok (.aload_n 0, 1) := by decide +kernel
theorem dX5_mend_11 : decode cX5_mend 11 = .ok (.iload_n 1, 1) := by decide +kernel
theorem dX5_mend_12 : decode cX5_mend 12 = .ok (.invokevirtual 189, 3) := by decide +kernel
theorem dX5_mend_15 : decode cX5_mend 15 = .ok (.istore_n 2, 1) := by decide +kernel
theorem dX5_mend_16 : decode cX5_mend 16 = .ok (.iload_n 2, 1) := by decide +kernel
theorem dX5_mend_17 : decode cX5_mend 17 = .ok (.bipush (-4), 2) := by decide +kernel
theorem dX5_mend_19 : decode cX5_mend 19 = .ok (.if_icmp .ne 6, 3) := by decide +kernel
theorem dX5_mend_22 : decode cX5_mend 22 = .ok (.bipush (-4), 2) := by decide +kernel
theorem dX5_mend_24 : decode cX5_mend 24 = .ok (.ireturn, 1) := by decide +kernel
theorem dX5_mend_25 : decode cX5_mend 25 = .ok (.aload_n 0, 1) := by decide +kernel
theorem dX5_mend_26 : decode cX5_mend 26 = .ok (.iload_n 1, 1) := by decide +kernel
theorem dX5_mend_27 : decode cX5_mend 27 = .ok (.invokevirtual 222, 3) := by decide +kernel
theorem dX5_mend_30 : decode cX5_mend 30 = .ok (.ldc 182, 2) := by decide +kernel
theorem dX5_mend_32 : decode cX5_mend 32 = .ok (.iload_n 2, 1) := by decide +kernel
theorem dX5_mend_33 : decode cX5_mend 33 = .ok (.isub, 1) := by decide +kernel
theorem dX5_mend_34 : decode cX5_mend 34 = .ok (.istore_n 3, 1) := by decide +kernel
theorem dX5_mend_35 : decode cX5_mend 35 = .ok (.ldc 226, 2) := by decide +kernel
theorem dX5_mend_37 : decode cX5_mend 37 = .ok (.istore 4, 2) := by decide +kernel
theorem dX5_mend_39 : decode cX5_mend 39 = .ok (.aload_n 0, 1) := by decide +kernel
theorem dX5_mend_40 : decode cX5_mend 40 = .ok (.getfield 31, 3) := by decide +kernel
theorem dX5_mend_43 : decode cX5_mend 43 = .ok (.iconst 3, 1) := by decide +kernel
theorem dX5_mend_44 : decode cX5_mend 44 = .ok (.iaload, 1) := by decide +kernel
theorem dX5_mend_45 : decode cX5_mend 45 = .ok (.ineg, 1) := by decide +kernel
theorem dX5_mend_46 : decode cX5_mend 46 = .ok (.istore 5, 2) := by decide +kernel
theorem dX5_mend_48 : decode cX5_mend 48 = .ok (.iload 5, 2) := by decide +kernel
theorem dX5_mend_50 : decode cX5_mend 50 = .ok (.aload_n 0, 1) := by decide +kernel
theorem dX5_mend_51 : decode cX5_mend 51 = .ok (.getfield 28, 3) := by decide +kernel
theorem dX5_mend_54 : decode cX5_mend 54 = .ok (.iconst 3, 1) := by decide +kernel
theorem dX5_mend_55 : decode cX5_mend 55 = .ok (.iaload, 1) := by decide +kernel
theorem dX5_mend_56 : decode cX5_mend 56 = .ok (.if_icmp .gt 239, 3) := by decide +kernel
theorem dX5_mend_59 : decode cX5_mend 59 = .ok (.iload_n 3, 1) := by decide +kernel
theorem dX5_mend_60 : decode cX5_mend 60 = .ok (.sipush 1000, 3) := by decide +kernel
theorem dX5_mend_63 : decode cX5_mend 63 = .ok (.iload 5, 2) := by decide +kernel
theorem dX5_mend_65 : decode cX5_mend 65 = .ok (.imul, 1) := by decide +kernel
theorem dX5_mend_66 : decode cX5_mend 66 = .ok (.isub, 1) := by decide +kernel
theorem dX5_mend_67 : decode cX5_mend 67 = .ok (.istore 6, 2) := by decide +kernel
theorem dX5_mend_69 : decode cX5_mend 69 = .ok (.aload_n 0, 1) := by decide +kernel
theorem dX5_mend_70 : decode cX5_mend 70 = .ok (.getfield 31, 3) := by decide +kernel
theorem dX5_mend_73 : decode cX5_mend 73 = .ok (.iconst 2, 1) := by decide +kernel
theorem dX5_mend_74 : decode cX5_mend 74 = .ok (.iaload, 1) := by decide +kernel
theorem dX5_mend_75 : decode cX5_mend 75 = .ok (.ineg, 1) := by decide +kernel
theorem dX5_mend_76 : decode cX5_mend 76 = .ok (.istore 7, 2) := by decide +kernel
theorem dX5_mend_78 : decode cX5_mend 78 = .ok (.iload 7, 2) := by decide +kernel
theorem dX5_mend_80 : decode cX5_mend 80 = .ok (.aload_n 0, 1) := by decide +kernel
theorem dX5_mend_81 : decode cX5_mend 81 = .ok (.getfield 28, 3) := by decide +kernel
theorem dX5_mend_84 : decode cX5_mend 84 = .ok (.iconst 2, 1) := by decide +kernel
theorem dX5_mend_85 : decode cX5_mend 85 = .ok (.iaload, 1) := by decide +kernel
theorem dX5_mend_86 : decode cX5_mend 86 = .ok (.if_icmp .gt 203, 3) := by decide +kernel
theorem dX5_mend_89 : decode cX5_mend 89 = .ok (.iload 5, 2) := by decide +kernel
theorem dX5_mend_91 : decode cX5_mend 91 = .ok (.invokestatic 227, 3) := by decide +kernel
theorem dX5_mend_94 : decode cX5_mend 94 = .ok (.iload 4, 2) := by decide +kernel
theorem dX5_mend_96 : decode cX5_mend 96 = .ok (.if_icmp .ge 193, 3) := by decide +kernel
theorem dX5_mend_99 : decode cX5_mend 99 = .ok (.iload 6, 2) := by decide +kernel
theorem dX5_mend_101 : decode cX5_mend 101 = .ok (.bipush 100, 2) := by decide +kernel
theorem dX5_mend_103 : decode cX5_mend 103 = .ok (.iload 7, 2) := by decide +kernel
theorem dX5_mend_105 : decode cX5_mend 105 = .ok (.imul, 1) := by decide +kernel
theorem dX5_mend_106 : decode cX5_mend 106 = .ok (.isub, 1) := by decide +kernel
theorem dX5_mend_107 : decode cX5_mend 107 = .ok (.istore 8, 2) := by decide +kernel
theorem dX5_mend_109 : decode cX5_mend 109 = .ok (.iload 8, 2) := by decide +kernel
theorem dX5_mend_111 : decode cX5_mend 111 = .ok (.aload_n 0, 1) := by decide +kernel
theorem dX5_mend_112 : decode cX5_mend 112 = .ok (.getfield 28, 3) := by decide +kernel
theorem dX5_mend_115 : decode cX5_mend 115 = .ok (.iconst 0, 1) := by decide +kernel
theorem dX5_mend_116 : decode cX5_mend 116 = .ok (.iaload, 1) := by decide +kernel
theorem dX5_mend_117 : decode cX5_mend 117 = .ok (.isub, 1) := by decide +kernel
theorem dX5_mend_118 : decode cX5_mend 118 = .ok (.bipush 10, 2) := by decide +kernel
theorem dX5_mend_120 : decode cX5_mend 120 = .ok (.idiv, 1) := by decide +kernel
theorem dX5_mend_121 : decode cX5_mend 121 = .ok (.iconst 1, 1) := by decide +kernel
theorem dX5_mend_122 : decode cX5_mend 122 = .ok (.isub, 1) := by decide +kernel
theorem dX5_mend_123 : decode cX5_mend 123 = .ok (.istore 9, 2) := by decide +kernel
theorem dX5_mend_125 : decode cX5_mend 125 = .ok (.iload 8, 2) := by decide +kernel
theorem dX5_mend_127 : decode cX5_mend 127 = .ok (.aload_n 0, 1) := by decide +kernel
theorem dX5_mend_128 : decode cX5_mend 128 = .ok (.getfield 31, 3) := by decide +kernel
theorem dX5_mend_131 : decode cX5_mend 131 = .ok (.iconst 0, 1) := by decide +kernel
theorem dX5_mend_132 : decode cX5_mend 132 = .ok (.iaload, 1) := by decide +kernel
theorem dX5_mend_133 : decode cX5_mend 133 = .ok (.iadd, 1) := by decide +kernel
theorem dX5_mend_134 : decode cX5_mend 134 = .ok (.bipush 10, 2) := by decide +kernel
theorem dX5_mend_136 : decode cX5_mend 136 = .ok (.idiv, 1) := by decide +kernel
theorem dX5_mend_137 : decode cX5_mend 137 = .ok (.iconst 1, 1) := by decide +kernel
theorem dX5_mend_138 : decode cX5_mend 138 = .ok (.iadd, 1) := by decide +kernel
theorem dX5_mend_139 : decode cX5_mend 139 = .ok (.istore 10, 2) := by decide +kernel
theorem dX5_mend_141 : decode cX5_mend 141 = .ok (.iload 9, 2) := by decide +kernel
theorem dX5_mend_143 : decode cX5_mend 143 = .ok (.aload_n 0, 1) := by decide +kernel
theorem dX5_mend_144 : decode cX5_mend 144 = .ok (.getfield 31, 3) := by decide +kernel
theorem dX5_mend_147 : decode cX5_mend 147 = .ok (.iconst 1, 1) := by decide +kernel
theorem dX5_mend_148 : decode cX5_mend 148 = .ok (.iaload, 1) := by decide +kernel
theorem dX5_mend_149 : decode cX5_mend 149 = .ok (.ineg, 1) := by decide +kernel
theorem dX5_mend_150 : decode cX5_mend 150 = .ok (.if_icmp .ge 13, 3) := by decide +kernel
theorem dX5_mend_153 : decode cX5_mend 153 = .ok (.aload_n 0, 1) := by decide +kernel
theorem dX5_mend_154 : decode cX5_mend 154 = .ok (.getfield 31, 3) := by decide +kernel
theorem dX5_mend_157 : decode cX5_mend 157 = .ok (.iconst 1, 1) := by decide +kernel
theorem dX5_mend_158 : decode cX5_mend 158 = .ok (.iaload, 1) := by decide +kernel
theorem dX5_mend_159 : decode cX5_mend 159 = .ok (.ineg, 1) := by decide +kernel
theorem dX5_mend_160 : decode cX5_mend 160 = .ok (.goto 5, 3) := by decide +kernel
theorem dX5_mend_163 : decode cX5_mend 163 = .ok (.iload 9, 2) := by decide +kernel
theorem dX5_mend_165 : decode cX5_mend 165 = .ok (.istore 9, 2) := by decide +kernel
theorem dX5_mend_167 : decode cX5_mend 167 = .ok (.iload 10, 2) := by decide +kernel
theorem dX5_mend_169 : decode cX5_mend 169 = .ok (.aload_n 0, 1) := by decide +kernel
theorem dX5_mend_170 : decode cX5_mend 170 = .ok (.getfield 28, 3) := by decide +kernel
theorem dX5_mend_173 : decode cX5_mend 173 = .ok (.iconst 1, 1) := by decide +kernel
theorem dX5_mend_174 : decode cX5_mend 174 = .ok (.iaload, 1) := by decide +kernel
theorem dX5_mend_175 : decode cX5_mend 175 = .ok (.if_icmp .le 12, 3) := by decide +kernel
theorem dX5_mend_178 : decode cX5_mend 178 = .ok (.aload_n 0, 1) := by decide +kernel
theorem dX5_mend_179 : decode cX5_mend 179 = .ok (.getfield 28, 3) := by decide +kernel
theorem dX5_mend_182 : decode cX5_mend 182 = .ok (.iconst 1, 1) := by decide +kernel
theorem dX5_mend_183 : decode cX5_mend 183 = .ok (.iaload, 1) := by decide +kernel
theorem dX5_mend_184 : decode cX5_mend 184 = .ok (.goto 5, 3) := by decide +kernel
theorem dX5_mend_187 : decode cX5_mend 187 = .ok (.iload 10, 2) := by decide +kernel
theorem dX5_mend_189 : decode cX5_mend 189 = .ok (.istore 10, 2) := by decide +kernel
theorem dX5_mend_191 : decode cX5_mend 191 = .ok (.iload 9, 2) := by decide +kernel
theorem dX5_mend_193 : decode cX5_mend 193 = .ok (.istore 11, 2) := by decide +kernel
theorem dX5_mend_195 : decode cX5_mend 195 = .ok (.iload 11, 2) := by decide +kernel
theorem dX5_mend_197 : decode cX5_mend 197 = .ok (.iload 10, 2) := by decide +kernel
theorem dX5_mend_199 : decode cX5_mend 199 = .ok (.if_icmp .gt 84, 3) := by decide +kernel
theorem dX5_mend_202 : decode cX5_mend 202 = .ok (.iload 8, 2) := by decide +kernel
theorem dX5_mend_204 : decode cX5_mend 204 = .ok (.bipush 10, 2) := by decide +kernel
theorem dX5_mend_206 : decode cX5_mend 206 = .ok (.iload 11, 2) := by decide +kernel
theorem dX5_mend_208 : decode cX5_mend 208 = .ok (.imul, 1) := by decide +kernel
theorem dX5_mend_209 : decode cX5_mend 209 = .ok (.isub, 1) := by decide +kernel
theorem dX5_mend_210 : decode cX5_mend 210 = .ok (.istore 12, 2) := by decide +kernel
theorem dX5_mend_212 : decode cX5_mend 212 = .ok (.iload 5, 2) := by decide +kernel
theorem dX5_mend_214 : decode cX5_mend 214 = .ok (.invokestatic 227, 3) := by decide +kernel
theorem dX5_mend_217 : decode cX5_mend 217 = .ok (.iload 7, 2) := by decide +kernel
theorem dX5_mend_219 : decode cX5_mend 219 = .ok (.invokestatic 227, 3) := by decide +kernel
theorem dX5_mend_222 : decode cX5_mend 222 = .ok (.iadd, 1) := by decide +kernel
theorem dX5_mend_223 : decode cX5_mend 223 = .ok (.iload 11, 2) := by decide +kernel
theorem dX5_mend_225 : decode cX5_mend 225 = .ok (.invokestatic 227, 3) := by decide +kernel
theorem dX5_mend_228 : decode cX5_mend 228 = .ok (.iadd, 1) := by decide +kernel
theorem dX5_mend_229 : decode cX5_mend 229 = .ok (.iload 12, 2) := by decide +kernel
theorem dX5_mend_231 : decode cX5_mend 231 = .ok (.invokestatic 227, 3) := by decide +kernel
theorem dX5_mend_234 : decode cX5_mend 234 = .ok (.iadd, 1) := by decide +kernel
theorem dX5_mend_235 : decode cX5_mend 235 = .ok (.istore 13, 2) := by decide +kernel
theorem dX5_mend_237 : decode cX5_mend 237 = .ok (.iload 12, 2) := by decide +kernel
theorem dX5_mend_239 : decode cX5_mend 239 = .ok (.i2l, 1) := by decide +kernel
theorem dX5_mend_240 : decode cX5_mend 240 = .ok (.aload_n 0, 1) := by decide +kernel
theorem dX5_mend_241 : decode cX5_mend 241 = .ok (.getfield 31, 3) := by decide +kernel
theorem dX5_mend_244 : decode cX5_mend 244 = .ok (.iconst 0, 1) := by decide +kernel
theorem dX5_mend_245 : decode cX5_mend 245 = .ok (.iaload, 1) := by decide +kernel
theorem dX5_mend_246 : decode cX5_mend 246 = .ok (.ineg, 1) := by decide +kernel
theorem dX5_mend_247 : decode cX5_mend 247 = .ok (.i2l, 1) := by decide +kernel
theorem dX5_mend_248 : decode cX5_mend 248 = .ok (.aload_n 0, 1) := by decide +kernel
theorem dX5_mend_249 : decode cX5_mend 249 = .ok (.getfield 28, 3) := by decide +kernel
theorem dX5_mend_252 : decode cX5_mend 252 = .ok (.iconst 0, 1) := by decide +kernel
theorem dX5_mend_253 : decode cX5_mend 253 = .ok (.iaload, 1) := by decide +kernel
theorem dX5_mend_254 : decode cX5_mend 254 = .ok (.i2l, 1) := by decide +kernel
theorem dX5_mend_255 : decode cX5_mend 255 = .ok (.invokestatic 54, 3) := by decide +kernel
theorem dX5_mend_258 : decode cX5_mend 258 = .ok (.ifCond .eq 15, 3) := by decide +kernel
theorem dX5_mend_261 : decode cX5_mend 261 = .ok (.iload 13, 2) := by decide +kernel
theorem dX5_mend_263 : decode cX5_mend 263 = .ok (.iload 4, 2) := by decide +kernel
theorem dX5_mend_265 : decode cX5_mend 265 = .ok (.if_icmp .ge 8, 3) := by decide +kernel
theorem dX5_mend_268 : decode cX5_mend 268 = .ok (.iload 13, 2) := by decide +kernel
theorem dX5_mend_270 : decode cX5_mend 270 = .ok (.goto 5, 3) := by decide +kernel
theorem dX5_mend_273 : decode cX5_mend 273 = .ok (.iload 4, 2) := by decide +kernel
theorem dX5_mend_275 : decode cX5_mend 275 = .ok (.istore 4, 2) := by decide +kernel
theorem dX5_mend_277 : decode cX5_mend 277 = .ok (.iinc 11 1, 3) := by decide +kernel
theorem dX5_mend_280 : decode cX5_mend 280 = .ok (.goto (-85), 3) := by decide +kernel
theorem dX5_mend_283 : decode cX5_mend 283 = .ok (.iinc 7 1, 3) := by decide +kernel
theorem dX5_mend_286 : decode cX5_mend 286 = .ok (.goto (-208), 3) := by decide +kernel
theorem dX5_mend_289 : decode cX5_mend 289 = .ok (.iinc 5 1, 3) := by decide +kernel
theorem dX5_mend_292 : decode cX5_mend 292 = .ok (.goto (-244), 3) := by decide +kernel
theorem dX5_mend_295 : decode cX5_mend 295 = .ok (.iload 4, 2) := by decide +kernel
theorem dX5_mend_297 : decode cX5_mend 297 = .ok (.ldc 226, 2) := by decide +kernel
theorem dX5_mend_299 : decode cX5_mend 299 = .ok (.if_icmp .ne 8, 3) := by decide +kernel
theorem dX5_mend_302 : decode cX5_mend 302 = .ok (.bipush (-4), 2) := by decide +kernel
theorem dX5_mend_304 : decode cX5_mend 304 = .ok (.goto 5, 3) := by decide +kernel
theorem dX5_mend_307 : decode cX5_mend 307 = .ok (.iload 4, 2) := by decide +kernel
theorem dX5_mend_309 : decode cX5_mend 309 = .ok (.ireturn, 1) := by decide +kernel
theorem dX5_slip_0 : decode cX5_slip 0 = .ok (.aload_n 0, 1) := by decide +kernel
theorem dX5_slip_1 : decode cX5_slip 1 = .ok (.iload_n 1, 1) := by decide +kernel
theorem dX5_slip_2 : decode cX5_slip 2 = .ok (.invokevirtual 183, 3) := by decide +kernel
theorem dX5_slip_5 : decode cX5_slip 5 = .ok (.ifCond .eq 10, 3) := by decide +kernel
theorem dX5_slip_8 : decode cX5_slip 8 = .ok (.iload_n 2, 1) := by decide +kernel
theorem dX5_slip_9 : decode cX5_slip 9 = .ok (.invokestatic 230, 3) := by decide +kernel
theorem dX5_slip_12 : decode cX5_slip 12 = .ok (.ifCond .ne 5, 3) := by decide +kernel
theorem dX5_slip_15 : decode cX5_slip 15 = .ok (.iconst (-1), 1) := by decide +kernel
theorem dX5_slip_16 : decode cX5_slip 16 = .ok (.ireturn, 1) := by decide +kernel
theorem dX5_slip_17 : decode cX5_slip 17 = .ok (.aload_n 0, 1) := by decide +kernel
theorem dX5_slip_18 : decode cX5_slip 18 = .ok (.iload_n 1, 1) := by decide +kernel
theorem dX5_slip_19 : decode cX5_slip 19 = .ok (.invokevirtual 189, 3) := by decide +kernel
theorem dX5_slip_22 : decode cX5_slip 22 = .ok (.istore_n 3, 1) := by decide +kernel
theorem dX5_slip_23 : decode cX5_slip 23 = .ok (.iconst 0, 1) := by decide +kernel
theorem dX5_slip_24 : decode cX5_slip 24 = .ok (.istore 4, 2) := by decide +kernel
theorem dX5_slip_26 : decode cX5_slip 26 = .ok (.bipush (-4), 2) := by decide +kernel
theorem dX5_slip_28 : decode cX5_slip 28 = .ok (.istore 5, 2) := by decide +kernel
theorem dX5_slip_30 : decode cX5_slip 30 = .ok (.aload_n 0, 1) := by decide +kernel
theorem dX5_slip_31 : decode cX5_slip 31 = .ok (.getfield 7, 3) := by decide +kernel
theorem dX5_slip_34 : decode cX5_slip 34 = .ok (.iconst 0, 1) := by decide +kernel
theorem dX5_slip_35 : decode cX5_slip 35 = .ok (.iaload, 1) := by decide +kernel
theorem dX5_slip_36 : decode cX5_slip 36 = .ok (.iconst 1, 1) := by decide +kernel
theorem dX5_slip_37 : decode cX5_slip 37 = .ok (.isub, 1) := by decide +kernel
theorem dX5_slip_38 : decode cX5_slip 38 = .ok (.istore 6, 2) := by decide +kernel
theorem dX5_slip_40 : decode cX5_slip 40 = .ok (.iload 6, 2) := by decide +kernel
theorem dX5_slip_42 : decode cX5_slip 42 = .ok (.ifCond .lt 172, 3) := by decide +kernel
theorem dX5_slip_45 : decode cX5_slip 45 = .ok (.iload_n 3, 1) := by decide +kernel
theorem dX5_slip_46 : decode cX5_slip 46 = .ok (.bipush (-4), 2) := by decide +kernel
theorem dX5_slip_48 : decode cX5_slip 48 = .ok (.if_icmp .eq 166, 3) := by decide +kernel
theorem dX5_slip_51 : decode cX5_slip 51 = .ok (.aload_n 0, 1) := by decide +kernel
theorem dX5_slip_52 : decode cX5_slip 52 = .ok (.getfield 7, 3) := by decide +kernel
theorem dX5_slip_55 : decode cX5_slip 55 = .ok (.sipush 130, 3) := by decide +kernel
theorem dX5_slip_58 : decode cX5_slip 58 = .ok (.iload 6, 2) := by decide +kernel
theorem dX5_slip_60 : decode cX5_slip 60 = .ok (.iadd, 1) := by decide +kernel
theorem dX5_slip_61 : decode cX5_slip 61 = .ok (.iaload, 1) := by decide +kernel
theorem dX5_slip_62 : decode cX5_slip 62 = .ok (.iconst 1, 1) := by decide +kernel
theorem dX5_slip_63 : decode cX5_slip 63 = .ok (.if_icmp .ne 21, 3) := by decide +kernel
theorem dX5_slip_66 : decode cX5_slip 66 = .ok (.aload_n 0, 1) := by decide +kernel
theorem dX5_slip_67 : decode cX5_slip 67 = .ok (.getfield 7, 3) := by decide +kernel
theorem dX5_slip_70 : decode cX5_slip 70 = .ok (.bipush 114, 2) := by decide +kernel
theorem dX5_slip_72 : decode cX5_slip 72 = .ok (.iload 6, 2) := by decide +kernel
theorem dX5_slip_74 : decode cX5_slip 74 = .ok (.iadd, 1) := by decide +kernel
theorem dX5_slip_75 : decode cX5_slip 75 = .ok (.iaload, 1) := by decide +kernel
theorem dX5_slip_76 : decode cX5_slip 76 = .ok (.iload_n 1, 1) := by decide +kernel
theorem dX5_slip_77 : decode cX5_slip 77 = .ok (.if_icmp .ne 7, 3) := by decide +kernel
theorem dX5_slip_80 : decode cX5_slip 80 = .ok (.iconst 1, 1) := by decide +kernel
theorem dX5_slip_81 : decode cX5_slip 81 = .ok (.goto 4, 3) := by decide +kernel
theorem dX5_slip_84 : decode cX5_slip 84 = .ok (.iconst 0, 1) := by decide +kernel
theorem dX5_slip_85 : decode cX5_slip 85 = .ok (.istore 7, 2) := by decide +kernel
theorem dX5_slip_87 : decode cX5_slip 87 = .ok (.aload_n 0, 1) := by decide +kernel
theorem dX5_slip_88 : decode cX5_slip 88 = .ok (.getfield 7, 3) := by decide +kernel
theorem dX5_slip_91 : decode cX5_slip 91 = .ok (.bipush 18, 2) := by decide +kernel
theorem dX5_slip_93 : decode cX5_slip 93 = .ok (.iload 6, 2) := by decide +kernel
theorem dX5_slip_95 : decode cX5_slip 95 = .ok (.iadd, 1) := by decide +kernel
theorem dX5_slip_96 : decode cX5_slip 96 = .ok (.iaload, 1) := by decide +kernel
theorem dX5_slip_97 : decode cX5_slip 97 = .ok (.iconst 1, 1) := by decide +kernel
theorem dX5_slip_98 : decode cX5_slip 98 = .ok (.isub, 1) := by decide +kernel
theorem dX5_slip_99 : decode cX5_slip 99 = .ok (.istore 8, 2) := by decide +kernel
theorem dX5_slip_101 : decode cX5_slip 101 = .ok (.iload 8, 2) := by decide +kernel
theorem dX5_slip_103 : decode cX5_slip 103 = .ok (.ifCond .lt 105, 3) := by decide +kernel
theorem dX5_slip_106 : decode cX5_slip 106 = .ok (.iload 7, 2) := by decide +kernel
theorem dX5_slip_108 : decode cX5_slip 108 = .ok (.ifCond .ne 13, 3) := by decide +kernel
theorem dX5_slip_111 : decode cX5_slip 111 = .ok (.aload_n 0, 1) := by decide +kernel
theorem dX5_slip_112 : decode cX5_slip 112 = .ok (.iload 6, 2) := by decide +kernel
theorem dX5_slip_114 : decode cX5_slip 114 = .ok (.iload_n 1, 1) := by decide +kernel
theorem dX5_slip_115 : decode cX5_slip 115 = .ok (.invokevirtual 173, 3) := by decide +kernel
theorem dX5_slip_118 : decode cX5_slip 118 = .ok (.ifCond .eq 90, 3) := by decide +kernel
theorem dX5_slip_121 : decode cX5_slip 121 = .ok (.bipush 9, 2) := by decide +kernel
theorem dX5_slip_123 : decode cX5_slip 123 = .ok (.istore 9, 2) := by decide +kernel
theorem dX5_slip_125 : decode cX5_slip 125 = .ok (.iload 9, 2) := by decide +kernel
theorem dX5_slip_127 : decode cX5_slip 127 = .ok (.ifCond .lt 75, 3) := by decide +kernel
theorem dX5_slip_130 : decode cX5_slip 130 = .ok (.iload 9, 2) := by decide +kernel
theorem dX5_slip_132 : decode cX5_slip 132 = .ok (.aload_n 0, 1) := by decide +kernel
theorem dX5_slip_133 : decode cX5_slip 133 = .ok (.iload 6, 2) := by decide +kernel
theorem dX5_slip_135 : decode cX5_slip 135 = .ok (.iload 8, 2) := by decide +kernel
theorem dX5_slip_137 : decode cX5_slip 137 = .ok (.invokevirtual 134, 3) := by decide +kernel
theorem dX5_slip_140 : decode cX5_slip 140 = .ok (.bipush 10, 2) := by decide +kernel
theorem dX5_slip_142 : decode cX5_slip 142 = .ok (.irem, 1) := by decide +kernel
theorem dX5_slip_143 : decode cX5_slip 143 = .ok (.isub, 1) := by decide +kernel
theorem dX5_slip_144 : decode cX5_slip 144 = .ok (.iload 8, 2) := by decide +kernel
theorem dX5_slip_146 : decode cX5_slip 146 = .ok (.invokestatic 201, 3) := by decide +kernel
theorem dX5_slip_149 : decode cX5_slip 149 = .ok (.imul, 1) := by decide +kernel
theorem dX5_slip_150 : decode cX5_slip 150 = .ok (.istore 10, 2) := by decide +kernel
theorem dX5_slip_152 : decode cX5_slip 152 = .ok (.iload 10, 2) := by decide +kernel
theorem dX5_slip_154 : decode cX5_slip 154 = .ok (.ifCond .eq 42, 3) := by decide +kernel
theorem dX5_slip_157 : decode cX5_slip 157 = .ok (.iload_n 3, 1) := by decide +kernel
theorem dX5_slip_158 : decode cX5_slip 158 = .ok (.iload 7, 2) := by decide +kernel
theorem dX5_slip_160 : decode cX5_slip 160 = .ok (.ifCond .eq 9, 3) := by decide +kernel
theorem dX5_slip_163 : decode cX5_slip 163 = .ok (.iload 10, 2) := by decide +kernel
theorem dX5_slip_165 : decode cX5_slip 165 = .ok (.ineg, 1) := by decide +kernel
theorem dX5_slip_166 : decode cX5_slip 166 = .ok (.goto 5, 3) := by decide +kernel
theorem dX5_slip_169 : decode cX5_slip 169 = .ok (.iload 10, 2) := by decide +kernel
theorem dX5_slip_171 : decode cX5_slip 171 = .ok (.iadd, 1) := by decide +kernel
theorem dX5_slip_172 : decode cX5_slip 172 = .ok (.ldc 182, 2) := by decide +kernel
theorem dX5_slip_174 : decode cX5_slip 174 = .ok (.if_icmp .ne 22, 3) := by decide +kernel
theorem dX5_slip_177 : decode cX5_slip 177 = .ok (.iinc 4 1, 3) := by decide +kernel
theorem dX5_slip_180 : decode cX5_slip 180 = .ok (.bipush 100, 2) := by decide +kernel
theorem dX5_slip_182 : decode cX5_slip 182 = .ok (.iload 6, 2) := by decide +kernel
theorem dX5_slip_184 : decode cX5_slip 184 = .ok (.imul, 1) := by decide +kernel
theorem dX5_slip_185 : decode cX5_slip 185 = .ok (.bipush 10, 2) := by decide +kernel
theorem dX5_slip_187 : decode cX5_slip 187 = .ok (.iload 8, 2) := by decide +kernel
theorem dX5_slip_189 : decode cX5_slip 189 = .ok (.imul, 1) := by decide +kernel
theorem dX5_slip_190 : decode cX5_slip 190 = .ok (.iadd, 1) := by decide +kernel
theorem dX5_slip_191 : decode cX5_slip 191 = .ok (.iload 9, 2) := by decide +kernel
theorem dX5_slip_193 : decode cX5_slip 193 = .ok (.iadd, 1) := by decide +kernel
theorem dX5_slip_194 : decode cX5_slip 194 = .ok (.istore 5, 2) := by decide +kernel
theorem dX5_slip_196 : decode cX5_slip 196 = .ok (.iinc 9 (-1), 3) := by decide +kernel
theorem dX5_slip_199 : decode cX5_slip 199 = .ok (.goto (-74), 3) := by decide +kernel
theorem dX5_slip_202 : decode cX5_slip 202 = .ok (.iinc 8 (-1), 3) := by decide +kernel
theorem dX5_slip_205 : decode cX5_slip 205 = .ok (.goto (-104), 3) := by decide +kernel
theorem dX5_slip_208 : decode cX5_slip 208 = .ok (.iinc 6 (-1), 3) := by decide +kernel
theorem dX5_slip_211 : decode cX5_slip 211 = .ok (.goto (-171), 3) := by decide +kernel
theorem dX5_slip_214 : decode cX5_slip 214 = .ok (.iload_n 2, 1) := by decide +kernel
theorem dX5_slip_215 : decode cX5_slip 215 = .ok (.ifCond .ne 8, 3) := by decide +kernel
theorem dX5_slip_218 : decode cX5_slip 218 = .ok (.iload 4, 2) := by decide +kernel
theorem dX5_slip_220 : decode cX5_slip 220 = .ok (.goto 5, 3) := by decide +kernel
theorem dX5_slip_223 : decode cX5_slip 223 = .ok (.iload 5, 2) := by decide +kernel
theorem dX5_slip_225 : decode cX5_slip 225 = .ok (.ireturn, 1) := by decide +kernel
theorem dX5_lost_0 : decode cX5_lost 0 = .ok (.aload_n 0, 1) := by decide +kernel
theorem dX5_lost_1 : decode cX5_lost 1 = .ok (.iload_n 1, 1) := by decide +kernel
theorem dX5_lost_2 : decode cX5_lost 2 = .ok (.invokevirtual 156, 3) := by decide +kernel
theorem dX5_lost_5 : decode cX5_lost 5 = .ok (.ifCond .ne 5, 3) := by decide +kernel
theorem dX5_lost_8 : decode cX5_lost 8 = .ok (.iconst (-1), 1) := by decide +kernel
theorem dX5_lost_9 : decode cX5_lost 9 = .ok (.ireturn, 1) := by decide +kernel
theorem dX5_lost_10 : decode cX5_lost 10 = .ok (.aload_n 0, 1) := by decide +kernel
theorem dX5_lost_11 : decode cX5_lost 11 = .ok (.iload_n 1, 1) := by decide +kernel
theorem dX5_lost_12 : decode cX5_lost 12 = .ok (.invokevirtual 170, 3) := by decide +kernel
theorem dX5_lost_15 : decode cX5_lost 15 = .ok (.ifCond .ne 6, 3) := by decide +kernel
theorem dX5_lost_18 : decode cX5_lost 18 = .ok (.bipush (-2), 2) := by decide +kernel
theorem dX5_lost_20 : decode cX5_lost 20 = .ok (.ireturn, 1) := by decide +kernel
theorem dX5_lost_21 : decode cX5_lost 21 = .ok (.aload_n 0, 1) := by decide +kernel
theorem dX5_lost_22 : decode cX5_lost 22 = .ok (.getfield 7, 3) := by decide +kernel
theorem dX5_lost_25 : decode cX5_lost 25 = .ok (.bipush 114, 2) := by decide +kernel
theorem dX5_lost_27 : decode cX5_lost 27 = .ok (.iload_n 1, 1) := by decide +kernel
theorem dX5_lost_28 : decode cX5_lost 28 = .ok (.iadd, 1) := by decide +kernel
theorem dX5_lost_29 : decode cX5_lost 29 = .ok (.iaload, 1) := by decide +kernel
theorem dX5_lost_30 : decode cX5_lost 30 = .ok (.istore_n 2, 1) := by decide +kernel
theorem dX5_lost_31 : decode cX5_lost 31 = .ok (.aload_n 0, 1) := by decide +kernel
theorem dX5_lost_32 : decode cX5_lost 32 = .ok (.iload_n 2, 1) := by decide +kernel
theorem dX5_lost_33 : decode cX5_lost 33 = .ok (.invokevirtual 176, 3) := by decide +kernel
theorem dX5_lost_36 : decode cX5_lost 36 = .ok (.istore_n 3, 1) := by decide +kernel
theorem dX5_lost_37 : decode cX5_lost 37 = .ok (.iload_n 3, 1) := by decide +kernel
theorem dX5_lost_38 : decode cX5_lost 38 = .ok (.bipush (-4), 2) := by decide +kernel
theorem dX5_lost_40 : decode cX5_lost 40 = .ok (.if_icmp .eq 23, 3) := by decide +kernel
theorem dX5_lost_43 : decode cX5_lost 43 = .ok (.aload_n 0, 1) := by decide +kernel
theorem dX5_lost_44 : decode cX5_lost 44 = .ok (.iload_n 3, 1) := by decide +kernel
theorem dX5_lost_45 : decode cX5_lost 45 = .ok (.invokevirtual 165, 3) := by decide +kernel
theorem dX5_lost_48 : decode cX5_lost 48 = .ok (.bipush (-4), 2) := by decide +kernel
theorem dX5_lost_50 : decode cX5_lost 50 = .ok (.if_icmp .eq 13, 3) := by decide +kernel
theorem dX5_lost_53 : decode cX5_lost 53 = .ok (.aload_n 0, 1) := by decide +kernel
theorem dX5_lost_54 : decode cX5_lost 54 = .ok (.iload_n 1, 1) := by decide +kernel
theorem dX5_lost_55 : decode cX5_lost 55 = .ok (.invokevirtual 150, 3) := by decide +kernel
theorem dX5_lost_58 : decode cX5_lost 58 = .ok (.bipush (-4), 2) := by decide +kernel
theorem dX5_lost_60 : decode cX5_lost 60 = .ok (.if_icmp .ne 6, 3) := by decide +kernel
theorem dX5_lost_63 : decode cX5_lost 63 = .ok (.bipush (-4), 2) := by decide +kernel
theorem dX5_lost_65 : decode cX5_lost 65 = .ok (.ireturn, 1) := by decide +kernel
theorem dX5_lost_66 : decode cX5_lost 66 = .ok (.aload_n 0, 1) := by decide +kernel
theorem dX5_lost_67 : decode cX5_lost 67 = .ok (.iload_n 3, 1) := by decide +kernel
theorem dX5_lost_68 : decode cX5_lost 68 = .ok (.invokevirtual 165, 3) := by decide +kernel
theorem dX5_lost_71 : decode cX5_lost 71 = .ok (.aload_n 0, 1) := by decide +kernel
theorem dX5_lost_72 : decode cX5_lost 72 = .ok (.iload_n 1, 1) := by decide +kernel
theorem dX5_lost_73 : decode cX5_lost 73 = .ok (.invokevirtual 150, 3) := by decide +kernel
theorem dX5_lost_76 : decode cX5_lost 76 = .ok (.isub, 1) := by decide +kernel
theorem dX5_lost_77 : decode cX5_lost 77 = .ok (.istore 4, 2) := by decide +kernel
theorem dX5_lost_79 : decode cX5_lost 79 = .ok (.iconst 0, 1) := by decide +kernel
theorem dX5_lost_80 : decode cX5_lost 80 = .ok (.istore 5, 2) := by decide +kernel
theorem dX5_lost_82 : decode cX5_lost 82 = .ok (.iload 5, 2) := by decide +kernel
theorem dX5_lost_84 : decode cX5_lost 84 = .ok (.aload_n 0, 1) := by decide +kernel
theorem dX5_lost_85 : decode cX5_lost 85 = .ok (.getfield 7, 3) := by decide +kernel
theorem dX5_lost_88 : decode cX5_lost 88 = .ok (.iconst 0, 1) := by decide +kernel
theorem dX5_lost_89 : decode cX5_lost 89 = .ok (.iaload, 1) := by decide +kernel
theorem dX5_lost_90 : decode cX5_lost 90 = .ok (.if_icmp .ge 50, 3) := by decide +kernel
theorem dX5_lost_93 : decode cX5_lost 93 = .ok (.iload 5, 2) := by decide +kernel
theorem dX5_lost_95 : decode cX5_lost 95 = .ok (.iload_n 1, 1) := by decide +kernel
theorem dX5_lost_96 : decode cX5_lost 96 = .ok (.if_icmp .eq 38, 3) := by decide +kernel
theorem dX5_lost_99 : decode cX5_lost 99 = .ok (.aload_n 0, 1) := by decide +kernel
theorem dX5_lost_100 : decode cX5_lost 100 = .ok (.iload 5, 2) := by decide +kernel
theorem dX5_lost_102 : decode cX5_lost 102 = .ok (.iload_n 2, 1) := by decide +kernel
theorem dX5_lost_103 : decode cX5_lost 103 = .ok (.invokevirtual 173, 3) := by decide +kernel
theorem dX5_lost_106 : decode cX5_lost 106 = .ok (.ifCond .eq 28, 3) := by decide +kernel
theorem dX5_lost_109 : decode cX5_lost 109 = .ok (.aload_n 0, 1) := by decide +kernel
theorem dX5_lost_110 : decode cX5_lost 110 = .ok (.iload 5, 2) := by decide +kernel
theorem dX5_lost_112 : decode cX5_lost 112 = .ok (.invokevirtual 165, 3) := by decide +kernel
theorem dX5_lost_115 : decode cX5_lost 115 = .ok (.bipush (-4), 2) := by decide +kernel
theorem dX5_lost_117 : decode cX5_lost 117 = .ok (.if_icmp .ne 6, 3) := by decide +kernel
theorem dX5_lost_120 : decode cX5_lost 120 = .ok (.bipush (-4), 2) := by decide +kernel
theorem dX5_lost_122 : decode cX5_lost 122 = .ok (.ireturn, 1) := by decide +kernel
theorem dX5_lost_123 : decode cX5_lost 123 = .ok (.iload 4, 2) := by decide +kernel
theorem dX5_lost_125 : decode cX5_lost 125 = .ok (.aload_n 0, 1) := by decide +kernel
theorem dX5_lost_126 : decode cX5_lost 126 = .ok (.iload 5, 2) := by decide +kernel
theorem dX5_lost_128 : decode cX5_lost 128 = .ok (.invokevirtual 165, 3) := by decide +kernel
theorem dX5_lost_131 : decode cX5_lost 131 = .ok (.isub, 1) := by decide +kernel
theorem dX5_lost_132 : decode cX5_lost 132 = .ok (.istore 4, 2) := by decide +kernel
theorem dX5_lost_134 : decode cX5_lost 134 = .ok (.iinc 5 1, 3) := by decide +kernel
theorem dX5_lost_137 : decode cX5_lost 137 = .ok (.goto (-55), 3) := by decide +kernel
theorem dX5_lost_140 : decode cX5_lost 140 = .ok (.iload 4, 2) := by decide +kernel
theorem dX5_lost_142 : decode cX5_lost 142 = .ok (.i2l, 1) := by decide +kernel
theorem dX5_lost_143 : decode cX5_lost 143 = .ok (.lconst 0, 1) := by decide +kernel
theorem dX5_lost_144 : decode cX5_lost 144 = .ok (.ldc2_w 213, 3) := by decide +kernel
theorem dX5_lost_147 : decode cX5_lost 147 = .ok (.invokestatic 54, 3) := by decide +kernel
theorem dX5_lost_150 : decode cX5_lost 150 = .ok (.ifCond .eq 8, 3) := by decide +kernel
theorem dX5_lost_153 : decode cX5_lost 153 = .ok (.iload 4, 2) := by decide +kernel
theorem dX5_lost_155 : decode cX5_lost 155 = .ok (.goto 5, 3) := by decide +kernel
theorem dX5_lost_158 : decode cX5_lost 158 = .ok (.bipush (-4), 2) := by decide +kernel
theorem dX5_lost_160 : decode cX5_lost 160 = .ok (.ireturn, 1) := by decide +kernel
theorem dX5_closed_0 : decode cX5_closed 0 = .ok (.aload_n 0, 1) := by decide +kernel
theorem dX5_closed_1 : decode cX5_closed 1 = .ok (.iload_n 1, 1) := by decide +kernel
theorem dX5_closed_2 : decode cX5_closed 2 = .ok (.invokevirtual 156, 3) := by decide +kernel
theorem dX5_closed_5 : decode cX5_closed 5 = .ok (.ifCond .eq 22, 3) := by decide +kernel
theorem dX5_closed_8 : decode cX5_closed 8 = .ok (.iload_n 2, 1) := by decide +kernel
theorem dX5_closed_9 : decode cX5_closed 9 = .ok (.i2l, 1) := by decide +kernel
theorem dX5_closed_10 : decode cX5_closed 10 = .ok (.lconst 1, 1) := by decide +kernel
theorem dX5_closed_11 : decode cX5_closed 11 = .ok (.ldc2_w 233, 3) := by decide +kernel
theorem dX5_closed_14 : decode cX5_closed 14 = .ok (.invokestatic 54, 3) := by decide +kernel
theorem dX5_closed_17 : decode cX5_closed 17 = .ok (.ifCond .eq 10, 3) := by decide +kernel
theorem dX5_closed_20 : decode cX5_closed 20 = .ok (.iload_n 3, 1) := by decide +kernel
theorem dX5_closed_21 : decode cX5_closed 21 = .ok (.invokestatic 230, 3) := by decide +kernel
theorem dX5_closed_24 : decode cX5_closed 24 = .ok (.ifCond .ne 5, 3) := by decide +kernel
theorem dX5_closed_27 : decode cX5_closed 27 = .ok (.iconst (-1), 1) := by decide +kernel
theorem dX5_closed_28 : decode cX5_closed 28 = .ok (.ireturn, 1) := by decide +kernel
theorem dX5_closed_29 : decode cX5_closed 29 = .ok (.iconst 0, 1) := by decide +kernel
theorem dX5_closed_30 : decode cX5_closed 30 = .ok (.istore 4, 2) := by decide +kernel
theorem dX5_closed_32 : decode cX5_closed 32 = .ok (.iconst 0, 1) := by decide +kernel
theorem dX5_closed_33 : decode cX5_closed 33 = .ok (.istore 5, 2) := by decide +kernel
theorem dX5_closed_35 : decode cX5_closed 35 = .ok (.iload 5, 2) := by decide +kernel
theorem dX5_closed_37 : decode cX5_closed 37 = .ok (.aload_n 0, 1) := by decide +kernel
theorem dX5_closed_38 : decode cX5_closed 38 = .ok (.getfield 7, 3) := by decide +kernel
theorem dX5_closed_41 : decode cX5_closed 41 = .ok (.bipush 18, 2) := by decide +kernel
theorem dX5_closed_43 : decode cX5_closed 43 = .ok (.iload_n 1, 1) := by decide +kernel
theorem dX5_closed_44 : decode cX5_closed 44 = .ok (.iadd, 1) := by decide +kernel
theorem dX5_closed_45 : decode cX5_closed 45 = .ok (.iaload, 1) := by decide +kernel
theorem dX5_closed_46 : decode cX5_closed 46 = .ok (.if_icmp .ge 36, 3) := by decide +kernel
theorem dX5_closed_49 : decode cX5_closed 49 = .ok (.aload_n 0, 1) := by decide +kernel
theorem dX5_closed_50 : decode cX5_closed 50 = .ok (.iload_n 1, 1) := by decide +kernel
theorem dX5_closed_51 : decode cX5_closed 51 = .ok (.iload 5, 2) := by decide +kernel
theorem dX5_closed_53 : decode cX5_closed 53 = .ok (.invokevirtual 134, 3) := by decide +kernel
theorem dX5_closed_56 : decode cX5_closed 56 = .ok (.ifCond .eq 20, 3) := by decide +kernel
theorem dX5_closed_59 : decode cX5_closed 59 = .ok (.aload_n 0, 1) := by decide +kernel
theorem dX5_closed_60 : decode cX5_closed 60 = .ok (.getfield 34, 3) := by decide +kernel
theorem dX5_closed_63 : decode cX5_closed 63 = .ok (.iload 4, 2) := by decide +kernel
theorem dX5_closed_65 : decode cX5_closed 65 = .ok (.aload_n 0, 1) := by decide +kernel
theorem dX5_closed_66 : decode cX5_closed 66 = .ok (.iload_n 1, 1) := by decide +kernel
theorem dX5_closed_67 : decode cX5_closed 67 = .ok (.iload 5, 2) := by decide +kernel
theorem dX5_closed_69 : decode cX5_closed 69 = .ok (.invokevirtual 134, 3) := by decide +kernel
theorem dX5_closed_72 : decode cX5_closed 72 = .ok (.iastore, 1) := by decide +kernel
theorem dX5_closed_73 : decode cX5_closed 73 = .ok (.iinc 4 1, 3) := by decide +kernel
theorem dX5_closed_76 : decode cX5_closed 76 = .ok (.iinc 5 1, 3) := by decide +kernel
theorem dX5_closed_79 : decode cX5_closed 79 = .ok (.goto (-44), 3) := by decide +kernel
theorem dX5_closed_82 : decode cX5_closed 82 = .ok (.iconst 0, 1) := by decide +kernel
theorem dX5_closed_83 : decode cX5_closed 83 = .ok (.istore 5, 2) := by decide +kernel
theorem dX5_closed_85 : decode cX5_closed 85 = .ok (.bipush (-4), 2) := by decide +kernel
theorem dX5_closed_87 : decode cX5_closed 87 = .ok (.istore 6, 2) := by decide +kernel
theorem dX5_closed_89 : decode cX5_closed 89 = .ok (.iconst 0, 1) := by decide +kernel
theorem dX5_closed_90 : decode cX5_closed 90 = .ok (.istore 7, 2) := by decide +kernel
theorem dX5_closed_92 : decode cX5_closed 92 = .ok (.iload 7, 2) := by decide +kernel
theorem dX5_closed_94 : decode cX5_closed 94 = .ok (.iconst 1, 1) := by decide +kernel
theorem dX5_closed_95 : decode cX5_closed 95 = .ok (.iload_n 2, 1) := by decide +kernel
theorem dX5_closed_96 : decode cX5_closed 96 = .ok (.ishl, 1) := by decide +kernel
theorem dX5_closed_97 : decode cX5_closed 97 = .ok (.if_icmp .ge 166, 3) := by decide +kernel
theorem dX5_closed_100 : decode cX5_closed 100 = .ok (.iconst 0, 1) := by decide +kernel
theorem dX5_closed_101 : decode cX5_closed 101 = .ok (.istore 8, 2) := by decide +kernel
theorem dX5_closed_103 : decode cX5_closed 103 = .ok (.iconst 0, 1) := by decide +kernel
theorem dX5_closed_104 : decode cX5_closed 104 = .ok (.istore 9, 2) := by decide +kernel
theorem dX5_closed_106 : decode cX5_closed 106 = .ok (.iconst 1, 1) := by decide +kernel
theorem dX5_closed_107 : decode cX5_closed 107 = .ok (.istore 10, 2) := by decide +kernel
theorem dX5_closed_109 : decode cX5_closed 109 = .ok (.iconst 0, 1) := by decide +kernel
theorem dX5_closed_110 : decode cX5_closed 110 = .ok (.istore 11, 2) := by decide +kernel
theorem dX5_closed_112 : decode cX5_closed 112 = .ok (.iload 11, 2) := by decide +kernel
theorem dX5_closed_114 : decode cX5_closed 114 = .ok (.iload_n 2, 1) := by decide +kernel
theorem dX5_closed_115 : decode cX5_closed 115 = .ok (.if_icmp .ge 104, 3) := by decide +kernel
theorem dX5_closed_118 : decode cX5_closed 118 = .ok (.iload 10, 2) := by decide +kernel
theorem dX5_closed_120 : decode cX5_closed 120 = .ok (.ifCond .eq 99, 3) := by decide +kernel
theorem dX5_closed_123 : decode cX5_closed 123 = .ok (.iload 7, 2) := by decide +kernel
theorem dX5_closed_125 : decode cX5_closed 125 = .ok (.iload 11, 2) := by decide +kernel
theorem dX5_closed_127 : decode cX5_closed 127 = .ok (.ishr, 1) := by decide +kernel
theorem dX5_closed_128 : decode cX5_closed 128 = .ok (.iconst 1, 1) := by decide +kernel
theorem dX5_closed_129 : decode cX5_closed 129 = .ok (.iand, 1) := by decide +kernel
theorem dX5_closed_130 : decode cX5_closed 130 = .ok (.iconst 1, 1) := by decide +kernel
theorem dX5_closed_131 : decode cX5_closed 131 = .ok (.if_icmp .ne 82, 3) := by decide +kernel
theorem dX5_closed_134 : decode cX5_closed 134 = .ok (.iload 8, 2) := by decide +kernel
theorem dX5_closed_136 : decode cX5_closed 136 = .ok (.iload 4, 2) := by decide +kernel
theorem dX5_closed_138 : decode cX5_closed 138 = .ok (.if_icmp .ge 39, 3) := by decide +kernel
theorem dX5_closed_141 : decode cX5_closed 141 = .ok (.aload_n 0, 1) := by decide +kernel
theorem dX5_closed_142 : decode cX5_closed 142 = .ok (.getfield 34, 3) := by decide +kernel
theorem dX5_closed_145 : decode cX5_closed 145 = .ok (.iload 8, 2) := by decide +kernel
theorem dX5_closed_147 : decode cX5_closed 147 = .ok (.iaload, 1) := by decide +kernel
theorem dX5_closed_148 : decode cX5_closed 148 = .ok (.bipush 10, 2) := by decide +kernel
theorem dX5_closed_150 : decode cX5_closed 150 = .ok (.idiv, 1) := by decide +kernel
theorem dX5_closed_151 : decode cX5_closed 151 = .ok (.iconst 1, 1) := by decide +kernel
theorem dX5_closed_152 : decode cX5_closed 152 = .ok (.if_icmp .ne 7, 3) := by decide +kernel
theorem dX5_closed_155 : decode cX5_closed 155 = .ok (.iconst 1, 1) := by decide +kernel
theorem dX5_closed_156 : decode cX5_closed 156 = .ok (.goto 4, 3) := by decide +kernel
theorem dX5_closed_159 : decode cX5_closed 159 = .ok (.iconst 0, 1) := by decide +kernel
theorem dX5_closed_160 : decode cX5_closed 160 = .ok (.iload 11, 2) := by decide +kernel
theorem dX5_closed_162 : decode cX5_closed 162 = .ok (.ifCond .le 7, 3) := by decide +kernel
theorem dX5_closed_165 : decode cX5_closed 165 = .ok (.iconst 1, 1) := by decide +kernel
theorem dX5_closed_166 : decode cX5_closed 166 = .ok (.goto 4, 3) := by decide +kernel
theorem dX5_closed_169 : decode cX5_closed 169 = .ok (.iconst 0, 1) := by decide +kernel
theorem dX5_closed_170 : decode cX5_closed 170 = .ok (.if_icmp .ne 7, 3) := by decide +kernel
theorem dX5_closed_173 : decode cX5_closed 173 = .ok (.iconst 1, 1) := by decide +kernel
theorem dX5_closed_174 : decode cX5_closed 174 = .ok (.goto 4, 3) := by decide +kernel
theorem dX5_closed_177 : decode cX5_closed 177 = .ok (.iconst 0, 1) := by decide +kernel
theorem dX5_closed_178 : decode cX5_closed 178 = .ok (.istore 10, 2) := by decide +kernel
theorem dX5_closed_180 : decode cX5_closed 180 = .ok (.iload 9, 2) := by decide +kernel
theorem dX5_closed_182 : decode cX5_closed 182 = .ok (.iload 10, 2) := by decide +kernel
theorem dX5_closed_184 : decode cX5_closed 184 = .ok (.ifCond .eq 22, 3) := by decide +kernel
theorem dX5_closed_187 : decode cX5_closed 187 = .ok (.aload_n 0, 1) := by decide +kernel
theorem dX5_closed_188 : decode cX5_closed 188 = .ok (.getfield 34, 3) := by decide +kernel
theorem dX5_closed_191 : decode cX5_closed 191 = .ok (.iload 8, 2) := by decide +kernel
theorem dX5_closed_193 : decode cX5_closed 193 = .ok (.iaload, 1) := by decide +kernel
theorem dX5_closed_194 : decode cX5_closed 194 = .ok (.bipush 10, 2) := by decide +kernel
theorem dX5_closed_196 : decode cX5_closed 196 = .ok (.irem, 1) := by decide +kernel
theorem dX5_closed_197 : decode cX5_closed 197 = .ok (.iload 11, 2) := by decide +kernel
theorem dX5_closed_199 : decode cX5_closed 199 = .ok (.invokestatic 201, 3) := by decide +kernel
theorem dX5_closed_202 : decode cX5_closed 202 = .ok (.imul, 1) := by decide +kernel
theorem dX5_closed_203 : decode cX5_closed 203 = .ok (.goto 4, 3) := by decide +kernel
theorem dX5_closed_206 : decode cX5_closed 206 = .ok (.iconst 0, 1) := by decide +kernel
theorem dX5_closed_207 : decode cX5_closed 207 = .ok (.iadd, 1) := by decide +kernel
theorem dX5_closed_208 : decode cX5_closed 208 = .ok (.istore 9, 2) := by decide +kernel
theorem dX5_closed_210 : decode cX5_closed 210 = .ok (.iinc 8 1, 3) := by decide +kernel
theorem dX5_closed_213 : decode cX5_closed 213 = .ok (.iinc 11 1, 3) := by decide +kernel
theorem dX5_closed_216 : decode cX5_closed 216 = .ok (.goto (-104), 3) := by decide +kernel
theorem dX5_closed_219 : decode cX5_closed 219 = .ok (.iload 10, 2) := by decide +kernel
theorem dX5_closed_221 : decode cX5_closed 221 = .ok (.ifCond .eq 36, 3) := by decide +kernel
theorem dX5_closed_224 : decode cX5_closed 224 = .ok (.iload 8, 2) := by decide +kernel
theorem dX5_closed_226 : decode cX5_closed 226 = .ok (.iload 4, 2) := by decide +kernel
theorem dX5_closed_228 : decode cX5_closed 228 = .ok (.if_icmp .ne 29, 3) := by decide +kernel
theorem dX5_closed_231 : decode cX5_closed 231 = .ok (.iinc 5 1, 3) := by decide +kernel
theorem dX5_closed_234 : decode cX5_closed 234 = .ok (.iload 6, 2) := by decide +kernel
theorem dX5_closed_236 : decode cX5_closed 236 = .ok (.bipush (-4), 2) := by decide +kernel
theorem dX5_closed_238 : decode cX5_closed 238 = .ok (.if_icmp .eq 10, 3) := by decide +kernel
theorem dX5_closed_241 : decode cX5_closed 241 = .ok (.iload 9, 2) := by decide +kernel
theorem dX5_closed_243 : decode cX5_closed 243 = .ok (.iload 6, 2) := by decide +kernel
theorem dX5_closed_245 : decode cX5_closed 245 = .ok (.if_icmp .ge 8, 3) := by decide +kernel
theorem dX5_closed_248 : decode cX5_closed 248 = .ok (.iload 9, 2) := by decide +kernel
theorem dX5_closed_250 : decode cX5_closed 250 = .ok (.goto 5, 3) := by decide +kernel
theorem dX5_closed_253 : decode cX5_closed 253 = .ok (.iload 6, 2) := by decide +kernel
theorem dX5_closed_255 : decode cX5_closed 255 = .ok (.istore 6, 2) := by decide +kernel
theorem dX5_closed_257 : decode cX5_closed 257 = .ok (.iinc 7 1, 3) := by decide +kernel
theorem dX5_closed_260 : decode cX5_closed 260 = .ok (.goto (-168), 3) := by decide +kernel
theorem dX5_closed_263 : decode cX5_closed 263 = .ok (.iload_n 3, 1) := by decide +kernel
theorem dX5_closed_264 : decode cX5_closed 264 = .ok (.ifCond .ne 8, 3) := by decide +kernel
theorem dX5_closed_267 : decode cX5_closed 267 = .ok (.iload 5, 2) := by decide +kernel
theorem dX5_closed_269 : decode cX5_closed 269 = .ok (.goto 5, 3) := by decide +kernel
theorem dX5_closed_272 : decode cX5_closed 272 = .ok (.iload 6, 2) := by decide +kernel
theorem dX5_closed_274 : decode cX5_closed 274 = .ok (.ireturn, 1) := by decide +kernel
theorem dX5_order_0 : decode cX5_order 0 = .ok (.aload_n 0, 1) := by decide +kernel
theorem dX5_order_1 : decode cX5_order 1 = .ok (.iload_n 1, 1) := by decide +kernel
theorem dX5_order_2 : decode cX5_order 2 = .ok (.invokevirtual 183, 3) := by decide +kernel
theorem dX5_order_5 : decode cX5_order 5 = .ok (.ifCond .ne 5, 3) := by decide +kernel
theorem dX5_order_8 : decode cX5_order 8 = .ok (.iconst (-1), 1) := by decide +kernel
theorem dX5_order_9 : decode cX5_order 9 = .ok (.ireturn, 1) := by decide +kernel
theorem dX5_order_10 : decode cX5_order 10 = .ok (.aload_n 0, 1) := by decide +kernel
theorem dX5_order_11 : decode cX5_order 11 = .ok (.iload_n 1, 1) := by decide +kernel
theorem dX5_order_12 : decode cX5_order 12 = .ok (.invokevirtual 186, 3) := by decide +kernel
theorem dX5_order_15 : decode cX5_order 15 = .ok (.istore_n 2, 1) := by decide +kernel
theorem dX5_order_16 : decode cX5_order 16 = .ok (.iconst 0, 1) := by decide +kernel
theorem dX5_order_17 : decode cX5_order 17 = .ok (.istore_n 3, 1) := by decide +kernel
theorem dX5_order_18 : decode cX5_order 18 = .ok (.iconst 0, 1) := by decide +kernel
theorem dX5_order_19 : decode cX5_order 19 = .ok (.istore 4, 2) := by decide +kernel
theorem dX5_order_21 : decode cX5_order 21 = .ok (.iload 4, 2) := by decide +kernel
theorem dX5_order_23 : decode cX5_order 23 = .ok (.iload_n 2, 1) := by decide +kernel
theorem dX5_order_24 : decode cX5_order 24 = .ok (.if_icmp .ge 151, 3) := by decide +kernel
theorem dX5_order_27 : decode cX5_order 27 = .ok (.aload_n 0, 1) := by decide +kernel
theorem dX5_order_28 : decode cX5_order 28 = .ok (.getfield 37, 3) := by decide +kernel
theorem dX5_order_31 : decode cX5_order 31 = .ok (.iload 4, 2) := by decide +kernel
theorem dX5_order_33 : decode cX5_order 33 = .ok (.aload_n 0, 1) := by decide +kernel
theorem dX5_order_34 : decode cX5_order 34 = .ok (.aload_n 0, 1) := by decide +kernel
theorem dX5_order_35 : decode cX5_order 35 = .ok (.iload_n 1, 1) := by decide +kernel
theorem dX5_order_36 : decode cX5_order 36 = .ok (.iload 4, 2) := by decide +kernel
theorem dX5_order_38 : decode cX5_order 38 = .ok (.invokevirtual 192, 3) := by decide +kernel
theorem dX5_order_41 : decode cX5_order 41 = .ok (.invokevirtual 146, 3) := by decide +kernel
theorem dX5_order_44 : decode cX5_order 44 = .ok (.iastore, 1) := by decide +kernel
theorem dX5_order_45 : decode cX5_order 45 = .ok (.aload_n 0, 1) := by decide +kernel
theorem dX5_order_46 : decode cX5_order 46 = .ok (.getfield 37, 3) := by decide +kernel
theorem dX5_order_49 : decode cX5_order 49 = .ok (.iload 4, 2) := by decide +kernel
theorem dX5_order_51 : decode cX5_order 51 = .ok (.iaload, 1) := by decide +kernel
theorem dX5_order_52 : decode cX5_order 52 = .ok (.bipush (-4), 2) := by decide +kernel
theorem dX5_order_54 : decode cX5_order 54 = .ok (.if_icmp .ne 6, 3) := by decide +kernel
theorem dX5_order_57 : decode cX5_order 57 = .ok (.bipush (-4), 2) := by decide +kernel
theorem dX5_order_59 : decode cX5_order 59 = .ok (.ireturn, 1) := by decide +kernel
theorem dX5_order_60 : decode cX5_order 60 = .ok (.aload_n 0, 1) := by decide +kernel
theorem dX5_order_61 : decode cX5_order 61 = .ok (.getfield 40, 3) := by decide +kernel
theorem dX5_order_64 : decode cX5_order 64 = .ok (.iload 4, 2) := by decide +kernel
theorem dX5_order_66 : decode cX5_order 66 = .ok (.iconst 1, 1) := by decide +kernel
theorem dX5_order_67 : decode cX5_order 67 = .ok (.iastore, 1) := by decide +kernel
theorem dX5_order_68 : decode cX5_order 68 = .ok (.iconst 0, 1) := by decide +kernel
theorem dX5_order_69 : decode cX5_order 69 = .ok (.istore 5, 2) := by decide +kernel
theorem dX5_order_71 : decode cX5_order 71 = .ok (.iload 5, 2) := by decide +kernel
theorem dX5_order_73 : decode cX5_order 73 = .ok (.iload 4, 2) := by decide +kernel
theorem dX5_order_75 : decode cX5_order 75 = .ok (.if_icmp .ge 71, 3) := by decide +kernel
theorem dX5_order_78 : decode cX5_order 78 = .ok (.aload_n 0, 1) := by decide +kernel
theorem dX5_order_79 : decode cX5_order 79 = .ok (.getfield 40, 3) := by decide +kernel
theorem dX5_order_82 : decode cX5_order 82 = .ok (.iload 4, 2) := by decide +kernel
theorem dX5_order_84 : decode cX5_order 84 = .ok (.aload_n 0, 1) := by decide +kernel
theorem dX5_order_85 : decode cX5_order 85 = .ok (.getfield 37, 3) := by decide +kernel
theorem dX5_order_88 : decode cX5_order 88 = .ok (.iload 5, 2) := by decide +kernel
theorem dX5_order_90 : decode cX5_order 90 = .ok (.iaload, 1) := by decide +kernel
theorem dX5_order_91 : decode cX5_order 91 = .ok (.aload_n 0, 1) := by decide +kernel
theorem dX5_order_92 : decode cX5_order 92 = .ok (.getfield 37, 3) := by decide +kernel
theorem dX5_order_95 : decode cX5_order 95 = .ok (.iload 4, 2) := by decide +kernel
theorem dX5_order_97 : decode cX5_order 97 = .ok (.iaload, 1) := by decide +kernel
theorem dX5_order_98 : decode cX5_order 98 = .ok (.if_icmp .gt 34, 3) := by decide +kernel
theorem dX5_order_101 : decode cX5_order 101 = .ok (.aload_n 0, 1) := by decide +kernel
theorem dX5_order_102 : decode cX5_order 102 = .ok (.getfield 40, 3) := by decide +kernel
theorem dX5_order_105 : decode cX5_order 105 = .ok (.iload 5, 2) := by decide +kernel
theorem dX5_order_107 : decode cX5_order 107 = .ok (.iaload, 1) := by decide +kernel
theorem dX5_order_108 : decode cX5_order 108 = .ok (.iconst 1, 1) := by decide +kernel
theorem dX5_order_109 : decode cX5_order 109 = .ok (.iadd, 1) := by decide +kernel
theorem dX5_order_110 : decode cX5_order 110 = .ok (.aload_n 0, 1) := by decide +kernel
theorem dX5_order_111 : decode cX5_order 111 = .ok (.getfield 40, 3) := by decide +kernel
theorem dX5_order_114 : decode cX5_order 114 = .ok (.iload 4, 2) := by decide +kernel
theorem dX5_order_116 : decode cX5_order 116 = .ok (.iaload, 1) := by decide +kernel
theorem dX5_order_117 : decode cX5_order 117 = .ok (.if_icmp .le 15, 3) := by decide +kernel
theorem dX5_order_120 : decode cX5_order 120 = .ok (.aload_n 0, 1) := by decide +kernel
theorem dX5_order_121 : decode cX5_order 121 = .ok (.getfield 40, 3) := by decide +kernel
theorem dX5_order_124 : decode cX5_order 124 = .ok (.iload 5, 2) := by decide +kernel
theorem dX5_order_126 : decode cX5_order 126 = .ok (.iaload, 1) := by decide +kernel
theorem dX5_order_127 : decode cX5_order 127 = .ok (.iconst 1, 1) := by decide +kernel
theorem dX5_order_128 : decode cX5_order 128 = .ok (.iadd, 1) := by decide +kernel
theorem dX5_order_129 : decode cX5_order 129 = .ok (.goto 10, 3) := by decide +kernel
theorem dX5_order_132 : decode cX5_order 132 = .ok (.aload_n 0, 1) := by decide +kernel
theorem dX5_order_133 : decode cX5_order 133 = .ok (.getfield 40, 3) := by decide +kernel
theorem dX5_order_136 : decode cX5_order 136 = .ok (.iload 4, 2) := by decide +kernel
theorem dX5_order_138 : decode cX5_order 138 = .ok (.iaload, 1) := by decide +kernel
theorem dX5_order_139 : decode cX5_order 139 = .ok (.iastore, 1) := by decide +kernel
theorem dX5_order_140 : decode cX5_order 140 = .ok (.iinc 5 1, 3) := by decide +kernel
theorem dX5_order_143 : decode cX5_order 143 = .ok (.goto (-72), 3) := by decide +kernel
theorem dX5_order_146 : decode cX5_order 146 = .ok (.aload_n 0, 1) := by decide +kernel
theorem dX5_order_147 : decode cX5_order 147 = .ok (.getfield 40, 3) := by decide +kernel
theorem dX5_order_150 : decode cX5_order 150 = .ok (.iload 4, 2) := by decide +kernel
theorem dX5_order_152 : decode cX5_order 152 = .ok (.iaload, 1) := by decide +kernel
theorem dX5_order_153 : decode cX5_order 153 = .ok (.iload_n 3, 1) := by decide +kernel
theorem dX5_order_154 : decode cX5_order 154 = .ok (.if_icmp .le 13, 3) := by decide +kernel
theorem dX5_order_157 : decode cX5_order 157 = .ok (.aload_n 0, 1) := by decide +kernel
theorem dX5_order_158 : decode cX5_order 158 = .ok (.getfield 40, 3) := by decide +kernel
theorem dX5_order_161 : decode cX5_order 161 = .ok (.iload 4, 2) := by decide +kernel
theorem dX5_order_163 : decode cX5_order 163 = .ok (.iaload, 1) := by decide +kernel
theorem dX5_order_164 : decode cX5_order 164 = .ok (.goto 4, 3) := by decide +kernel
theorem dX5_order_167 : decode cX5_order 167 = .ok (.iload_n 3, 1) := by decide +kernel
theorem dX5_order_168 : decode cX5_order 168 = .ok (.istore_n 3, 1) := by decide +kernel
theorem dX5_order_169 : decode cX5_order 169 = .ok (.iinc 4 1, 3) := by decide +kernel
theorem dX5_order_172 : decode cX5_order 172 = .ok (.goto (-151), 3) := by decide +kernel
theorem dX5_order_175 : decode cX5_order 175 = .ok (.iload_n 2, 1) := by decide +kernel
theorem dX5_order_176 : decode cX5_order 176 = .ok (.iload_n 3, 1) := by decide +kernel
theorem dX5_order_177 : decode cX5_order 177 = .ok (.isub, 1) := by decide +kernel
theorem dX5_order_178 : decode cX5_order 178 = .ok (.ireturn, 1) := by decide +kernel
theorem dX5_bits_0 : decode cX5_bits 0 = .ok (.iconst 0, 1) := by decide +kernel
theorem dX5_bits_1 : decode cX5_bits 1 = .ok (.istore_n 1, 1) := by decide +kernel
theorem dX5_bits_2 : decode cX5_bits 2 = .ok (.iload_n 0, 1) := by decide +kernel
theorem dX5_bits_3 : decode cX5_bits 3 = .ok (.istore_n 2, 1) := by decide +kernel
theorem dX5_bits_4 : decode cX5_bits 4 = .ok (.iload_n 2, 1) := by decide +kernel
theorem dX5_bits_5 : decode cX5_bits 5 = .ok (.ifCond .eq 15, 3) := by decide +kernel
theorem dX5_bits_8 : decode cX5_bits 8 = .ok (.iinc 1 1, 3) := by decide +kernel
theorem dX5_bits_11 : decode cX5_bits 11 = .ok (.iload_n 2, 1) := by decide +kernel
theorem dX5_bits_12 : decode cX5_bits 12 = .ok (.iload_n 2, 1) := by decide +kernel
theorem dX5_bits_13 : decode cX5_bits 13 = .ok (.iconst 1, 1) := by decide +kernel
theorem dX5_bits_14 : decode cX5_bits 14 = .ok (.isub, 1) := by decide +kernel
theorem dX5_bits_15 : decode cX5_bits 15 = .ok (.iand, 1) := by decide +kernel
theorem dX5_bits_16 : decode cX5_bits 16 = .ok (.istore_n 2, 1) := by decide +kernel
theorem dX5_bits_17 : decode cX5_bits 17 = .ok (.goto (-13), 3) := by decide +kernel
theorem dX5_bits_20 : decode cX5_bits 20 = .ok (.iload_n 1, 1) := by decide +kernel
theorem dX5_bits_21 : decode cX5_bits 21 = .ok (.ireturn, 1) := by decide +kernel
theorem dX5_tellOf_0 : decode cX5_tellOf 0 = .ok (.iconst 0, 1) := by decide +kernel
theorem dX5_tellOf_1 : decode cX5_tellOf 1 = .ok (.istore_n 2, 1) := by decide +kernel
theorem dX5_tellOf_2 : decode cX5_tellOf 2 = .ok (.iconst 0, 1) := by decide +kernel
theorem dX5_tellOf_3 : decode cX5_tellOf 3 = .ok (.istore_n 3, 1) := by decide +kernel
theorem dX5_tellOf_4 : decode cX5_tellOf 4 = .ok (.iload_n 3, 1) := by decide +kernel
theorem dX5_tellOf_5 : decode cX5_tellOf 5 = .ok (.aload_n 0, 1) := by decide +kernel
theorem dX5_tellOf_6 : decode cX5_tellOf 6 = .ok (.getfield 7, 3) := by decide +kernel
theorem dX5_tellOf_9 : decode cX5_tellOf 9 = .ok (.iconst 0, 1) := by decide +kernel
theorem dX5_tellOf_10 : decode cX5_tellOf 10 = .ok (.iaload, 1) := by decide +kernel
theorem dX5_tellOf_11 : decode cX5_tellOf 11 = .ok (.if_icmp .ge 31, 3) := by decide +kernel
theorem dX5_tellOf_14 : decode cX5_tellOf 14 = .ok (.iload_n 2, 1) := by decide +kernel
theorem dX5_tellOf_15 : decode cX5_tellOf 15 = .ok (.iload_n 1, 1) := by decide +kernel
theorem dX5_tellOf_16 : decode cX5_tellOf 16 = .ok (.iload_n 3, 1) := by decide +kernel
theorem dX5_tellOf_17 : decode cX5_tellOf 17 = .ok (.ishr, 1) := by decide +kernel
theorem dX5_tellOf_18 : decode cX5_tellOf 18 = .ok (.iconst 1, 1) := by decide +kernel
theorem dX5_tellOf_19 : decode cX5_tellOf 19 = .ok (.iand, 1) := by decide +kernel
theorem dX5_tellOf_20 : decode cX5_tellOf 20 = .ok (.iconst 1, 1) := by decide +kernel
theorem dX5_tellOf_21 : decode cX5_tellOf 21 = .ok (.if_icmp .ne 12, 3) := by decide +kernel
theorem dX5_tellOf_24 : decode cX5_tellOf 24 = .ok (.aload_n 0, 1) := by decide +kernel
theorem dX5_tellOf_25 : decode cX5_tellOf 25 = .ok (.getfield 37, 3) := by decide +kernel
theorem dX5_tellOf_28 : decode cX5_tellOf 28 = .ok (.iload_n 3, 1) := by decide +kernel
theorem dX5_tellOf_29 : decode cX5_tellOf 29 = .ok (.iaload, 1) := by decide +kernel
theorem dX5_tellOf_30 : decode cX5_tellOf 30 = .ok (.goto 4, 3) := by decide +kernel
theorem dX5_tellOf_33 : decode cX5_tellOf 33 = .ok (.iconst 0, 1) := by decide +kernel
theorem dX5_tellOf_34 : decode cX5_tellOf 34 = .ok (.iadd, 1) := by decide +kernel
theorem dX5_tellOf_35 : decode cX5_tellOf 35 = .ok (.istore_n 2, 1) := by decide +kernel
theorem dX5_tellOf_36 : decode cX5_tellOf 36 = .ok (.iinc 3 1, 3) := by decide +kernel
theorem dX5_tellOf_39 : decode cX5_tellOf 39 = .ok (.goto (-35), 3) := by decide +kernel
theorem dX5_tellOf_42 : decode cX5_tellOf 42 = .ok (.iload_n 2, 1) := by decide +kernel
theorem dX5_tellOf_43 : decode cX5_tellOf 43 = .ok (.ireturn, 1) := by decide +kernel
theorem dX5_layValues_0 : decode cX5_layValues 0 = .ok (.iconst 0, 1) := by decide +kernel
theorem dX5_layValues_1 : decode cX5_layValues 1 = .ok (.istore_n 1, 1) := by decide +kernel
theorem dX5_layValues_2 : decode cX5_layValues 2 = .ok (.iload_n 1, 1) := by decide +kernel
theorem dX5_layValues_3 : decode cX5_layValues 3 = .ok (.aload_n 0, 1) := by decide +kernel
theorem dX5_layValues_4 : decode cX5_layValues 4 = .ok (.getfield 7, 3) := by decide +kernel
theorem dX5_layValues_7 : decode cX5_layValues 7 = .ok (.iconst 0, 1) := by decide +kernel
theorem dX5_layValues_8 : decode cX5_layValues 8 = .ok (.iaload, 1) := by decide +kernel
theorem dX5_layValues_9 : decode cX5_layValues 9 = .ok (.if_icmp .ge 20, 3) := by decide +kernel
theorem dX5_layValues_12 : decode cX5_layValues 12 = .ok (.aload_n 0, 1) := by decide +kernel
theorem dX5_layValues_13 : decode cX5_layValues 13 = .ok (.getfield 37, 3) := by decide +kernel
theorem dX5_layValues_16 : decode cX5_layValues 16 = .ok (.iload_n 1, 1) := by decide +kernel
theorem dX5_layValues_17 : decode cX5_layValues 17 = .ok (.aload_n 0, 1) := by decide +kernel
theorem dX5_layValues_18 : decode cX5_layValues 18 = .ok (.iload_n 1, 1) := by decide +kernel
theorem dX5_layValues_19 : decode cX5_layValues 19 = .ok (.invokevirtual 146, 3) := by decide +kernel
theorem dX5_layValues_22 : decode cX5_layValues 22 = .ok (.iastore, 1) := by decide +kernel
theorem dX5_layValues_23 : decode cX5_layValues 23 = .ok (.iinc 1 1, 3) := by decide +kernel
theorem dX5_layValues_26 : decode cX5_layValues 26 = .ok (.goto (-24), 3) := by decide +kernel
theorem dX5_layValues_29 : decode cX5_layValues 29 = .ok (.return_, 1) := by decide +kernel
theorem dX5_share_0 : decode cX5_share 0 = .ok (.aload_n 0, 1) := by decide +kernel
theorem dX5_share_1 : decode cX5_share 1 = .ok (.iload_n 1, 1) := by decide +kernel
theorem dX5_share_2 : decode cX5_share 2 = .ok (.invokevirtual 183, 3) := by decide +kernel
theorem dX5_share_5 : decode cX5_share 5 = .ok (.ifCond .ne 8, 3) := by decide +kernel
theorem dX5_share_8 : decode cX5_share 8 = .ok (.iload_n 1, 1) := by decide +kernel
theorem dX5_share_9 : decode cX5_share 9 = .ok (.iconst 5, 1) := by decide +kernel
theorem dX5_share_10 : decode cX5_share 10 = .ok (.if_icmp .ne 10, 3) := by decide +kernel
theorem dX5_share_13 : decode cX5_share 13 = .ok (.iload_n 2, 1) := by decide +kernel
theorem dX5_share_14 : decode cX5_share 14 = .ok (.invokestatic 230, 3) := by decide +kernel
theorem dX5_share_17 : decode cX5_share 17 = .ok (.ifCond .ne 5, 3) := by decide +kernel
theorem dX5_share_20 : decode cX5_share 20 = .ok (.iconst (-1), 1) := by decide +kernel
theorem dX5_share_21 : decode cX5_share 21 = .ok (.ireturn, 1) := by decide +kernel
theorem dX5_share_22 : decode cX5_share 22 = .ok (.aload_n 0, 1) := by decide +kernel
theorem dX5_share_23 : decode cX5_share 23 = .ok (.invokevirtual 235, 3) := by decide +kernel
theorem dX5_share_26 : decode cX5_share 26 = .ok (.iconst 0, 1) := by decide +kernel
theorem dX5_share_27 : decode cX5_share 27 = .ok (.istore_n 3, 1) := by decide +kernel
theorem dX5_share_28 : decode cX5_share 28 = .ok (.iconst 0, 1) := by decide +kernel
theorem dX5_share_29 : decode cX5_share 29 = .ok (.istore 4, 2) := by decide +kernel
theorem dX5_share_31 : decode cX5_share 31 = .ok (.iload 4, 2) := by decide +kernel
theorem dX5_share_33 : decode cX5_share 33 = .ok (.aload_n 0, 1) := by decide +kernel
theorem dX5_share_34 : decode cX5_share 34 = .ok (.getfield 7, 3) := by decide +kernel
theorem dX5_share_37 : decode cX5_share 37 = .ok (.iconst 0, 1) := by decide +kernel
theorem dX5_share_38 : decode cX5_share 38 = .ok (.iaload, 1) := by decide +kernel
theorem dX5_share_39 : decode cX5_share 39 = .ok (.if_icmp .ge 41, 3) := by decide +kernel
theorem dX5_share_42 : decode cX5_share 42 = .ok (.aload_n 0, 1) := by decide +kernel
theorem dX5_share_43 : decode cX5_share 43 = .ok (.iload 4, 2) := by decide +kernel
theorem dX5_share_45 : decode cX5_share 45 = .ok (.iload_n 1, 1) := by decide +kernel
theorem dX5_share_46 : decode cX5_share 46 = .ok (.invokevirtual 173, 3) := by decide +kernel
theorem dX5_share_49 : decode cX5_share 49 = .ok (.ifCond .eq 25, 3) := by decide +kernel
theorem dX5_share_52 : decode cX5_share 52 = .ok (.aload_n 0, 1) := by decide +kernel
theorem dX5_share_53 : decode cX5_share 53 = .ok (.getfield 37, 3) := by decide +kernel
theorem dX5_share_56 : decode cX5_share 56 = .ok (.iload 4, 2) := by decide +kernel
theorem dX5_share_58 : decode cX5_share 58 = .ok (.iaload, 1) := by decide +kernel
theorem dX5_share_59 : decode cX5_share 59 = .ok (.bipush (-4), 2) := by decide +kernel
theorem dX5_share_61 : decode cX5_share 61 = .ok (.if_icmp .ne 6, 3) := by decide +kernel
theorem dX5_share_64 : decode cX5_share 64 = .ok (.bipush (-4), 2) := by decide +kernel
theorem dX5_share_66 : decode cX5_share 66 = .ok (.ireturn, 1) := by decide +kernel
theorem dX5_share_67 : decode cX5_share 67 = .ok (.iload_n 3, 1) := by decide +kernel
theorem dX5_share_68 : decode cX5_share 68 = .ok (.iconst 1, 1) := by decide +kernel
theorem dX5_share_69 : decode cX5_share 69 = .ok (.iload 4, 2) := by decide +kernel
theorem dX5_share_71 : decode cX5_share 71 = .ok (.ishl, 1) := by decide +kernel
theorem dX5_share_72 : decode cX5_share 72 = .ok (.ior, 1) := by decide +kernel
theorem dX5_share_73 : decode cX5_share 73 = .ok (.istore_n 3, 1) := by decide +kernel
theorem dX5_share_74 : decode cX5_share 74 = .ok (.iinc 4 1, 3) := by decide +kernel
theorem dX5_share_77 : decode cX5_share 77 = .ok (.goto (-46), 3) := by decide +kernel
theorem dX5_share_80 : decode cX5_share 80 = .ok (.aload_n 0, 1) := by decide +kernel
theorem dX5_share_81 : decode cX5_share 81 = .ok (.iload_n 3, 1) := by decide +kernel
theorem dX5_share_82 : decode cX5_share 82 = .ok (.invokevirtual 238, 3) := by decide +kernel
theorem dX5_share_85 : decode cX5_share 85 = .ok (.istore 4, 2) := by decide +kernel
theorem dX5_share_87 : decode cX5_share 87 = .ok (.iconst 0, 1) := by decide +kernel
theorem dX5_share_88 : decode cX5_share 88 = .ok (.istore 5, 2) := by decide +kernel
theorem dX5_share_90 : decode cX5_share 90 = .ok (.ldc 226, 2) := by decide +kernel
theorem dX5_share_92 : decode cX5_share 92 = .ok (.istore 6, 2) := by decide +kernel
theorem dX5_share_94 : decode cX5_share 94 = .ok (.iconst 0, 1) := by decide +kernel
theorem dX5_share_95 : decode cX5_share 95 = .ok (.istore 7, 2) := by decide +kernel
theorem dX5_share_97 : decode cX5_share 97 = .ok (.iload 7, 2) := by decide +kernel
theorem dX5_share_99 : decode cX5_share 99 = .ok (.iload_n 3, 1) := by decide +kernel
theorem dX5_share_100 : decode cX5_share 100 = .ok (.if_icmp .gt 66, 3) := by decide +kernel
theorem dX5_share_103 : decode cX5_share 103 = .ok (.iload 7, 2) := by decide +kernel
theorem dX5_share_105 : decode cX5_share 105 = .ok (.iload_n 3, 1) := by decide +kernel
theorem dX5_share_106 : decode cX5_share 106 = .ok (.iconst (-1), 1) := by decide +kernel
theorem dX5_share_107 : decode cX5_share 107 = .ok (.ixor, 1) := by decide +kernel
theorem dX5_share_108 : decode cX5_share 108 = .ok (.iand, 1) := by decide +kernel
theorem dX5_share_109 : decode cX5_share 109 = .ok (.ifCond .ne 51, 3) := by decide +kernel
theorem dX5_share_112 : decode cX5_share 112 = .ok (.iload 4, 2) := by decide +kernel
theorem dX5_share_114 : decode cX5_share 114 = .ok (.iconst 2, 1) := by decide +kernel
theorem dX5_share_115 : decode cX5_share 115 = .ok (.aload_n 0, 1) := by decide +kernel
theorem dX5_share_116 : decode cX5_share 116 = .ok (.iload 7, 2) := by decide +kernel
theorem dX5_share_118 : decode cX5_share 118 = .ok (.invokevirtual 238, 3) := by decide +kernel
theorem dX5_share_121 : decode cX5_share 121 = .ok (.imul, 1) := by decide +kernel
theorem dX5_share_122 : decode cX5_share 122 = .ok (.isub, 1) := by decide +kernel
theorem dX5_share_123 : decode cX5_share 123 = .ok (.invokestatic 227, 3) := by decide +kernel
theorem dX5_share_126 : decode cX5_share 126 = .ok (.istore 8, 2) := by decide +kernel
theorem dX5_share_128 : decode cX5_share 128 = .ok (.iload 8, 2) := by decide +kernel
theorem dX5_share_130 : decode cX5_share 130 = .ok (.iload 6, 2) := by decide +kernel
theorem dX5_share_132 : decode cX5_share 132 = .ok (.if_icmp .ge 8, 3) := by decide +kernel
theorem dX5_share_135 : decode cX5_share 135 = .ok (.iload 7, 2) := by decide +kernel
theorem dX5_share_137 : decode cX5_share 137 = .ok (.goto 5, 3) := by decide +kernel
theorem dX5_share_140 : decode cX5_share 140 = .ok (.iload 5, 2) := by decide +kernel
theorem dX5_share_142 : decode cX5_share 142 = .ok (.istore 5, 2) := by decide +kernel
theorem dX5_share_144 : decode cX5_share 144 = .ok (.iload 8, 2) := by decide +kernel
theorem dX5_share_146 : decode cX5_share 146 = .ok (.iload 6, 2) := by decide +kernel
theorem dX5_share_148 : decode cX5_share 148 = .ok (.if_icmp .ge 8, 3) := by decide +kernel
theorem dX5_share_151 : decode cX5_share 151 = .ok (.iload 8, 2) := by decide +kernel
theorem dX5_share_153 : decode cX5_share 153 = .ok (.goto 5, 3) := by decide +kernel
theorem dX5_share_156 : decode cX5_share 156 = .ok (.iload 6, 2) := by decide +kernel
theorem dX5_share_158 : decode cX5_share 158 = .ok (.istore 6, 2) := by decide +kernel
theorem dX5_share_160 : decode cX5_share 160 = .ok (.iinc 7 1, 3) := by decide +kernel
theorem dX5_share_163 : decode cX5_share 163 = .ok (.goto (-66), 3) := by decide +kernel
theorem dX5_share_166 : decode cX5_share 166 = .ok (.iload_n 2, 1) := by decide +kernel
theorem dX5_share_167 : decode cX5_share 167 = .ok (.ifCond .ne 8, 3) := by decide +kernel
theorem dX5_share_170 : decode cX5_share 170 = .ok (.iload 5, 2) := by decide +kernel
theorem dX5_share_172 : decode cX5_share 172 = .ok (.goto 5, 3) := by decide +kernel
theorem dX5_share_175 : decode cX5_share 175 = .ok (.iload 6, 2) := by decide +kernel
theorem dX5_share_177 : decode cX5_share 177 = .ok (.ireturn, 1) := by decide +kernel
theorem dX5_make_0 : decode cX5_make 0 = .ok (.iload_n 1, 1) := by decide +kernel
theorem dX5_make_1 : decode cX5_make 1 = .ok (.i2l, 1) := by decide +kernel
theorem dX5_make_2 : decode cX5_make 2 = .ok (.lconst 0, 1) := by decide +kernel
theorem dX5_make_3 : decode cX5_make 3 = .ok (.ldc2_w 213, 3) := by decide +kernel
theorem dX5_make_6 : decode cX5_make 6 = .ok (.invokestatic 54, 3) := by decide +kernel
theorem dX5_make_9 : decode cX5_make 9 = .ok (.ifCond .ne 5, 3) := by decide +kernel
theorem dX5_make_12 : decode cX5_make 12 = .ok (.iconst (-1), 1) := by decide +kernel
theorem dX5_make_13 : decode cX5_make 13 = .ok (.ireturn, 1) := by decide +kernel
theorem dX5_make_14 : decode cX5_make 14 = .ok (.aload_n 0, 1) := by decide +kernel
theorem dX5_make_15 : decode cX5_make 15 = .ok (.invokevirtual 235, 3) := by decide +kernel
theorem dX5_make_18 : decode cX5_make 18 = .ok (.iconst 0, 1) := by decide +kernel
theorem dX5_make_19 : decode cX5_make 19 = .ok (.istore_n 2, 1) := by decide +kernel
theorem dX5_make_20 : decode cX5_make 20 = .ok (.iconst 0, 1) := by decide +kernel
theorem dX5_make_21 : decode cX5_make 21 = .ok (.istore_n 3, 1) := by decide +kernel
theorem dX5_make_22 : decode cX5_make 22 = .ok (.iload_n 3, 1) := by decide +kernel
theorem dX5_make_23 : decode cX5_make 23 = .ok (.aload_n 0, 1) := by decide +kernel
theorem dX5_make_24 : decode cX5_make 24 = .ok (.getfield 7, 3) := by decide +kernel
theorem dX5_make_27 : decode cX5_make 27 = .ok (.iconst 0, 1) := by decide +kernel
theorem dX5_make_28 : decode cX5_make 28 = .ok (.iaload, 1) := by decide +kernel
theorem dX5_make_29 : decode cX5_make 29 = .ok (.if_icmp .ge 38, 3) := by decide +kernel
theorem dX5_make_32 : decode cX5_make 32 = .ok (.iload_n 2, 1) := by decide +kernel
theorem dX5_make_33 : decode cX5_make 33 = .ok (.aload_n 0, 1) := by decide +kernel
theorem dX5_make_34 : decode cX5_make 34 = .ok (.iload_n 3, 1) := by decide +kernel
theorem dX5_make_35 : decode cX5_make 35 = .ok (.invokevirtual 170, 3) := by decide +kernel
theorem dX5_make_38 : decode cX5_make 38 = .ok (.ifCond .eq 20, 3) := by decide +kernel
theorem dX5_make_41 : decode cX5_make 41 = .ok (.aload_n 0, 1) := by decide +kernel
theorem dX5_make_42 : decode cX5_make 42 = .ok (.getfield 37, 3) := by decide +kernel
theorem dX5_make_45 : decode cX5_make 45 = .ok (.iload_n 3, 1) := by decide +kernel
theorem dX5_make_46 : decode cX5_make 46 = .ok (.iaload, 1) := by decide +kernel
theorem dX5_make_47 : decode cX5_make 47 = .ok (.bipush (-4), 2) := by decide +kernel
theorem dX5_make_49 : decode cX5_make 49 = .ok (.if_icmp .eq 9, 3) := by decide +kernel
theorem dX5_make_52 : decode cX5_make 52 = .ok (.iconst 1, 1) := by decide +kernel
theorem dX5_make_53 : decode cX5_make 53 = .ok (.iload_n 3, 1) := by decide +kernel
theorem dX5_make_54 : decode cX5_make 54 = .ok (.ishl, 1) := by decide +kernel
theorem dX5_make_55 : decode cX5_make 55 = .ok (.goto 4, 3) := by decide +kernel
theorem dX5_make_58 : decode cX5_make 58 = .ok (.iconst 0, 1) := by decide +kernel
theorem dX5_make_59 : decode cX5_make 59 = .ok (.ior, 1) := by decide +kernel
theorem dX5_make_60 : decode cX5_make 60 = .ok (.istore_n 2, 1) := by decide +kernel
theorem dX5_make_61 : decode cX5_make 61 = .ok (.iinc 3 1, 3) := by decide +kernel
theorem dX5_make_64 : decode cX5_make 64 = .ok (.goto (-42), 3) := by decide +kernel
theorem dX5_make_67 : decode cX5_make 67 = .ok (.bipush (-4), 2) := by decide +kernel
theorem dX5_make_69 : decode cX5_make 69 = .ok (.istore_n 3, 1) := by decide +kernel
theorem dX5_make_70 : decode cX5_make 70 = .ok (.iconst 0, 1) := by decide +kernel
theorem dX5_make_71 : decode cX5_make 71 = .ok (.istore 4, 2) := by decide +kernel
theorem dX5_make_73 : decode cX5_make 73 = .ok (.iload 4, 2) := by decide +kernel
theorem dX5_make_75 : decode cX5_make 75 = .ok (.iload_n 2, 1) := by decide +kernel
theorem dX5_make_76 : decode cX5_make 76 = .ok (.if_icmp .gt 65, 3) := by decide +kernel
theorem dX5_make_79 : decode cX5_make 79 = .ok (.iload 4, 2) := by decide +kernel
theorem dX5_make_81 : decode cX5_make 81 = .ok (.iload_n 2, 1) := by decide +kernel
theorem dX5_make_82 : decode cX5_make 82 = .ok (.iconst (-1), 1) := by decide +kernel
theorem dX5_make_83 : decode cX5_make 83 = .ok (.ixor, 1) := by decide +kernel
theorem dX5_make_84 : decode cX5_make 84 = .ok (.iand, 1) := by decide +kernel
theorem dX5_make_85 : decode cX5_make 85 = .ok (.ifCond .ne 25, 3) := by decide +kernel
theorem dX5_make_88 : decode cX5_make 88 = .ok (.iload_n 3, 1) := by decide +kernel
theorem dX5_make_89 : decode cX5_make 89 = .ok (.bipush (-4), 2) := by decide +kernel
theorem dX5_make_91 : decode cX5_make 91 = .ok (.if_icmp .eq 15, 3) := by decide +kernel
theorem dX5_make_94 : decode cX5_make 94 = .ok (.iload 4, 2) := by decide +kernel
theorem dX5_make_96 : decode cX5_make 96 = .ok (.invokestatic 241, 3) := by decide +kernel
theorem dX5_make_99 : decode cX5_make 99 = .ok (.iload_n 3, 1) := by decide +kernel
theorem dX5_make_100 : decode cX5_make 100 = .ok (.invokestatic 241, 3) := by decide +kernel
theorem dX5_make_103 : decode cX5_make 103 = .ok (.if_icmp .ge 7, 3) := by decide +kernel
theorem dX5_make_106 : decode cX5_make 106 = .ok (.iconst 1, 1) := by decide +kernel
theorem dX5_make_107 : decode cX5_make 107 = .ok (.goto 4, 3) := by decide +kernel
theorem dX5_make_110 : decode cX5_make 110 = .ok (.iconst 0, 1) := by decide +kernel
theorem dX5_make_111 : decode cX5_make 111 = .ok (.istore 5, 2) := by decide +kernel
theorem dX5_make_113 : decode cX5_make 113 = .ok (.iload 5, 2) := by decide +kernel
theorem dX5_make_115 : decode cX5_make 115 = .ok (.ifCond .eq 18, 3) := by decide +kernel
theorem dX5_make_118 : decode cX5_make 118 = .ok (.aload_n 0, 1) := by decide +kernel
theorem dX5_make_119 : decode cX5_make 119 = .ok (.iload 4, 2) := by decide +kernel
theorem dX5_make_121 : decode cX5_make 121 = .ok (.invokevirtual 238, 3) := by decide +kernel
theorem dX5_make_124 : decode cX5_make 124 = .ok (.iload_n 1, 1) := by decide +kernel
theorem dX5_make_125 : decode cX5_make 125 = .ok (.if_icmp .ne 8, 3) := by decide +kernel
theorem dX5_make_128 : decode cX5_make 128 = .ok (.iload 4, 2) := by decide +kernel
theorem dX5_make_130 : decode cX5_make 130 = .ok (.goto 4, 3) := by decide +kernel
theorem dX5_make_133 : decode cX5_make 133 = .ok (.iload_n 3, 1) := by decide +kernel
theorem dX5_make_134 : decode cX5_make 134 = .ok (.istore_n 3, 1) := by decide +kernel
theorem dX5_make_135 : decode cX5_make 135 = .ok (.iinc 4 1, 3) := by decide +kernel
theorem dX5_make_138 : decode cX5_make 138 = .ok (.goto (-65), 3) := by decide +kernel
theorem dX5_make_141 : decode cX5_make 141 = .ok (.iload_n 3, 1) := by decide +kernel
theorem dX5_make_142 : decode cX5_make 142 = .ok (.ireturn, 1) := by decide +kernel
theorem dX5_colours_0 : decode cX5_colours 0 = .ok (.iload_n 1, 1) := by decide +kernel
theorem dX5_colours_1 : decode cX5_colours 1 = .ok (.i2l, 1) := by decide +kernel
theorem dX5_colours_2 : decode cX5_colours 2 = .ok (.lconst 0, 1) := by decide +kernel
theorem dX5_colours_3 : decode cX5_colours 3 = .ok (.ldc2_w 215, 3) := by decide +kernel
theorem dX5_colours_6 : decode cX5_colours 6 = .ok (.invokestatic 54, 3) := by decide +kernel
theorem dX5_colours_9 : decode cX5_colours 9 = .ok (.ifCond .eq 10, 3) := by decide +kernel
theorem dX5_colours_12 : decode cX5_colours 12 = .ok (.iload_n 2, 1) := by decide +kernel
theorem dX5_colours_13 : decode cX5_colours 13 = .ok (.invokestatic 230, 3) := by decide +kernel
theorem dX5_colours_16 : decode cX5_colours 16 = .ok (.ifCond .ne 5, 3) := by decide +kernel
theorem dX5_colours_19 : decode cX5_colours 19 = .ok (.iconst (-1), 1) := by decide +kernel
theorem dX5_colours_20 : decode cX5_colours 20 = .ok (.ireturn, 1) := by decide +kernel
theorem dX5_colours_21 : decode cX5_colours 21 = .ok (.iconst 0, 1) := by decide +kernel
theorem dX5_colours_22 : decode cX5_colours 22 = .ok (.istore_n 3, 1) := by decide +kernel
theorem dX5_colours_23 : decode cX5_colours 23 = .ok (.iconst 0, 1) := by decide +kernel
theorem dX5_colours_24 : decode cX5_colours 24 = .ok (.istore 4, 2) := by decide +kernel
theorem dX5_colours_26 : decode cX5_colours 26 = .ok (.iconst 0, 1) := by decide +kernel
theorem dX5_colours_27 : decode cX5_colours 27 = .ok (.istore 5, 2) := by decide +kernel
theorem dX5_colours_29 : decode cX5_colours 29 = .ok (.iload 5, 2) := by decide +kernel
theorem dX5_colours_31 : decode cX5_colours 31 = .ok (.aload_n 0, 1) := by decide +kernel
theorem dX5_colours_32 : decode cX5_colours 32 = .ok (.getfield 7, 3) := by decide +kernel
theorem dX5_colours_35 : decode cX5_colours 35 = .ok (.iconst 0, 1) := by decide +kernel
theorem dX5_colours_36 : decode cX5_colours 36 = .ok (.iaload, 1) := by decide +kernel
theorem dX5_colours_37 : decode cX5_colours 37 = .ok (.if_icmp .ge 49, 3) := by decide +kernel
theorem dX5_colours_40 : decode cX5_colours 40 = .ok (.aload_n 0, 1) := by decide +kernel
theorem dX5_colours_41 : decode cX5_colours 41 = .ok (.getfield 7, 3) := by decide +kernel
theorem dX5_colours_44 : decode cX5_colours 44 = .ok (.iconst 2, 1) := by decide +kernel
theorem dX5_colours_45 : decode cX5_colours 45 = .ok (.iload 5, 2) := by decide +kernel
theorem dX5_colours_47 : decode cX5_colours 47 = .ok (.iadd, 1) := by decide +kernel
theorem dX5_colours_48 : decode cX5_colours 48 = .ok (.iaload, 1) := by decide +kernel
theorem dX5_colours_49 : decode cX5_colours 49 = .ok (.iload_n 1, 1) := by decide +kernel
theorem dX5_colours_50 : decode cX5_colours 50 = .ok (.if_icmp .ne 30, 3) := by decide +kernel
theorem dX5_colours_53 : decode cX5_colours 53 = .ok (.iload_n 3, 1) := by decide +kernel
theorem dX5_colours_54 : decode cX5_colours 54 = .ok (.aload_n 0, 1) := by decide +kernel
theorem dX5_colours_55 : decode cX5_colours 55 = .ok (.iload 5, 2) := by decide +kernel
theorem dX5_colours_57 : decode cX5_colours 57 = .ok (.invokevirtual 146, 3) := by decide +kernel
theorem dX5_colours_60 : decode cX5_colours 60 = .ok (.bipush (-4), 2) := by decide +kernel
theorem dX5_colours_62 : decode cX5_colours 62 = .ok (.if_icmp .ne 7, 3) := by decide +kernel
theorem dX5_colours_65 : decode cX5_colours 65 = .ok (.iconst 0, 1) := by decide +kernel
theorem dX5_colours_66 : decode cX5_colours 66 = .ok (.goto 9, 3) := by decide +kernel
theorem dX5_colours_69 : decode cX5_colours 69 = .ok (.aload_n 0, 1) := by decide +kernel
theorem dX5_colours_70 : decode cX5_colours 70 = .ok (.iload 5, 2) := by decide +kernel
theorem dX5_colours_72 : decode cX5_colours 72 = .ok (.invokevirtual 146, 3) := by decide +kernel
theorem dX5_colours_75 : decode cX5_colours 75 = .ok (.iadd, 1) := by decide +kernel
theorem dX5_colours_76 : decode cX5_colours 76 = .ok (.istore_n 3, 1) := by decide +kernel
theorem dX5_colours_77 : decode cX5_colours 77 = .ok (.iinc 4 1, 3) := by decide +kernel
theorem dX5_colours_80 : decode cX5_colours 80 = .ok (.iinc 5 1, 3) := by decide +kernel
theorem dX5_colours_83 : decode cX5_colours 83 = .ok (.goto (-54), 3) := by decide +kernel
theorem dX5_colours_86 : decode cX5_colours 86 = .ok (.iload_n 2, 1) := by decide +kernel
theorem dX5_colours_87 : decode cX5_colours 87 = .ok (.ifCond .ne 7, 3) := by decide +kernel
theorem dX5_colours_90 : decode cX5_colours 90 = .ok (.iload_n 3, 1) := by decide +kernel
theorem dX5_colours_91 : decode cX5_colours 91 = .ok (.goto 5, 3) := by decide +kernel
theorem dX5_colours_94 : decode cX5_colours 94 = .ok (.iload 4, 2) := by decide +kernel
theorem dX5_colours_96 : decode cX5_colours 96 = .ok (.ireturn, 1) := by decide +kernel
theorem dX5_path_0 : decode cX5_path 0 = .ok (.iload_n 1, 1) := by decide +kernel
theorem dX5_path_1 : decode cX5_path 1 = .ok (.i2l, 1) := by decide +kernel
theorem dX5_path_2 : decode cX5_path 2 = .ok (.lconst 0, 1) := by decide +kernel
theorem dX5_path_3 : decode cX5_path 3 = .ok (.ldc2_w 215, 3) := by decide +kernel
theorem dX5_path_6 : decode cX5_path 6 = .ok (.invokestatic 54, 3) := by decide +kernel
theorem dX5_path_9 : decode cX5_path 9 = .ok (.ifCond .eq 15, 3) := by decide +kernel
theorem dX5_path_12 : decode cX5_path 12 = .ok (.iload_n 2, 1) := by decide +kernel
theorem dX5_path_13 : decode cX5_path 13 = .ok (.i2l, 1) := by decide +kernel
theorem dX5_path_14 : decode cX5_path 14 = .ok (.lconst 0, 1) := by decide +kernel
theorem dX5_path_15 : decode cX5_path 15 = .ok (.ldc2_w 215, 3) := by decide +kernel
theorem dX5_path_18 : decode cX5_path 18 = .ok (.invokestatic 54, 3) := by decide +kernel
theorem dX5_path_21 : decode cX5_path 21 = .ok (.ifCond .ne 5, 3) := by decide +kernel
theorem dX5_path_24 : decode cX5_path 24 = .ok (.iconst (-1), 1) := by decide +kernel
theorem dX5_path_25 : decode cX5_path 25 = .ok (.ireturn, 1) := by decide +kernel
theorem dX5_path_26 : decode cX5_path 26 = .ok (.iconst 0, 1) := by decide +kernel
theorem dX5_path_27 : decode cX5_path 27 = .ok (.istore_n 3, 1) := by decide +kernel
theorem dX5_path_28 : decode cX5_path 28 = .ok (.iconst 0, 1) := by decide +kernel
theorem dX5_path_29 : decode cX5_path 29 = .ok (.istore 4, 2) := by decide +kernel
theorem dX5_path_31 : decode cX5_path 31 = .ok (.iload 4, 2) := by decide +kernel
theorem dX5_path_33 : decode cX5_path 33 = .ok (.aload_n 0, 1) := by decide +kernel
theorem dX5_path_34 : decode cX5_path 34 = .ok (.getfield 7, 3) := by decide +kernel
theorem dX5_path_37 : decode cX5_path 37 = .ok (.iconst 0, 1) := by decide +kernel
theorem dX5_path_38 : decode cX5_path 38 = .ok (.iaload, 1) := by decide +kernel
theorem dX5_path_39 : decode cX5_path 39 = .ok (.if_icmp .ge 88, 3) := by decide +kernel
theorem dX5_path_42 : decode cX5_path 42 = .ok (.aload_n 0, 1) := by decide +kernel
theorem dX5_path_43 : decode cX5_path 43 = .ok (.getfield 7, 3) := by decide +kernel
theorem dX5_path_46 : decode cX5_path 46 = .ok (.iconst 2, 1) := by decide +kernel
theorem dX5_path_47 : decode cX5_path 47 = .ok (.iload 4, 2) := by decide +kernel
theorem dX5_path_49 : decode cX5_path 49 = .ok (.iadd, 1) := by decide +kernel
theorem dX5_path_50 : decode cX5_path 50 = .ok (.iaload, 1) := by decide +kernel
theorem dX5_path_51 : decode cX5_path 51 = .ok (.iload_n 2, 1) := by decide +kernel
theorem dX5_path_52 : decode cX5_path 52 = .ok (.if_icmp .ne 37, 3) := by decide +kernel
theorem dX5_path_55 : decode cX5_path 55 = .ok (.aload_n 0, 1) := by decide +kernel
theorem dX5_path_56 : decode cX5_path 56 = .ok (.iload 4, 2) := by decide +kernel
theorem dX5_path_58 : decode cX5_path 58 = .ok (.invokevirtual 131, 3) := by decide +kernel
theorem dX5_path_61 : decode cX5_path 61 = .ok (.ifCond .ne 28, 3) := by decide +kernel
theorem dX5_path_64 : decode cX5_path 64 = .ok (.aload_n 0, 1) := by decide +kernel
theorem dX5_path_65 : decode cX5_path 65 = .ok (.getfield 7, 3) := by decide +kernel
theorem dX5_path_68 : decode cX5_path 68 = .ok (.iconst 2, 1) := by decide +kernel
theorem dX5_path_69 : decode cX5_path 69 = .ok (.aload_n 0, 1) := by decide +kernel
theorem dX5_path_70 : decode cX5_path 70 = .ok (.getfield 7, 3) := by decide +kernel
theorem dX5_path_73 : decode cX5_path 73 = .ok (.bipush 98, 2) := by decide +kernel
theorem dX5_path_75 : decode cX5_path 75 = .ok (.iload 4, 2) := by decide +kernel
theorem dX5_path_77 : decode cX5_path 77 = .ok (.iadd, 1) := by decide +kernel
theorem dX5_path_78 : decode cX5_path 78 = .ok (.iaload, 1) := by decide +kernel
theorem dX5_path_79 : decode cX5_path 79 = .ok (.iadd, 1) := by decide +kernel
theorem dX5_path_80 : decode cX5_path 80 = .ok (.iaload, 1) := by decide +kernel
theorem dX5_path_81 : decode cX5_path 81 = .ok (.iload_n 1, 1) := by decide +kernel
theorem dX5_path_82 : decode cX5_path 82 = .ok (.if_icmp .ne 7, 3) := by decide +kernel
theorem dX5_path_85 : decode cX5_path 85 = .ok (.iconst 1, 1) := by decide +kernel
theorem dX5_path_86 : decode cX5_path 86 = .ok (.goto 4, 3) := by decide +kernel
theorem dX5_path_89 : decode cX5_path 89 = .ok (.iconst 0, 1) := by decide +kernel
theorem dX5_path_90 : decode cX5_path 90 = .ok (.istore 5, 2) := by decide +kernel
theorem dX5_path_92 : decode cX5_path 92 = .ok (.iload_n 3, 1) := by decide +kernel
theorem dX5_path_93 : decode cX5_path 93 = .ok (.iload 5, 2) := by decide +kernel
theorem dX5_path_95 : decode cX5_path 95 = .ok (.ifCond .eq 23, 3) := by decide +kernel
theorem dX5_path_98 : decode cX5_path 98 = .ok (.aload_n 0, 1) := by decide +kernel
theorem dX5_path_99 : decode cX5_path 99 = .ok (.iload 4, 2) := by decide +kernel
theorem dX5_path_101 : decode cX5_path 101 = .ok (.invokevirtual 146, 3) := by decide +kernel
theorem dX5_path_104 : decode cX5_path 104 = .ok (.bipush (-4), 2) := by decide +kernel
theorem dX5_path_106 : decode cX5_path 106 = .ok (.if_icmp .eq 12, 3) := by decide +kernel
theorem dX5_path_109 : decode cX5_path 109 = .ok (.aload_n 0, 1) := by decide +kernel
theorem dX5_path_110 : decode cX5_path 110 = .ok (.iload 4, 2) := by decide +kernel
theorem dX5_path_112 : decode cX5_path 112 = .ok (.invokevirtual 146, 3) := by decide +kernel
theorem dX5_path_115 : decode cX5_path 115 = .ok (.goto 4, 3) := by decide +kernel
theorem dX5_path_118 : decode cX5_path 118 = .ok (.iconst 0, 1) := by decide +kernel
theorem dX5_path_119 : decode cX5_path 119 = .ok (.iadd, 1) := by decide +kernel
theorem dX5_path_120 : decode cX5_path 120 = .ok (.istore_n 3, 1) := by decide +kernel
theorem dX5_path_121 : decode cX5_path 121 = .ok (.iinc 4 1, 3) := by decide +kernel
theorem dX5_path_124 : decode cX5_path 124 = .ok (.goto (-93), 3) := by decide +kernel
theorem dX5_path_127 : decode cX5_path 127 = .ok (.iload_n 3, 1) := by decide +kernel
theorem dX5_path_128 : decode cX5_path 128 = .ok (.ireturn, 1) := by decide +kernel
theorem dX5_hangingAt_0 : decode cX5_hangingAt 0 = .ok (.iconst (-1), 1) := by decide +kernel
theorem dX5_hangingAt_1 : decode cX5_hangingAt 1 = .ok (.istore_n 3, 1) := by decide +kernel
theorem dX5_hangingAt_2 : decode cX5_hangingAt 2 = .ok (.iconst 0, 1) := by decide +kernel
theorem dX5_hangingAt_3 : decode cX5_hangingAt 3 = .ok (.istore 4, 2) := by decide +kernel
theorem dX5_hangingAt_5 : decode cX5_hangingAt 5 = .ok (.iconst 0, 1) := by decide +kernel
theorem dX5_hangingAt_6 : decode cX5_hangingAt 6 = .ok (.istore 5, 2) := by decide +kernel
theorem dX5_hangingAt_8 : decode cX5_hangingAt 8 = .ok (.iload 5, 2) := by decide +kernel
theorem dX5_hangingAt_10 : decode cX5_hangingAt 10 = .ok (.aload_n 0, 1) := by decide +kernel
theorem dX5_hangingAt_11 : decode cX5_hangingAt 11 = .ok (.getfield 7, 3) := by decide +kernel
theorem dX5_hangingAt_14 : decode cX5_hangingAt 14 = .ok (.iconst 0, 1) := by decide +kernel
theorem dX5_hangingAt_15 : decode cX5_hangingAt 15 = .ok (.iaload, 1) := by decide +kernel
theorem dX5_hangingAt_16 : decode cX5_hangingAt 16 = .ok (.if_icmp .ge 39, 3) := by decide +kernel
theorem dX5_hangingAt_19 : decode cX5_hangingAt 19 = .ok (.aload_n 0, 1) := by decide +kernel
theorem dX5_hangingAt_20 : decode cX5_hangingAt 20 = .ok (.getfield 7, 3) := by decide +kernel
theorem dX5_hangingAt_23 : decode cX5_hangingAt 23 = .ok (.bipush 98, 2) := by decide +kernel
theorem dX5_hangingAt_25 : decode cX5_hangingAt 25 = .ok (.iload 5, 2) := by decide +kernel
theorem dX5_hangingAt_27 : decode cX5_hangingAt 27 = .ok (.iadd, 1) := by decide +kernel
theorem dX5_hangingAt_28 : decode cX5_hangingAt 28 = .ok (.iaload, 1) := by decide +kernel
theorem dX5_hangingAt_29 : decode cX5_hangingAt 29 = .ok (.iload_n 1, 1) := by decide +kernel
theorem dX5_hangingAt_30 : decode cX5_hangingAt 30 = .ok (.if_icmp .ne 19, 3) := by decide +kernel
theorem dX5_hangingAt_33 : decode cX5_hangingAt 33 = .ok (.iload 4, 2) := by decide +kernel
theorem dX5_hangingAt_35 : decode cX5_hangingAt 35 = .ok (.iload_n 2, 1) := by decide +kernel
theorem dX5_hangingAt_36 : decode cX5_hangingAt 36 = .ok (.if_icmp .ne 8, 3) := by decide +kernel
theorem dX5_hangingAt_39 : decode cX5_hangingAt 39 = .ok (.iload 5, 2) := by decide +kernel
theorem dX5_hangingAt_41 : decode cX5_hangingAt 41 = .ok (.goto 4, 3) := by decide +kernel
theorem dX5_hangingAt_44 : decode cX5_hangingAt 44 = .ok (.iload_n 3, 1) := by decide +kernel
theorem dX5_hangingAt_45 : decode cX5_hangingAt 45 = .ok (.istore_n 3, 1) := by decide +kernel
theorem dX5_hangingAt_46 : decode cX5_hangingAt 46 = .ok (.iinc 4 1, 3) := by decide +kernel
theorem dX5_hangingAt_49 : decode cX5_hangingAt 49 = .ok (.iinc 5 1, 3) := by decide +kernel
theorem dX5_hangingAt_52 : decode cX5_hangingAt 52 = .ok (.goto (-44), 3) := by decide +kernel
theorem dX5_hangingAt_55 : decode cX5_hangingAt 55 = .ok (.iload_n 3, 1) := by decide +kernel
theorem dX5_hangingAt_56 : decode cX5_hangingAt 56 = .ok (.ireturn, 1) := by decide +kernel
theorem dX5_areAlike_0 : decode cX5_areAlike 0 = .ok (.aload_n 0, 1) := by decide +kernel
theorem dX5_areAlike_1 : decode cX5_areAlike 1 = .ok (.getfield 7, 3) := by decide +kernel
theorem dX5_areAlike_4 : decode cX5_areAlike 4 = .ok (.iconst 2, 1) := by decide +kernel
theorem dX5_areAlike_5 : decode cX5_areAlike 5 = .ok (.iload_n 1, 1) := by decide +kernel
theorem dX5_areAlike_6 : decode cX5_areAlike 6 = .ok (.iadd, 1) := by decide +kernel
theorem dX5_areAlike_7 : decode cX5_areAlike 7 = .ok (.iaload, 1) := by decide +kernel
theorem dX5_areAlike_8 : decode cX5_areAlike 8 = .ok (.aload_n 0, 1) := by decide +kernel
theorem dX5_areAlike_9 : decode cX5_areAlike 9 = .ok (.getfield 7, 3) := by decide +kernel
theorem dX5_areAlike_12 : decode cX5_areAlike 12 = .ok (.iconst 2, 1) := by decide +kernel
theorem dX5_areAlike_13 : decode cX5_areAlike 13 = .ok (.iload_n 2, 1) := by decide +kernel
theorem dX5_areAlike_14 : decode cX5_areAlike 14 = .ok (.iadd, 1) := by decide +kernel
theorem dX5_areAlike_15 : decode cX5_areAlike 15 = .ok (.iaload, 1) := by decide +kernel
theorem dX5_areAlike_16 : decode cX5_areAlike 16 = .ok (.if_icmp .ne 41, 3) := by decide +kernel
theorem dX5_areAlike_19 : decode cX5_areAlike 19 = .ok (.aload_n 0, 1) := by decide +kernel
theorem dX5_areAlike_20 : decode cX5_areAlike 20 = .ok (.getfield 7, 3) := by decide +kernel
theorem dX5_areAlike_23 : decode cX5_areAlike 23 = .ok (.bipush 18, 2) := by decide +kernel
theorem dX5_areAlike_25 : decode cX5_areAlike 25 = .ok (.iload_n 1, 1) := by decide +kernel
theorem dX5_areAlike_26 : decode cX5_areAlike 26 = .ok (.iadd, 1) := by decide +kernel
theorem dX5_areAlike_27 : decode cX5_areAlike 27 = .ok (.iaload, 1) := by decide +kernel
theorem dX5_areAlike_28 : decode cX5_areAlike 28 = .ok (.aload_n 0, 1) := by decide +kernel
theorem dX5_areAlike_29 : decode cX5_areAlike 29 = .ok (.getfield 7, 3) := by decide +kernel
theorem dX5_areAlike_32 : decode cX5_areAlike 32 = .ok (.bipush 18, 2) := by decide +kernel
theorem dX5_areAlike_34 : decode cX5_areAlike 34 = .ok (.iload_n 2, 1) := by decide +kernel
theorem dX5_areAlike_35 : decode cX5_areAlike 35 = .ok (.iadd, 1) := by decide +kernel
theorem dX5_areAlike_36 : decode cX5_areAlike 36 = .ok (.iaload, 1) := by decide +kernel
theorem dX5_areAlike_37 : decode cX5_areAlike 37 = .ok (.if_icmp .ne 20, 3) := by decide +kernel
theorem dX5_areAlike_40 : decode cX5_areAlike 40 = .ok (.aload_n 0, 1) := by decide +kernel
theorem dX5_areAlike_41 : decode cX5_areAlike 41 = .ok (.iload_n 1, 1) := by decide +kernel
theorem dX5_areAlike_42 : decode cX5_areAlike 42 = .ok (.invokevirtual 162, 3) := by decide +kernel
theorem dX5_areAlike_45 : decode cX5_areAlike 45 = .ok (.aload_n 0, 1) := by decide +kernel
theorem dX5_areAlike_46 : decode cX5_areAlike 46 = .ok (.iload_n 2, 1) := by decide +kernel
theorem dX5_areAlike_47 : decode cX5_areAlike 47 = .ok (.invokevirtual 162, 3) := by decide +kernel
theorem dX5_areAlike_50 : decode cX5_areAlike 50 = .ok (.if_icmp .ne 7, 3) := by decide +kernel
theorem dX5_areAlike_53 : decode cX5_areAlike 53 = .ok (.iconst 1, 1) := by decide +kernel
theorem dX5_areAlike_54 : decode cX5_areAlike 54 = .ok (.goto 4, 3) := by decide +kernel
theorem dX5_areAlike_57 : decode cX5_areAlike 57 = .ok (.iconst 0, 1) := by decide +kernel
theorem dX5_areAlike_58 : decode cX5_areAlike 58 = .ok (.istore_n 3, 1) := by decide +kernel
theorem dX5_areAlike_59 : decode cX5_areAlike 59 = .ok (.iconst 0, 1) := by decide +kernel
theorem dX5_areAlike_60 : decode cX5_areAlike 60 = .ok (.istore 4, 2) := by decide +kernel
theorem dX5_areAlike_62 : decode cX5_areAlike 62 = .ok (.iload 4, 2) := by decide +kernel
theorem dX5_areAlike_64 : decode cX5_areAlike 64 = .ok (.aload_n 0, 1) := by decide +kernel
theorem dX5_areAlike_65 : decode cX5_areAlike 65 = .ok (.getfield 7, 3) := by decide +kernel
theorem dX5_areAlike_68 : decode cX5_areAlike 68 = .ok (.bipush 18, 2) := by decide +kernel
theorem dX5_areAlike_70 : decode cX5_areAlike 70 = .ok (.iload_n 1, 1) := by decide +kernel
theorem dX5_areAlike_71 : decode cX5_areAlike 71 = .ok (.iadd, 1) := by decide +kernel
theorem dX5_areAlike_72 : decode cX5_areAlike 72 = .ok (.iaload, 1) := by decide +kernel
theorem dX5_areAlike_73 : decode cX5_areAlike 73 = .ok (.if_icmp .ge 36, 3) := by decide +kernel
theorem dX5_areAlike_76 : decode cX5_areAlike 76 = .ok (.iload_n 3, 1) := by decide +kernel
theorem dX5_areAlike_77 : decode cX5_areAlike 77 = .ok (.ifCond .eq 24, 3) := by decide +kernel
theorem dX5_areAlike_80 : decode cX5_areAlike 80 = .ok (.aload_n 0, 1) := by decide +kernel
theorem dX5_areAlike_81 : decode cX5_areAlike 81 = .ok (.iload_n 1, 1) := by decide +kernel
theorem dX5_areAlike_82 : decode cX5_areAlike 82 = .ok (.iload 4, 2) := by decide +kernel
theorem dX5_areAlike_84 : decode cX5_areAlike 84 = .ok (.invokevirtual 134, 3) := by decide +kernel
theorem dX5_areAlike_87 : decode cX5_areAlike 87 = .ok (.aload_n 0, 1) := by decide +kernel
theorem dX5_areAlike_88 : decode cX5_areAlike 88 = .ok (.iload_n 2, 1) := by decide +kernel
theorem dX5_areAlike_89 : decode cX5_areAlike 89 = .ok (.iload 4, 2) := by decide +kernel
theorem dX5_areAlike_91 : decode cX5_areAlike 91 = .ok (.invokevirtual 134, 3) := by decide +kernel
theorem dX5_areAlike_94 : decode cX5_areAlike 94 = .ok (.if_icmp .ne 7, 3) := by decide +kernel
theorem dX5_areAlike_97 : decode cX5_areAlike 97 = .ok (.iconst 1, 1) := by decide +kernel
theorem dX5_areAlike_98 : decode cX5_areAlike 98 = .ok (.goto 4, 3) := by decide +kernel
theorem dX5_areAlike_101 : decode cX5_areAlike 101 = .ok (.iconst 0, 1) := by decide +kernel
theorem dX5_areAlike_102 : decode cX5_areAlike 102 = .ok (.istore_n 3, 1) := by decide +kernel
theorem dX5_areAlike_103 : decode cX5_areAlike 103 = .ok (.iinc 4 1, 3) := by decide +kernel
theorem dX5_areAlike_106 : decode cX5_areAlike 106 = .ok (.goto (-44), 3) := by decide +kernel
theorem dX5_areAlike_109 : decode cX5_areAlike 109 = .ok (.iload_n 3, 1) := by decide +kernel
theorem dX5_areAlike_110 : decode cX5_areAlike 110 = .ok (.ireturn, 1) := by decide +kernel
theorem dX5_areAlikeBelow_0 : decode cX5_areAlikeBelow 0 = .ok (.aload_n 0, 1) := by decide +kernel
theorem dX5_areAlikeBelow_1 : decode cX5_areAlikeBelow 1 = .ok (.iload_n 1, 1) := by decide +kernel
theorem dX5_areAlikeBelow_2 : decode cX5_areAlikeBelow 2 = .ok (.iload_n 2, 1) := by decide +kernel
theorem dX5_areAlikeBelow_3 : decode cX5_areAlikeBelow 3 = .ok (.invokevirtual 244, 3) := by decide +kernel
theorem dX5_areAlikeBelow_6 : decode cX5_areAlikeBelow 6 = .ok (.istore_n 3, 1) := by decide +kernel
theorem dX5_areAlikeBelow_7 : decode cX5_areAlikeBelow 7 = .ok (.iconst 0, 1) := by decide +kernel
theorem dX5_areAlikeBelow_8 : decode cX5_areAlikeBelow 8 = .ok (.istore 4, 2) := by decide +kernel
theorem dX5_areAlikeBelow_10 : decode cX5_areAlikeBelow 10 = .ok (.iload_n 3, 1) := by decide +kernel
theorem dX5_areAlikeBelow_11 : decode cX5_areAlikeBelow 11 = .ok (.ifCond .eq 38, 3) := by decide +kernel
theorem dX5_areAlikeBelow_14 : decode cX5_areAlikeBelow 14 = .ok (.iload 4, 2) := by decide +kernel
theorem dX5_areAlikeBelow_16 : decode cX5_areAlikeBelow 16 = .ok (.aload_n 0, 1) := by decide +kernel
theorem dX5_areAlikeBelow_17 : decode cX5_areAlikeBelow 17 = .ok (.iload_n 1, 1) := by decide +kernel
theorem dX5_areAlikeBelow_18 : decode cX5_areAlikeBelow 18 = .ok (.invokevirtual 162, 3) := by decide +kernel
theorem dX5_areAlikeBelow_21 : decode cX5_areAlikeBelow 21 = .ok (.if_icmp .ge 28, 3) := by decide +kernel
theorem dX5_areAlikeBelow_24 : decode cX5_areAlikeBelow 24 = .ok (.aload_n 0, 1) := by decide +kernel
theorem dX5_areAlikeBelow_25 : decode cX5_areAlikeBelow 25 = .ok (.aload_n 0, 1) := by decide +kernel
theorem dX5_areAlikeBelow_26 : decode cX5_areAlikeBelow 26 = .ok (.iload_n 1, 1) := by decide +kernel
theorem dX5_areAlikeBelow_27 : decode cX5_areAlikeBelow 27 = .ok (.iload 4, 2) := by decide +kernel
theorem dX5_areAlikeBelow_29 : decode cX5_areAlikeBelow 29 = .ok (.invokevirtual 247, 3) := by decide +kernel
theorem dX5_areAlikeBelow_32 : decode cX5_areAlikeBelow 32 = .ok (.aload_n 0, 1) := by decide +kernel
theorem dX5_areAlikeBelow_33 : decode cX5_areAlikeBelow 33 = .ok (.iload_n 2, 1) := by decide +kernel
theorem dX5_areAlikeBelow_34 : decode cX5_areAlikeBelow 34 = .ok (.iload 4, 2) := by decide +kernel
theorem dX5_areAlikeBelow_36 : decode cX5_areAlikeBelow 36 = .ok (.invokevirtual 247, 3) := by decide +kernel
theorem dX5_areAlikeBelow_39 : decode cX5_areAlikeBelow 39 = .ok (.invokevirtual 244, 3) := by decide +kernel
theorem dX5_areAlikeBelow_42 : decode cX5_areAlikeBelow 42 = .ok (.istore_n 3, 1) := by decide +kernel
theorem dX5_areAlikeBelow_43 : decode cX5_areAlikeBelow 43 = .ok (.iinc 4 1, 3) := by decide +kernel
theorem dX5_areAlikeBelow_46 : decode cX5_areAlikeBelow 46 = .ok (.goto (-36), 3) := by decide +kernel
theorem dX5_areAlikeBelow_49 : decode cX5_areAlikeBelow 49 = .ok (.iload_n 3, 1) := by decide +kernel
theorem dX5_areAlikeBelow_50 : decode cX5_areAlikeBelow 50 = .ok (.ireturn, 1) := by decide +kernel
theorem dX5_same_0 : decode cX5_same 0 = .ok (.aload_n 0, 1) := by decide +kernel
theorem dX5_same_1 : decode cX5_same 1 = .ok (.iload_n 1, 1) := by decide +kernel
theorem dX5_same_2 : decode cX5_same 2 = .ok (.invokevirtual 156, 3) := by decide +kernel
theorem dX5_same_5 : decode cX5_same 5 = .ok (.ifCond .eq 16, 3) := by decide +kernel
theorem dX5_same_8 : decode cX5_same 8 = .ok (.aload_n 0, 1) := by decide +kernel
theorem dX5_same_9 : decode cX5_same 9 = .ok (.iload_n 2, 1) := by decide +kernel
theorem dX5_same_10 : decode cX5_same 10 = .ok (.invokevirtual 156, 3) := by decide +kernel
theorem dX5_same_13 : decode cX5_same 13 = .ok (.ifCond .eq 8, 3) := by decide +kernel
theorem dX5_same_16 : decode cX5_same 16 = .ok (.iload_n 1, 1) := by decide +kernel
theorem dX5_same_17 : decode cX5_same 17 = .ok (.iload_n 2, 1) := by decide +kernel
theorem dX5_same_18 : decode cX5_same 18 = .ok (.if_icmp .ne 5, 3) := by decide +kernel
theorem dX5_same_21 : decode cX5_same 21 = .ok (.iconst (-1), 1) := by decide +kernel
theorem dX5_same_22 : decode cX5_same 22 = .ok (.ireturn, 1) := by decide +kernel
theorem dX5_same_23 : decode cX5_same 23 = .ok (.aload_n 0, 1) := by decide +kernel
theorem dX5_same_24 : decode cX5_same 24 = .ok (.iload_n 1, 1) := by decide +kernel
theorem dX5_same_25 : decode cX5_same 25 = .ok (.iload_n 2, 1) := by decide +kernel
theorem dX5_same_26 : decode cX5_same 26 = .ok (.invokevirtual 244, 3) := by decide +kernel
theorem dX5_same_29 : decode cX5_same 29 = .ok (.istore_n 3, 1) := by decide +kernel
theorem dX5_same_30 : decode cX5_same 30 = .ok (.iconst 0, 1) := by decide +kernel
theorem dX5_same_31 : decode cX5_same 31 = .ok (.istore 4, 2) := by decide +kernel
theorem dX5_same_33 : decode cX5_same 33 = .ok (.iload_n 3, 1) := by decide +kernel
theorem dX5_same_34 : decode cX5_same 34 = .ok (.ifCond .eq 38, 3) := by decide +kernel
theorem dX5_same_37 : decode cX5_same 37 = .ok (.iload 4, 2) := by decide +kernel
theorem dX5_same_39 : decode cX5_same 39 = .ok (.aload_n 0, 1) := by decide +kernel
theorem dX5_same_40 : decode cX5_same 40 = .ok (.iload_n 1, 1) := by decide +kernel
theorem dX5_same_41 : decode cX5_same 41 = .ok (.invokevirtual 162, 3) := by decide +kernel
theorem dX5_same_44 : decode cX5_same 44 = .ok (.if_icmp .ge 28, 3) := by decide +kernel
theorem dX5_same_47 : decode cX5_same 47 = .ok (.aload_n 0, 1) := by decide +kernel
theorem dX5_same_48 : decode cX5_same 48 = .ok (.aload_n 0, 1) := by decide +kernel
theorem dX5_same_49 : decode cX5_same 49 = .ok (.iload_n 1, 1) := by decide +kernel
theorem dX5_same_50 : decode cX5_same 50 = .ok (.iload 4, 2) := by decide +kernel
theorem dX5_same_52 : decode cX5_same 52 = .ok (.invokevirtual 247, 3) := by decide +kernel
theorem dX5_same_55 : decode cX5_same 55 = .ok (.aload_n 0, 1) := by decide +kernel
theorem dX5_same_56 : decode cX5_same 56 = .ok (.iload_n 2, 1) := by decide +kernel
theorem dX5_same_57 : decode cX5_same 57 = .ok (.iload 4, 2) := by decide +kernel
theorem dX5_same_59 : decode cX5_same 59 = .ok (.invokevirtual 247, 3) := by decide +kernel
theorem dX5_same_62 : decode cX5_same 62 = .ok (.invokevirtual 250, 3) := by decide +kernel
theorem dX5_same_65 : decode cX5_same 65 = .ok (.istore_n 3, 1) := by decide +kernel
theorem dX5_same_66 : decode cX5_same 66 = .ok (.iinc 4 1, 3) := by decide +kernel
theorem dX5_same_69 : decode cX5_same 69 = .ok (.goto (-36), 3) := by decide +kernel
theorem dX5_same_72 : decode cX5_same 72 = .ok (.iload_n 3, 1) := by decide +kernel
theorem dX5_same_73 : decode cX5_same 73 = .ok (.ifCond .eq 7, 3) := by decide +kernel
theorem dX5_same_76 : decode cX5_same 76 = .ok (.iconst 1, 1) := by decide +kernel
theorem dX5_same_77 : decode cX5_same 77 = .ok (.goto 4, 3) := by decide +kernel
theorem dX5_same_80 : decode cX5_same 80 = .ok (.iconst 0, 1) := by decide +kernel
theorem dX5_same_81 : decode cX5_same 81 = .ok (.ireturn, 1) := by decide +kernel
theorem dX5_year_0 : decode cX5_year 0 = .ok (.iload_n 1, 1) := by decide +kernel
theorem dX5_year_1 : decode cX5_year 1 = .ok (.i2l, 1) := by decide +kernel
theorem dX5_year_2 : decode cX5_year 2 = .ok (.lconst 0, 1) := by decide +kernel
theorem dX5_year_3 : decode cX5_year 3 = .ok (.ldc2_w 213, 3) := by decide +kernel
theorem dX5_year_6 : decode cX5_year 6 = .ok (.invokestatic 54, 3) := by decide +kernel
theorem dX5_year_9 : decode cX5_year 9 = .ok (.ifCond .eq 10, 3) := by decide +kernel
theorem dX5_year_12 : decode cX5_year 12 = .ok (.iload_n 2, 1) := by decide +kernel
theorem dX5_year_13 : decode cX5_year 13 = .ok (.invokestatic 230, 3) := by decide +kernel
theorem dX5_year_16 : decode cX5_year 16 = .ok (.ifCond .ne 5, 3) := by decide +kernel
theorem dX5_year_19 : decode cX5_year 19 = .ok (.iconst (-1), 1) := by decide +kernel
theorem dX5_year_20 : decode cX5_year 20 = .ok (.ireturn, 1) := by decide +kernel
theorem dX5_year_21 : decode cX5_year 21 = .ok (.iconst 0, 1) := by decide +kernel
theorem dX5_year_22 : decode cX5_year 22 = .ok (.istore_n 3, 1) := by decide +kernel
theorem dX5_year_23 : decode cX5_year 23 = .ok (.iconst 0, 1) := by decide +kernel
theorem dX5_year_24 : decode cX5_year 24 = .ok (.istore 4, 2) := by decide +kernel
theorem dX5_year_26 : decode cX5_year 26 = .ok (.iconst 0, 1) := by decide +kernel
theorem dX5_year_27 : decode cX5_year 27 = .ok (.istore 5, 2) := by decide +kernel
theorem dX5_year_29 : decode cX5_year 29 = .ok (.iload 5, 2) := by decide +kernel
theorem dX5_year_31 : decode cX5_year 31 = .ok (.aload_n 0, 1) := by decide +kernel
theorem dX5_year_32 : decode cX5_year 32 = .ok (.getfield 7, 3) := by decide +kernel
theorem dX5_year_35 : decode cX5_year 35 = .ok (.iconst 0, 1) := by decide +kernel
theorem dX5_year_36 : decode cX5_year 36 = .ok (.iaload, 1) := by decide +kernel
theorem dX5_year_37 : decode cX5_year 37 = .ok (.if_icmp .ge 139, 3) := by decide +kernel
theorem dX5_year_40 : decode cX5_year 40 = .ok (.aload_n 0, 1) := by decide +kernel
theorem dX5_year_41 : decode cX5_year 41 = .ok (.iload 5, 2) := by decide +kernel
theorem dX5_year_43 : decode cX5_year 43 = .ok (.invokevirtual 170, 3) := by decide +kernel
theorem dX5_year_46 : decode cX5_year 46 = .ok (.ifCond .eq 124, 3) := by decide +kernel
theorem dX5_year_49 : decode cX5_year 49 = .ok (.aload_n 0, 1) := by decide +kernel
theorem dX5_year_50 : decode cX5_year 50 = .ok (.iload 5, 2) := by decide +kernel
theorem dX5_year_52 : decode cX5_year 52 = .ok (.invokevirtual 146, 3) := by decide +kernel
theorem dX5_year_55 : decode cX5_year 55 = .ok (.bipush (-4), 2) := by decide +kernel
theorem dX5_year_57 : decode cX5_year 57 = .ok (.if_icmp .eq 113, 3) := by decide +kernel
theorem dX5_year_60 : decode cX5_year 60 = .ok (.ldc2_w 253, 3) := by decide +kernel
theorem dX5_year_63 : decode cX5_year 63 = .ok (.iload_n 1, 1) := by decide +kernel
theorem dX5_year_64 : decode cX5_year 64 = .ok (.i2l, 1) := by decide +kernel
theorem dX5_year_65 : decode cX5_year 65 = .ok (.lmul, 1) := by decide +kernel
theorem dX5_year_66 : decode cX5_year 66 = .ok (.ldc2_w 255, 3) := by decide +kernel
theorem dX5_year_69 : decode cX5_year 69 = .ok (.iload 5, 2) := by decide +kernel
theorem dX5_year_71 : decode cX5_year 71 = .ok (.i2l, 1) := by decide +kernel
theorem dX5_year_72 : decode cX5_year 72 = .ok (.lmul, 1) := by decide +kernel
theorem dX5_year_73 : decode cX5_year 73 = .ok (.ladd, 1) := by decide +kernel
theorem dX5_year_74 : decode cX5_year 74 = .ok (.lconst 1, 1) := by decide +kernel
theorem dX5_year_75 : decode cX5_year 75 = .ok (.ladd, 1) := by decide +kernel
theorem dX5_year_76 : decode cX5_year 76 = .ok (.lstore 6, 2) := by decide +kernel
theorem dX5_year_78 : decode cX5_year 78 = .ok (.lload 6, 2) := by decide +kernel
theorem dX5_year_80 : decode cX5_year 80 = .ok (.lload 6, 2) := by decide +kernel
theorem dX5_year_82 : decode cX5_year 82 = .ok (.lmul, 1) := by decide +kernel
theorem dX5_year_83 : decode cX5_year 83 = .ok (.ldc2_w 257, 3) := by decide +kernel
theorem dX5_year_86 : decode cX5_year 86 = .ok (.lrem, 1) := by decide +kernel
theorem dX5_year_87 : decode cX5_year 87 = .ok (.l2i, 1) := by decide +kernel
theorem dX5_year_88 : decode cX5_year 88 = .ok (.bipush 8, 2) := by decide +kernel
theorem dX5_year_90 : decode cX5_year 90 = .ok (.idiv, 1) := by decide +kernel
theorem dX5_year_91 : decode cX5_year 91 = .ok (.istore 8, 2) := by decide +kernel
theorem dX5_year_93 : decode cX5_year 93 = .ok (.aload_n 0, 1) := by decide +kernel
theorem dX5_year_94 : decode cX5_year 94 = .ok (.getfield 7, 3) := by decide +kernel
theorem dX5_year_97 : decode cX5_year 97 = .ok (.bipush 18, 2) := by decide +kernel
theorem dX5_year_99 : decode cX5_year 99 = .ok (.iload 5, 2) := by decide +kernel
theorem dX5_year_101 : decode cX5_year 101 = .ok (.iadd, 1) := by decide +kernel
theorem dX5_year_102 : decode cX5_year 102 = .ok (.iaload, 1) := by decide +kernel
theorem dX5_year_103 : decode cX5_year 103 = .ok (.invokestatic 201, 3) := by decide +kernel
theorem dX5_year_106 : decode cX5_year 106 = .ok (.iconst 1, 1) := by decide +kernel
theorem dX5_year_107 : decode cX5_year 107 = .ok (.isub, 1) := by decide +kernel
theorem dX5_year_108 : decode cX5_year 108 = .ok (.istore 9, 2) := by decide +kernel
theorem dX5_year_110 : decode cX5_year 110 = .ok (.aload_n 0, 1) := by decide +kernel
theorem dX5_year_111 : decode cX5_year 111 = .ok (.iload 5, 2) := by decide +kernel
theorem dX5_year_113 : decode cX5_year 113 = .ok (.invokevirtual 146, 3) := by decide +kernel
theorem dX5_year_116 : decode cX5_year 116 = .ok (.iload 8, 2) := by decide +kernel
theorem dX5_year_118 : decode cX5_year 118 = .ok (.bipush 21, 2) := by decide +kernel
theorem dX5_year_120 : decode cX5_year 120 = .ok (.irem, 1) := by decide +kernel
theorem dX5_year_121 : decode cX5_year 121 = .ok (.iadd, 1) := by decide +kernel
theorem dX5_year_122 : decode cX5_year 122 = .ok (.bipush 10, 2) := by decide +kernel
theorem dX5_year_124 : decode cX5_year 124 = .ok (.isub, 1) := by decide +kernel
theorem dX5_year_125 : decode cX5_year 125 = .ok (.istore 10, 2) := by decide +kernel
theorem dX5_year_127 : decode cX5_year 127 = .ok (.iload 10, 2) := by decide +kernel
theorem dX5_year_129 : decode cX5_year 129 = .ok (.ifCond .ge 7, 3) := by decide +kernel
theorem dX5_year_132 : decode cX5_year 132 = .ok (.iconst 0, 1) := by decide +kernel
theorem dX5_year_133 : decode cX5_year 133 = .ok (.goto 17, 3) := by decide +kernel
theorem dX5_year_136 : decode cX5_year 136 = .ok (.iload 10, 2) := by decide +kernel
theorem dX5_year_138 : decode cX5_year 138 = .ok (.iload 9, 2) := by decide +kernel
theorem dX5_year_140 : decode cX5_year 140 = .ok (.if_icmp .le 8, 3) := by decide +kernel
theorem dX5_year_143 : decode cX5_year 143 = .ok (.iload 9, 2) := by decide +kernel
theorem dX5_year_145 : decode cX5_year 145 = .ok (.goto 5, 3) := by decide +kernel
theorem dX5_year_148 : decode cX5_year 148 = .ok (.iload 10, 2) := by decide +kernel
theorem dX5_year_150 : decode cX5_year 150 = .ok (.istore 10, 2) := by decide +kernel
theorem dX5_year_152 : decode cX5_year 152 = .ok (.iload_n 3, 1) := by decide +kernel
theorem dX5_year_153 : decode cX5_year 153 = .ok (.aload_n 0, 1) := by decide +kernel
theorem dX5_year_154 : decode cX5_year 154 = .ok (.iload 5, 2) := by decide +kernel
theorem dX5_year_156 : decode cX5_year 156 = .ok (.iload 10, 2) := by decide +kernel
theorem dX5_year_158 : decode cX5_year 158 = .ok (.invokevirtual 204, 3) := by decide +kernel
theorem dX5_year_161 : decode cX5_year 161 = .ok (.iadd, 1) := by decide +kernel
theorem dX5_year_162 : decode cX5_year 162 = .ok (.istore_n 3, 1) := by decide +kernel
theorem dX5_year_163 : decode cX5_year 163 = .ok (.iload 4, 2) := by decide +kernel
theorem dX5_year_165 : decode cX5_year 165 = .ok (.iload 10, 2) := by decide +kernel
theorem dX5_year_167 : decode cX5_year 167 = .ok (.iadd, 1) := by decide +kernel
theorem dX5_year_168 : decode cX5_year 168 = .ok (.istore 4, 2) := by decide +kernel
theorem dX5_year_170 : decode cX5_year 170 = .ok (.iinc 5 1, 3) := by decide +kernel
theorem dX5_year_173 : decode cX5_year 173 = .ok (.goto (-144), 3) := by decide +kernel
theorem dX5_year_176 : decode cX5_year 176 = .ok (.iload_n 2, 1) := by decide +kernel
theorem dX5_year_177 : decode cX5_year 177 = .ok (.ifCond .ne 7, 3) := by decide +kernel
theorem dX5_year_180 : decode cX5_year 180 = .ok (.iload_n 3, 1) := by decide +kernel
theorem dX5_year_181 : decode cX5_year 181 = .ok (.goto 5, 3) := by decide +kernel
theorem dX5_year_184 : decode cX5_year 184 = .ok (.iload 4, 2) := by decide +kernel
theorem dX5_year_186 : decode cX5_year 186 = .ok (.ireturn, 1) := by decide +kernel
theorem dX5_keep_0 : decode cX5_keep 0 = .ok (.aload_n 0, 1) := by decide +kernel
theorem dX5_keep_1 : decode cX5_keep 1 = .ok (.getfield 125, 3) := by decide +kernel
theorem dX5_keep_4 : decode cX5_keep 4 = .ok (.iconst 2, 1) := by decide +kernel
theorem dX5_keep_5 : decode cX5_keep 5 = .ok (.if_icmp .ne 6, 3) := by decide +kernel
theorem dX5_keep_8 : decode cX5_keep 8 = .ok (.bipush (-3), 2) := by decide +kernel
theorem dX5_keep_10 : decode cX5_keep 10 = .ok (.ireturn, 1) := by decide +kernel
theorem dX5_keep_11 : decode cX5_keep 11 = .ok (.aload_n 0, 1) := by decide +kernel
theorem dX5_keep_12 : decode cX5_keep 12 = .ok (.getfield 7, 3) := by decide +kernel
theorem dX5_keep_15 : decode cX5_keep 15 = .ok (.iconst 0, 1) := by decide +kernel
theorem dX5_keep_16 : decode cX5_keep 16 = .ok (.aload_n 0, 1) := by decide +kernel
theorem dX5_keep_17 : decode cX5_keep 17 = .ok (.getfield 16, 3) := by decide +kernel
theorem dX5_keep_20 : decode cX5_keep 20 = .ok (.sipush 162, 3) := by decide +kernel
theorem dX5_keep_23 : decode cX5_keep 23 = .ok (.aload_n 0, 1) := by decide +kernel
theorem dX5_keep_24 : decode cX5_keep 24 = .ok (.getfield 125, 3) := by decide +kernel
theorem dX5_keep_27 : decode cX5_keep 27 = .ok (.imul, 1) := by decide +kernel
theorem dX5_keep_28 : decode cX5_keep 28 = .ok (.invokestatic 118, 3) := by decide +kernel
theorem dX5_keep_31 : decode cX5_keep 31 = .ok (.aload_n 0, 1) := by decide +kernel
theorem dX5_keep_32 : decode cX5_keep 32 = .ok (.dup, 1) := by decide +kernel
theorem dX5_keep_33 : decode cX5_keep 33 = .ok (.getfield 125, 3) := by decide +kernel
theorem dX5_keep_36 : decode cX5_keep 36 = .ok (.iconst 1, 1) := by decide +kernel
theorem dX5_keep_37 : decode cX5_keep 37 = .ok (.iadd, 1) := by decide +kernel
theorem dX5_keep_38 : decode cX5_keep 38 = .ok (.putfield 125, 3) := by decide +kernel
theorem dX5_keep_41 : decode cX5_keep 41 = .ok (.aload_n 0, 1) := by decide +kernel
theorem dX5_keep_42 : decode cX5_keep 42 = .ok (.getfield 125, 3) := by decide +kernel
theorem dX5_keep_45 : decode cX5_keep 45 = .ok (.ireturn, 1) := by decide +kernel
theorem dX5_back_0 : decode cX5_back 0 = .ok (.aload_n 0, 1) := by decide +kernel
theorem dX5_back_1 : decode cX5_back 1 = .ok (.getfield 125, 3) := by decide +kernel
theorem dX5_back_4 : decode cX5_back 4 = .ok (.ifCond .ne 6, 3) := by decide +kernel
theorem dX5_back_7 : decode cX5_back 7 = .ok (.bipush (-2), 2) := by decide +kernel
theorem dX5_back_9 : decode cX5_back 9 = .ok (.ireturn, 1) := by decide +kernel
theorem dX5_back_10 : decode cX5_back 10 = .ok (.aload_n 0, 1) := by decide +kernel
theorem dX5_back_11 : decode cX5_back 11 = .ok (.dup, 1) := by decide +kernel
theorem dX5_back_12 : decode cX5_back 12 = .ok (.getfield 125, 3) := by decide +kernel
theorem dX5_back_15 : decode cX5_back 15 = .ok (.iconst 1, 1) := by decide +kernel
theorem dX5_back_16 : decode cX5_back 16 = .ok (.isub, 1) := by decide +kernel
theorem dX5_back_17 : decode cX5_back 17 = .ok (.putfield 125, 3) := by decide +kernel
theorem dX5_back_20 : decode cX5_back 20 = .ok (.aload_n 0, 1) := by decide +kernel
theorem dX5_back_21 : decode cX5_back 21 = .ok (.getfield 16, 3) := by decide +kernel
theorem dX5_back_24 : decode cX5_back 24 = .ok (.sipush 162, 3) := by decide +kernel
theorem dX5_back_27 : decode cX5_back 27 = .ok (.aload_n 0, 1) := by decide +kernel
theorem dX5_back_28 : decode cX5_back 28 = .ok (.getfield 125, 3) := by decide +kernel
theorem dX5_back_31 : decode cX5_back 31 = .ok (.imul, 1) := by decide +kernel
theorem dX5_back_32 : decode cX5_back 32 = .ok (.aload_n 0, 1) := by decide +kernel
theorem dX5_back_33 : decode cX5_back 33 = .ok (.getfield 7, 3) := by decide +kernel
theorem dX5_back_36 : decode cX5_back 36 = .ok (.iconst 0, 1) := by decide +kernel
theorem dX5_back_37 : decode cX5_back 37 = .ok (.invokestatic 118, 3) := by decide +kernel
theorem dX5_back_40 : decode cX5_back 40 = .ok (.aload_n 0, 1) := by decide +kernel
theorem dX5_back_41 : decode cX5_back 41 = .ok (.iconst 0, 1) := by decide +kernel
theorem dX5_back_42 : decode cX5_back 42 = .ok (.putfield 122, 3) := by decide +kernel
theorem dX5_back_45 : decode cX5_back 45 = .ok (.aload_n 0, 1) := by decide +kernel
theorem dX5_back_46 : decode cX5_back 46 = .ok (.getfield 125, 3) := by decide +kernel
theorem dX5_back_49 : decode cX5_back 49 = .ok (.ireturn, 1) := by decide +kernel
theorem dX5_count_0 : decode cX5_count 0 = .ok (.iconst 0, 1) := by decide +kernel
theorem dX5_count_1 : decode cX5_count 1 = .ok (.istore_n 2, 1) := by decide +kernel
theorem dX5_count_2 : decode cX5_count 2 = .ok (.iconst 0, 1) := by decide +kernel
theorem dX5_count_3 : decode cX5_count 3 = .ok (.istore_n 3, 1) := by decide +kernel
theorem dX5_count_4 : decode cX5_count 4 = .ok (.iconst 0, 1) := by decide +kernel
theorem dX5_count_5 : decode cX5_count 5 = .ok (.istore 4, 2) := by decide +kernel
theorem dX5_count_7 : decode cX5_count 7 = .ok (.iconst 0, 1) := by decide +kernel
theorem dX5_count_8 : decode cX5_count 8 = .ok (.istore 5, 2) := by decide +kernel
theorem dX5_count_10 : decode cX5_count 10 = .ok (.iload 5, 2) := by decide +kernel
theorem dX5_count_12 : decode cX5_count 12 = .ok (.aload_n 0, 1) := by decide +kernel
theorem dX5_count_13 : decode cX5_count 13 = .ok (.getfield 7, 3) := by decide +kernel
theorem dX5_count_16 : decode cX5_count 16 = .ok (.iconst 0, 1) := by decide +kernel
theorem dX5_count_17 : decode cX5_count 17 = .ok (.iaload, 1) := by decide +kernel
theorem dX5_count_18 : decode cX5_count 18 = .ok (.if_icmp .ge 53, 3) := by decide +kernel
theorem dX5_count_21 : decode cX5_count 21 = .ok (.iload_n 2, 1) := by decide +kernel
theorem dX5_count_22 : decode cX5_count 22 = .ok (.aload_n 0, 1) := by decide +kernel
theorem dX5_count_23 : decode cX5_count 23 = .ok (.getfield 7, 3) := by decide +kernel
theorem dX5_count_26 : decode cX5_count 26 = .ok (.sipush 130, 3) := by decide +kernel
theorem dX5_count_29 : decode cX5_count 29 = .ok (.iload 5, 2) := by decide +kernel
theorem dX5_count_31 : decode cX5_count 31 = .ok (.iadd, 1) := by decide +kernel
theorem dX5_count_32 : decode cX5_count 32 = .ok (.iaload, 1) := by decide +kernel
theorem dX5_count_33 : decode cX5_count 33 = .ok (.iadd, 1) := by decide +kernel
theorem dX5_count_34 : decode cX5_count 34 = .ok (.istore_n 2, 1) := by decide +kernel
theorem dX5_count_35 : decode cX5_count 35 = .ok (.iload_n 3, 1) := by decide +kernel
theorem dX5_count_36 : decode cX5_count 36 = .ok (.aload_n 0, 1) := by decide +kernel
theorem dX5_count_37 : decode cX5_count 37 = .ok (.iload 5, 2) := by decide +kernel
theorem dX5_count_39 : decode cX5_count 39 = .ok (.invokevirtual 146, 3) := by decide +kernel
theorem dX5_count_42 : decode cX5_count 42 = .ok (.bipush (-4), 2) := by decide +kernel
theorem dX5_count_44 : decode cX5_count 44 = .ok (.if_icmp .ne 7, 3) := by decide +kernel
theorem dX5_count_47 : decode cX5_count 47 = .ok (.iconst 0, 1) := by decide +kernel
theorem dX5_count_48 : decode cX5_count 48 = .ok (.goto 4, 3) := by decide +kernel
theorem dX5_count_51 : decode cX5_count 51 = .ok (.iconst 1, 1) := by decide +kernel
theorem dX5_count_52 : decode cX5_count 52 = .ok (.iadd, 1) := by decide +kernel
theorem dX5_count_53 : decode cX5_count 53 = .ok (.istore_n 3, 1) := by decide +kernel
theorem dX5_count_54 : decode cX5_count 54 = .ok (.iload 4, 2) := by decide +kernel
theorem dX5_count_56 : decode cX5_count 56 = .ok (.aload_n 0, 1) := by decide +kernel
theorem dX5_count_57 : decode cX5_count 57 = .ok (.iload 5, 2) := by decide +kernel
theorem dX5_count_59 : decode cX5_count 59 = .ok (.invokevirtual 168, 3) := by decide +kernel
theorem dX5_count_62 : decode cX5_count 62 = .ok (.iadd, 1) := by decide +kernel
theorem dX5_count_63 : decode cX5_count 63 = .ok (.istore 4, 2) := by decide +kernel
theorem dX5_count_65 : decode cX5_count 65 = .ok (.iinc 5 1, 3) := by decide +kernel
theorem dX5_count_68 : decode cX5_count 68 = .ok (.goto (-58), 3) := by decide +kernel
theorem dX5_count_71 : decode cX5_count 71 = .ok (.iload_n 1, 1) := by decide +kernel
theorem dX5_count_72 : decode cX5_count 72 = .ok (.tableswitch 84 0 7 #[48, 55, 62, 64, 66, 69, 74, 79], 48) := by decide +kernel
theorem dX5_count_120 : decode cX5_count 120 = .ok (.aload_n 0, 1) := by decide +kernel
theorem dX5_count_121 : decode cX5_count 121 = .ok (.getfield 7, 3) := by decide +kernel
theorem dX5_count_124 : decode cX5_count 124 = .ok (.iconst 0, 1) := by decide +kernel
theorem dX5_count_125 : decode cX5_count 125 = .ok (.iaload, 1) := by decide +kernel
theorem dX5_count_126 : decode cX5_count 126 = .ok (.ireturn, 1) := by decide +kernel
theorem dX5_count_127 : decode cX5_count 127 = .ok (.aload_n 0, 1) := by decide +kernel
theorem dX5_count_128 : decode cX5_count 128 = .ok (.getfield 7, 3) := by decide +kernel
theorem dX5_count_131 : decode cX5_count 131 = .ok (.iconst 1, 1) := by decide +kernel
theorem dX5_count_132 : decode cX5_count 132 = .ok (.iaload, 1) := by decide +kernel
theorem dX5_count_133 : decode cX5_count 133 = .ok (.ireturn, 1) := by decide +kernel
theorem dX5_count_134 : decode cX5_count 134 = .ok (.iload_n 2, 1) := by decide +kernel
theorem dX5_count_135 : decode cX5_count 135 = .ok (.ireturn, 1) := by decide +kernel
theorem dX5_count_136 : decode cX5_count 136 = .ok (.iload_n 3, 1) := by decide +kernel
theorem dX5_count_137 : decode cX5_count 137 = .ok (.ireturn, 1) := by decide +kernel
theorem dX5_count_138 : decode cX5_count 138 = .ok (.iload 4, 2) := by decide +kernel
theorem dX5_count_140 : decode cX5_count 140 = .ok (.ireturn, 1) := by decide +kernel
theorem dX5_count_141 : decode cX5_count 141 = .ok (.aload_n 0, 1) := by decide +kernel
theorem dX5_count_142 : decode cX5_count 142 = .ok (.getfield 122, 3) := by decide +kernel
theorem dX5_count_145 : decode cX5_count 145 = .ok (.ireturn, 1) := by decide +kernel
theorem dX5_count_146 : decode cX5_count 146 = .ok (.aload_n 0, 1) := by decide +kernel
theorem dX5_count_147 : decode cX5_count 147 = .ok (.getfield 125, 3) := by decide +kernel
theorem dX5_count_150 : decode cX5_count 150 = .ok (.ireturn, 1) := by decide +kernel
theorem dX5_count_151 : decode cX5_count 151 = .ok (.aload_n 0, 1) := by decide +kernel
theorem dX5_count_152 : decode cX5_count 152 = .ok (.getfield 62, 3) := by decide +kernel
theorem dX5_count_155 : decode cX5_count 155 = .ok (.ireturn, 1) := by decide +kernel
theorem dX5_count_156 : decode cX5_count 156 = .ok (.iconst (-1), 1) := by decide +kernel
theorem dX5_count_157 : decode cX5_count 157 = .ok (.ireturn, 1) := by decide +kernel
theorem dJ6_bitCount_0f7a4_0 : decode cJ6_bitCount_0f7a4 0 = .ok (.iload_n 0, 1) := by decide +kernel
theorem dJ6_bitCount_0f7a4_1 : decode cJ6_bitCount_0f7a4 1 = .ok (.iload_n 0, 1) := by decide +kernel
theorem dJ6_bitCount_0f7a4_2 : decode cJ6_bitCount_0f7a4 2 = .ok (.iconst 1, 1) := by decide +kernel
theorem dJ6_bitCount_0f7a4_3 : decode cJ6_bitCount_0f7a4 3 = .ok (.iushr, 1) := by decide +kernel
theorem dJ6_bitCount_0f7a4_4 : decode cJ6_bitCount_0f7a4 4 = .ok (.ldc_w 265, 3) := by decide +kernel
theorem dJ6_bitCount_0f7a4_7 : decode cJ6_bitCount_0f7a4 7 = .ok (.iand, 1) := by decide +kernel
theorem dJ6_bitCount_0f7a4_8 : decode cJ6_bitCount_0f7a4 8 = .ok (.isub, 1) := by decide +kernel
theorem dJ6_bitCount_0f7a4_9 : decode cJ6_bitCount_0f7a4 9 = .ok (.istore_n 0, 1) := by decide +kernel
theorem dJ6_bitCount_0f7a4_10 : decode cJ6_bitCount_0f7a4 10 = .ok (.iload_n 0, 1) := by decide +kernel
theorem dJ6_bitCount_0f7a4_11 : decode cJ6_bitCount_0f7a4 11 = .ok (.ldc_w 266, 3) := by decide +kernel
theorem dJ6_bitCount_0f7a4_14 : decode cJ6_bitCount_0f7a4 14 = .ok (.iand, 1) := by decide +kernel
theorem dJ6_bitCount_0f7a4_15 : decode cJ6_bitCount_0f7a4 15 = .ok (.iload_n 0, 1) := by decide +kernel
theorem dJ6_bitCount_0f7a4_16 : decode cJ6_bitCount_0f7a4 16 = .ok (.iconst 2, 1) := by decide +kernel
theorem dJ6_bitCount_0f7a4_17 : decode cJ6_bitCount_0f7a4 17 = .ok (.iushr, 1) := by decide +kernel
theorem dJ6_bitCount_0f7a4_18 : decode cJ6_bitCount_0f7a4 18 = .ok (.ldc_w 266, 3) := by decide +kernel
theorem dJ6_bitCount_0f7a4_21 : decode cJ6_bitCount_0f7a4 21 = .ok (.iand, 1) := by decide +kernel
theorem dJ6_bitCount_0f7a4_22 : decode cJ6_bitCount_0f7a4 22 = .ok (.iadd, 1) := by decide +kernel
theorem dJ6_bitCount_0f7a4_23 : decode cJ6_bitCount_0f7a4 23 = .ok (.istore_n 0, 1) := by decide +kernel
theorem dJ6_bitCount_0f7a4_24 : decode cJ6_bitCount_0f7a4 24 = .ok (.iload_n 0, 1) := by decide +kernel
theorem dJ6_bitCount_0f7a4_25 : decode cJ6_bitCount_0f7a4 25 = .ok (.iload_n 0, 1) := by decide +kernel
theorem dJ6_bitCount_0f7a4_26 : decode cJ6_bitCount_0f7a4 26 = .ok (.iconst 4, 1) := by decide +kernel
theorem dJ6_bitCount_0f7a4_27 : decode cJ6_bitCount_0f7a4 27 = .ok (.iushr, 1) := by decide +kernel
theorem dJ6_bitCount_0f7a4_28 : decode cJ6_bitCount_0f7a4 28 = .ok (.iadd, 1) := by decide +kernel
theorem dJ6_bitCount_0f7a4_29 : decode cJ6_bitCount_0f7a4 29 = .ok (.ldc_w 267, 3) := by decide +kernel
theorem dJ6_bitCount_0f7a4_32 : decode cJ6_bitCount_0f7a4 32 = .ok (.iand, 1) := by decide +kernel
theorem dJ6_bitCount_0f7a4_33 : decode cJ6_bitCount_0f7a4 33 = .ok (.istore_n 0, 1) := by decide +kernel
theorem dJ6_bitCount_0f7a4_34 : decode cJ6_bitCount_0f7a4 34 = .ok (.iload_n 0, 1) := by decide +kernel
theorem dJ6_bitCount_0f7a4_35 : decode cJ6_bitCount_0f7a4 35 = .ok (.iload_n 0, 1) := by decide +kernel
theorem dJ6_bitCount_0f7a4_36 : decode cJ6_bitCount_0f7a4 36 = .ok (.bipush 8, 2) := by decide +kernel
theorem dJ6_bitCount_0f7a4_38 : decode cJ6_bitCount_0f7a4 38 = .ok (.iushr, 1) := by decide +kernel
theorem dJ6_bitCount_0f7a4_39 : decode cJ6_bitCount_0f7a4 39 = .ok (.iadd, 1) := by decide +kernel
theorem dJ6_bitCount_0f7a4_40 : decode cJ6_bitCount_0f7a4 40 = .ok (.istore_n 0, 1) := by decide +kernel
theorem dJ6_bitCount_0f7a4_41 : decode cJ6_bitCount_0f7a4 41 = .ok (.iload_n 0, 1) := by decide +kernel
theorem dJ6_bitCount_0f7a4_42 : decode cJ6_bitCount_0f7a4 42 = .ok (.iload_n 0, 1) := by decide +kernel
theorem dJ6_bitCount_0f7a4_43 : decode cJ6_bitCount_0f7a4 43 = .ok (.bipush 16, 2) := by decide +kernel
theorem dJ6_bitCount_0f7a4_45 : decode cJ6_bitCount_0f7a4 45 = .ok (.iushr, 1) := by decide +kernel
theorem dJ6_bitCount_0f7a4_46 : decode cJ6_bitCount_0f7a4 46 = .ok (.iadd, 1) := by decide +kernel
theorem dJ6_bitCount_0f7a4_47 : decode cJ6_bitCount_0f7a4 47 = .ok (.istore_n 0, 1) := by decide +kernel
theorem dJ6_bitCount_0f7a4_48 : decode cJ6_bitCount_0f7a4 48 = .ok (.iload_n 0, 1) := by decide +kernel
theorem dJ6_bitCount_0f7a4_49 : decode cJ6_bitCount_0f7a4 49 = .ok (.bipush 63, 2) := by decide +kernel
theorem dJ6_bitCount_0f7a4_51 : decode cJ6_bitCount_0f7a4 51 = .ok (.iand, 1) := by decide +kernel
theorem dJ6_bitCount_0f7a4_52 : decode cJ6_bitCount_0f7a4 52 = .ok (.ireturn, 1) := by decide +kernel
theorem dJ9_floorMod_7cf53_0 : decode cJ9_floorMod_7cf53 0 = .ok (.iload_n 0, 1) := by decide +kernel
theorem dJ9_floorMod_7cf53_1 : decode cJ9_floorMod_7cf53 1 = .ok (.iload_n 1, 1) := by decide +kernel
theorem dJ9_floorMod_7cf53_2 : decode cJ9_floorMod_7cf53 2 = .ok (.irem, 1) := by decide +kernel
theorem dJ9_floorMod_7cf53_3 : decode cJ9_floorMod_7cf53 3 = .ok (.istore_n 2, 1) := by decide +kernel
theorem dJ9_floorMod_7cf53_4 : decode cJ9_floorMod_7cf53 4 = .ok (.iload_n 0, 1) := by decide +kernel
theorem dJ9_floorMod_7cf53_5 : decode cJ9_floorMod_7cf53 5 = .ok (.iload_n 1, 1) := by decide +kernel
theorem dJ9_floorMod_7cf53_6 : decode cJ9_floorMod_7cf53 6 = .ok (.ixor, 1) := by decide +kernel
theorem dJ9_floorMod_7cf53_7 : decode cJ9_floorMod_7cf53 7 = .ok (.ifCond .ge 11, 3) := by decide +kernel
theorem dJ9_floorMod_7cf53_10 : decode cJ9_floorMod_7cf53 10 = .ok (.iload_n 2, 1) := by decide +kernel
theorem dJ9_floorMod_7cf53_11 : decode cJ9_floorMod_7cf53 11 = .ok (.ifCond .eq 7, 3) := by decide +kernel
theorem dJ9_floorMod_7cf53_14 : decode cJ9_floorMod_7cf53 14 = .ok (.iload_n 2, 1) := by decide +kernel
theorem dJ9_floorMod_7cf53_15 : decode cJ9_floorMod_7cf53 15 = .ok (.iload_n 1, 1) := by decide +kernel
theorem dJ9_floorMod_7cf53_16 : decode cJ9_floorMod_7cf53 16 = .ok (.iadd, 1) := by decide +kernel
theorem dJ9_floorMod_7cf53_17 : decode cJ9_floorMod_7cf53 17 = .ok (.ireturn, 1) := by decide +kernel
theorem dJ9_floorMod_7cf53_18 : decode cJ9_floorMod_7cf53 18 = .ok (.iload_n 2, 1) := by decide +kernel
theorem dJ9_floorMod_7cf53_19 : decode cJ9_floorMod_7cf53 19 = .ok (.ireturn, 1) := by decide +kernel
theorem dJ9_abs_0f7a4_0 : decode cJ9_abs_0f7a4 0 = .ok (.iload_n 0, 1) := by decide +kernel
theorem dJ9_abs_0f7a4_1 : decode cJ9_abs_0f7a4 1 = .ok (.ifCond .ge 8, 3) := by decide +kernel
theorem dJ9_abs_0f7a4_4 : decode cJ9_abs_0f7a4 4 = .ok (.iload_n 0, 1) := by decide +kernel
theorem dJ9_abs_0f7a4_5 : decode cJ9_abs_0f7a4 5 = .ok (.ineg, 1) := by decide +kernel
theorem dJ9_abs_0f7a4_6 : decode cJ9_abs_0f7a4 6 = .ok (.goto 4, 3) := by decide +kernel
theorem dJ9_abs_0f7a4_9 : decode cJ9_abs_0f7a4 9 = .ok (.iload_n 0, 1) := by decide +kernel
theorem dJ9_abs_0f7a4_10 : decode cJ9_abs_0f7a4 10 = .ok (.ireturn, 1) := by decide +kernel
theorem dJ9_max_7cf53_0 : decode cJ9_max_7cf53 0 = .ok (.iload_n 0, 1) := by decide +kernel
theorem dJ9_max_7cf53_1 : decode cJ9_max_7cf53 1 = .ok (.iload_n 1, 1) := by decide +kernel
theorem dJ9_max_7cf53_2 : decode cJ9_max_7cf53 2 = .ok (.if_icmp .lt 7, 3) := by decide +kernel
theorem dJ9_max_7cf53_5 : decode cJ9_max_7cf53 5 = .ok (.iload_n 0, 1) := by decide +kernel
theorem dJ9_max_7cf53_6 : decode cJ9_max_7cf53 6 = .ok (.goto 4, 3) := by decide +kernel
theorem dJ9_max_7cf53_9 : decode cJ9_max_7cf53 9 = .ok (.iload_n 1, 1) := by decide +kernel
theorem dJ9_max_7cf53_10 : decode cJ9_max_7cf53 10 = .ok (.ireturn, 1) := by decide +kernel
theorem dJ9_min_7cf53_0 : decode cJ9_min_7cf53 0 = .ok (.iload_n 0, 1) := by decide +kernel
theorem dJ9_min_7cf53_1 : decode cJ9_min_7cf53 1 = .ok (.iload_n 1, 1) := by decide +kernel
theorem dJ9_min_7cf53_2 : decode cJ9_min_7cf53 2 = .ok (.if_icmp .gt 7, 3) := by decide +kernel
theorem dJ9_min_7cf53_5 : decode cJ9_min_7cf53 5 = .ok (.iload_n 0, 1) := by decide +kernel
theorem dJ9_min_7cf53_6 : decode cJ9_min_7cf53 6 = .ok (.goto 4, 3) := by decide +kernel
theorem dJ9_min_7cf53_9 : decode cJ9_min_7cf53 9 = .ok (.iload_n 1, 1) := by decide +kernel
theorem dJ9_min_7cf53_10 : decode cJ9_min_7cf53 10 = .ok (.ireturn, 1) := by decide +kernel
theorem dJ0_length_8abf5_0 : decode cJ0_length_8abf5 0 = .ok (.aload_n 0, 1) := by decide +kernel
theorem dJ0_length_8abf5_1 : decode cJ0_length_8abf5 1 = .ok (.getfield 9, 3) := by decide +kernel
theorem dJ0_length_8abf5_4 : decode cJ0_length_8abf5 4 = .ok (.arraylength, 1) := by decide +kernel
theorem dJ0_length_8abf5_5 : decode cJ0_length_8abf5 5 = .ok (.aload_n 0, 1) := by decide +kernel
theorem dJ0_length_8abf5_6 : decode cJ0_length_8abf5 6 = .ok (.invokevirtual 335, 3) := by decide +kernel
theorem dJ0_length_8abf5_9 : decode cJ0_length_8abf5 9 = .ok (.ishr, 1) := by decide +kernel
theorem dJ0_length_8abf5_10 : decode cJ0_length_8abf5 10 = .ok (.ireturn, 1) := by decide +kernel
theorem dJ0_toCharArray_70df3_0 : decode cJ0_toCharArray_70df3 0 = .ok (.aload_n 0, 1) := by decide +kernel
theorem dJ0_toCharArray_70df3_1 : decode cJ0_toCharArray_70df3 1 = .ok (.invokevirtual 492, 3) := by decide +kernel
theorem dJ0_toCharArray_70df3_4 : decode cJ0_toCharArray_70df3 4 = .ok (.ifCond .eq 13, 3) := by decide +kernel
theorem dJ0_toCharArray_70df3_7 : decode cJ0_toCharArray_70df3 7 = .ok (.aload_n 0, 1) := by decide +kernel
theorem dJ0_toCharArray_70df3_8 : decode cJ0_toCharArray_70df3 8 = .ok (.getfield 9, 3) := by decide +kernel
theorem dJ0_toCharArray_70df3_11 : decode cJ0_toCharArray_70df3 11 = .ok (.invokestatic 299, 3) := by decide +kernel
theorem dJ0_toCharArray_70df3_14 : decode cJ0_toCharArray_70df3 14 = .ok (.goto 10, 3) := by decide +kernel
theorem dJ0_toCharArray_70df3_17 : decode cJ0_toCharArray_70df3 17 = .ok (.aload_n 0, 1) := by decide +kernel
theorem dJ0_toCharArray_70df3_18 : decode cJ0_toCharArray_70df3 18 = .ok (.getfield 9, 3) := by decide +kernel
theorem dJ0_toCharArray_70df3_21 : decode cJ0_toCharArray_70df3 21 = .ok (.invokestatic 303, 3) := by decide +kernel
theorem dJ0_toCharArray_70df3_24 : decode cJ0_toCharArray_70df3 24 = .ok (.areturn, 1) := by decide +kernel
theorem dJ0_coder_7d493_0 : decode cJ0_coder_7d493 0 = .ok (.getstatic 38, 3) := by decide +kernel
theorem dJ0_coder_7d493_3 : decode cJ0_coder_7d493 3 = .ok (.ifCond .eq 10, 3) := by decide +kernel
theorem dJ0_coder_7d493_6 : decode cJ0_coder_7d493 6 = .ok (.aload_n 0, 1) := by decide +kernel
theorem dJ0_coder_7d493_7 : decode cJ0_coder_7d493 7 = .ok (.getfield 15, 3) := by decide +kernel
theorem dJ0_coder_7d493_10 : decode cJ0_coder_7d493 10 = .ok (.goto 4, 3) := by decide +kernel
theorem dJ0_coder_7d493_13 : decode cJ0_coder_7d493 13 = .ok (.iconst 1, 1) := by decide +kernel
theorem dJ0_coder_7d493_14 : decode cJ0_coder_7d493 14 = .ok (.ireturn, 1) := by decide +kernel
theorem dJ0_isLatin1_aae02_0 : decode cJ0_isLatin1_aae02 0 = .ok (.getstatic 38, 3) := by decide +kernel
theorem dJ0_isLatin1_aae02_3 : decode cJ0_isLatin1_aae02 3 = .ok (.ifCond .eq 14, 3) := by decide +kernel
theorem dJ0_isLatin1_aae02_6 : decode cJ0_isLatin1_aae02 6 = .ok (.aload_n 0, 1) := by decide +kernel
theorem dJ0_isLatin1_aae02_7 : decode cJ0_isLatin1_aae02 7 = .ok (.getfield 15, 3) := by decide +kernel
theorem dJ0_isLatin1_aae02_10 : decode cJ0_isLatin1_aae02 10 = .ok (.ifCond .ne 7, 3) := by decide +kernel
theorem dJ0_isLatin1_aae02_13 : decode cJ0_isLatin1_aae02 13 = .ok (.iconst 1, 1) := by decide +kernel
theorem dJ0_isLatin1_aae02_14 : decode cJ0_isLatin1_aae02 14 = .ok (.goto 4, 3) := by decide +kernel
theorem dJ0_isLatin1_aae02_17 : decode cJ0_isLatin1_aae02 17 = .ok (.iconst 0, 1) := by decide +kernel
theorem dJ0_isLatin1_aae02_18 : decode cJ0_isLatin1_aae02 18 = .ok (.ireturn, 1) := by decide +kernel
theorem dJ0_checkBoundsOffCount_cabcc_0 : decode cJ0_checkBoundsOffCount_cabcc 0 = .ok (.iload_n 0, 1) := by decide +kernel
theorem dJ0_checkBoundsOffCount_cabcc_1 : decode cJ0_checkBoundsOffCount_cabcc 1 = .ok (.iload_n 1, 1) := by decide +kernel
theorem dJ0_checkBoundsOffCount_cabcc_2 : decode cJ0_checkBoundsOffCount_cabcc 2 = .ok (.iload_n 2, 1) := by decide +kernel
theorem dJ0_checkBoundsOffCount_cabcc_3 : decode cJ0_checkBoundsOffCount_cabcc 3 = .ok (.getstatic 1053, 3) := by decide +kernel
theorem dJ0_checkBoundsOffCount_cabcc_6 : decode cJ0_checkBoundsOffCount_cabcc 6 = .ok (.invokestatic 1065, 3) := by decide +kernel
theorem dJ0_checkBoundsOffCount_cabcc_9 : decode cJ0_checkBoundsOffCount_cabcc 9 = .ok (.ireturn, 1) := by decide +kernel
theorem dJ1_toChars_9d188_0 : decode cJ1_toChars_9d188 0 = .ok (.aload_n 0, 1) := by decide +kernel
theorem dJ1_toChars_9d188_1 : decode cJ1_toChars_9d188 1 = .ok (.arraylength, 1) := by decide +kernel
theorem dJ1_toChars_9d188_2 : decode cJ1_toChars_9d188 2 = .ok (.newarray .char, 2) := by decide +kernel
theorem dJ1_toChars_9d188_4 : decode cJ1_toChars_9d188 4 = .ok (.astore_n 1, 1) := by decide +kernel
theorem dJ1_toChars_9d188_5 : decode cJ1_toChars_9d188 5 = .ok (.aload_n 0, 1) := by decide +kernel
theorem dJ1_toChars_9d188_6 : decode cJ1_toChars_9d188 6 = .ok (.iconst 0, 1) := by decide +kernel
theorem dJ1_toChars_9d188_7 : decode cJ1_toChars_9d188 7 = .ok (.aload_n 1, 1) := by decide +kernel
theorem dJ1_toChars_9d188_8 : decode cJ1_toChars_9d188 8 = .ok (.iconst 0, 1) := by decide +kernel
theorem dJ1_toChars_9d188_9 : decode cJ1_toChars_9d188 9 = .ok (.aload_n 0, 1) := by decide +kernel
theorem dJ1_toChars_9d188_10 : decode cJ1_toChars_9d188 10 = .ok (.arraylength, 1) := by decide +kernel
theorem dJ1_toChars_9d188_11 : decode cJ1_toChars_9d188 11 = .ok (.invokestatic 13, 3) := by decide +kernel
theorem dJ1_toChars_9d188_14 : decode cJ1_toChars_9d188 14 = .ok (.aload_n 1, 1) := by decide +kernel
theorem dJ1_toChars_9d188_15 : decode cJ1_toChars_9d188 15 = .ok (.areturn, 1) := by decide +kernel
theorem dJ1_inflate_03870_0 : decode cJ1_inflate_03870 0 = .ok (.iconst 0, 1) := by decide +kernel
theorem dJ1_inflate_03870_1 : decode cJ1_inflate_03870 1 = .ok (.istore 5, 2) := by decide +kernel
theorem dJ1_inflate_03870_3 : decode cJ1_inflate_03870 3 = .ok (.iload 5, 2) := by decide +kernel
theorem dJ1_inflate_03870_5 : decode cJ1_inflate_03870 5 = .ok (.iload 4, 2) := by decide +kernel
theorem dJ1_inflate_03870_7 : decode cJ1_inflate_03870 7 = .ok (.if_icmp .ge 26, 3) := by decide +kernel
theorem dJ1_inflate_03870_10 : decode cJ1_inflate_03870 10 = .ok (.aload_n 2, 1) := by decide +kernel
theorem dJ1_inflate_03870_11 : decode cJ1_inflate_03870 11 = .ok (.iload_n 3, 1) := by decide +kernel
theorem dJ1_inflate_03870_12 : decode cJ1_inflate_03870 12 = .ok (.iinc 3 1, 3) := by decide +kernel
theorem dJ1_inflate_03870_15 : decode cJ1_inflate_03870 15 = .ok (.aload_n 0, 1) := by decide +kernel
theorem dJ1_inflate_03870_16 : decode cJ1_inflate_03870 16 = .ok (.iload_n 1, 1) := by decide +kernel
theorem dJ1_inflate_03870_17 : decode cJ1_inflate_03870 17 = .ok (.iinc 1 1, 3) := by decide +kernel
theorem dJ1_inflate_03870_20 : decode cJ1_inflate_03870 20 = .ok (.baload, 1) := by decide +kernel
theorem dJ1_inflate_03870_21 : decode cJ1_inflate_03870 21 = .ok (.sipush 255, 3) := by decide +kernel
theorem dJ1_inflate_03870_24 : decode cJ1_inflate_03870 24 = .ok (.iand, 1) := by decide +kernel
theorem dJ1_inflate_03870_25 : decode cJ1_inflate_03870 25 = .ok (.i2c, 1) := by decide +kernel
theorem dJ1_inflate_03870_26 : decode cJ1_inflate_03870 26 = .ok (.castore, 1) := by decide +kernel
theorem dJ1_inflate_03870_27 : decode cJ1_inflate_03870 27 = .ok (.iinc 5 1, 3) := by decide +kernel
theorem dJ1_inflate_03870_30 : decode cJ1_inflate_03870 30 = .ok (.goto (-27), 3) := by decide +kernel
theorem dJ1_inflate_03870_33 : decode cJ1_inflate_03870 33 = .ok (.return_, 1) := by decide +kernel
theorem dJ2_getChar_3b067_0 : decode cJ2_getChar_3b067 0 = .ok (.getstatic 44, 3) := by decide +kernel
theorem dJ2_getChar_3b067_3 : decode cJ2_getChar_3b067 3 = .ok (.ifCond .ne 25, 3) := by decide +kernel
theorem dJ2_getChar_3b067_6 : decode cJ2_getChar_3b067 6 = .ok (.iload_n 1, 1) := by decide +kernel
theorem dJ2_getChar_3b067_7 : decode cJ2_getChar_3b067 7 = .ok (.ifCond .lt 11, 3) := by decide +kernel
theorem dJ2_getChar_3b067_10 : decode cJ2_getChar_3b067 10 = .ok (.iload_n 1, 1) := by decide +kernel
theorem dJ2_getChar_3b067_11 : decode cJ2_getChar_3b067 11 = .ok (.aload_n 0, 1) := by decide +kernel
theorem dJ2_getChar_3b067_12 : decode cJ2_getChar_3b067 12 = .ok (.invokestatic 48, 3) := by decide +kernel
theorem dJ2_getChar_3b067_15 : decode cJ2_getChar_3b067 15 = .ok (.if_icmp .lt 13, 3) := by decide +kernel
theorem dJ2_getChar_3b067_18 : decode cJ2_getChar_3b067 18 = .ok (.new 52, 3) := by decide +kernel
theorem dJ2_getChar_3b067_21 : decode cJ2_getChar_3b067 21 = .ok (.dup, 1) := by decide +kernel
theorem dJ2_getChar_3b067_22 : decode cJ2_getChar_3b067 22 = .ok (.ldc 54, 2) := by decide +kernel
theorem dJ2_getChar_3b067_24 : decode cJ2_getChar_3b067 24 = .ok (.invokespecial 56, 3) := by decide +kernel
theorem dJ2_getChar_3b067_27 : decode cJ2_getChar_3b067 27 = .ok (.athrow, 1) := by decide +kernel
theorem dJ2_getChar_3b067_28 : decode cJ2_getChar_3b067 28 = .ok (.iload_n 1, 1) := by decide +kernel
theorem dJ2_getChar_3b067_29 : decode cJ2_getChar_3b067 29 = .ok (.iconst 1, 1) := by decide +kernel
theorem dJ2_getChar_3b067_30 : decode cJ2_getChar_3b067 30 = .ok (.ishl, 1) := by decide +kernel
theorem dJ2_getChar_3b067_31 : decode cJ2_getChar_3b067 31 = .ok (.istore_n 1, 1) := by decide +kernel
theorem dJ2_getChar_3b067_32 : decode cJ2_getChar_3b067 32 = .ok (.aload_n 0, 1) := by decide +kernel
theorem dJ2_getChar_3b067_33 : decode cJ2_getChar_3b067 33 = .ok (.iload_n 1, 1) := by decide +kernel
theorem dJ2_getChar_3b067_34 : decode cJ2_getChar_3b067 34 = .ok (.iinc 1 1, 3) := by decide +kernel
theorem dJ2_getChar_3b067_37 : decode cJ2_getChar_3b067 37 = .ok (.baload, 1) := by decide +kernel
theorem dJ2_getChar_3b067_38 : decode cJ2_getChar_3b067 38 = .ok (.sipush 255, 3) := by decide +kernel
theorem dJ2_getChar_3b067_41 : decode cJ2_getChar_3b067 41 = .ok (.iand, 1) := by decide +kernel
theorem dJ2_getChar_3b067_42 : decode cJ2_getChar_3b067 42 = .ok (.getstatic 59, 3) := by decide +kernel
theorem dJ2_getChar_3b067_45 : decode cJ2_getChar_3b067 45 = .ok (.ishl, 1) := by decide +kernel
theorem dJ2_getChar_3b067_46 : decode cJ2_getChar_3b067 46 = .ok (.aload_n 0, 1) := by decide +kernel
theorem dJ2_getChar_3b067_47 : decode cJ2_getChar_3b067 47 = .ok (.iload_n 1, 1) := by decide +kernel
theorem dJ2_getChar_3b067_48 : decode cJ2_getChar_3b067 48 = .ok (.baload, 1) := by decide +kernel
theorem dJ2_getChar_3b067_49 : decode cJ2_getChar_3b067 49 = .ok (.sipush 255, 3) := by decide +kernel
theorem dJ2_getChar_3b067_52 : decode cJ2_getChar_3b067 52 = .ok (.iand, 1) := by decide +kernel
theorem dJ2_getChar_3b067_53 : decode cJ2_getChar_3b067 53 = .ok (.getstatic 63, 3) := by decide +kernel
theorem dJ2_getChar_3b067_56 : decode cJ2_getChar_3b067 56 = .ok (.ishl, 1) := by decide +kernel
theorem dJ2_getChar_3b067_57 : decode cJ2_getChar_3b067 57 = .ok (.ior, 1) := by decide +kernel
theorem dJ2_getChar_3b067_58 : decode cJ2_getChar_3b067 58 = .ok (.i2c, 1) := by decide +kernel
theorem dJ2_getChar_3b067_59 : decode cJ2_getChar_3b067 59 = .ok (.ireturn, 1) := by decide +kernel
theorem dJ2_length_9d52b_0 : decode cJ2_length_9d52b 0 = .ok (.aload_n 0, 1) := by decide +kernel
theorem dJ2_length_9d52b_1 : decode cJ2_length_9d52b 1 = .ok (.arraylength, 1) := by decide +kernel
theorem dJ2_length_9d52b_2 : decode cJ2_length_9d52b 2 = .ok (.iconst 1, 1) := by decide +kernel
theorem dJ2_length_9d52b_3 : decode cJ2_length_9d52b 3 = .ok (.ishr, 1) := by decide +kernel
theorem dJ2_length_9d52b_4 : decode cJ2_length_9d52b 4 = .ok (.ireturn, 1) := by decide +kernel
theorem dJ2_toChars_9d188_0 : decode cJ2_toChars_9d188 0 = .ok (.aload_n 0, 1) := by decide +kernel
theorem dJ2_toChars_9d188_1 : decode cJ2_toChars_9d188 1 = .ok (.arraylength, 1) := by decide +kernel
theorem dJ2_toChars_9d188_2 : decode cJ2_toChars_9d188 2 = .ok (.iconst 1, 1) := by decide +kernel
theorem dJ2_toChars_9d188_3 : decode cJ2_toChars_9d188 3 = .ok (.ishr, 1) := by decide +kernel
theorem dJ2_toChars_9d188_4 : decode cJ2_toChars_9d188 4 = .ok (.newarray .char, 2) := by decide +kernel
theorem dJ2_toChars_9d188_6 : decode cJ2_toChars_9d188 6 = .ok (.astore_n 1, 1) := by decide +kernel
theorem dJ2_toChars_9d188_7 : decode cJ2_toChars_9d188 7 = .ok (.aload_n 0, 1) := by decide +kernel
theorem dJ2_toChars_9d188_8 : decode cJ2_toChars_9d188 8 = .ok (.iconst 0, 1) := by decide +kernel
theorem dJ2_toChars_9d188_9 : decode cJ2_toChars_9d188 9 = .ok (.aload_n 1, 1) := by decide +kernel
theorem dJ2_toChars_9d188_10 : decode cJ2_toChars_9d188 10 = .ok (.arraylength, 1) := by decide +kernel
theorem dJ2_toChars_9d188_11 : decode cJ2_toChars_9d188 11 = .ok (.aload_n 1, 1) := by decide +kernel
theorem dJ2_toChars_9d188_12 : decode cJ2_toChars_9d188 12 = .ok (.iconst 0, 1) := by decide +kernel
theorem dJ2_toChars_9d188_13 : decode cJ2_toChars_9d188 13 = .ok (.invokestatic 103, 3) := by decide +kernel
theorem dJ2_toChars_9d188_16 : decode cJ2_toChars_9d188 16 = .ok (.aload_n 1, 1) := by decide +kernel
theorem dJ2_toChars_9d188_17 : decode cJ2_toChars_9d188 17 = .ok (.areturn, 1) := by decide +kernel
theorem dJ2_getChars_a1a8b_0 : decode cJ2_getChars_a1a8b 0 = .ok (.iload_n 1, 1) := by decide +kernel
theorem dJ2_getChars_a1a8b_1 : decode cJ2_getChars_a1a8b 1 = .ok (.iload_n 2, 1) := by decide +kernel
theorem dJ2_getChars_a1a8b_2 : decode cJ2_getChars_a1a8b 2 = .ok (.if_icmp .ge 11, 3) := by decide +kernel
theorem dJ2_getChars_a1a8b_5 : decode cJ2_getChars_a1a8b 5 = .ok (.iload_n 1, 1) := by decide +kernel
theorem dJ2_getChars_a1a8b_6 : decode cJ2_getChars_a1a8b 6 = .ok (.iload_n 2, 1) := by decide +kernel
theorem dJ2_getChars_a1a8b_7 : decode cJ2_getChars_a1a8b 7 = .ok (.iload_n 1, 1) := by decide +kernel
theorem dJ2_getChars_a1a8b_8 : decode cJ2_getChars_a1a8b 8 = .ok (.isub, 1) := by decide +kernel
theorem dJ2_getChars_a1a8b_9 : decode cJ2_getChars_a1a8b 9 = .ok (.aload_n 0, 1) := by decide +kernel
theorem dJ2_getChars_a1a8b_10 : decode cJ2_getChars_a1a8b 10 = .ok (.invokestatic 173, 3) := by decide +kernel
theorem dJ2_getChars_a1a8b_13 : decode cJ2_getChars_a1a8b 13 = .ok (.iload_n 1, 1) := by decide +kernel
theorem dJ2_getChars_a1a8b_14 : decode cJ2_getChars_a1a8b 14 = .ok (.istore 5, 2) := by decide +kernel
theorem dJ2_getChars_a1a8b_16 : decode cJ2_getChars_a1a8b 16 = .ok (.iload 5, 2) := by decide +kernel
theorem dJ2_getChars_a1a8b_18 : decode cJ2_getChars_a1a8b 18 = .ok (.iload_n 2, 1) := by decide +kernel
theorem dJ2_getChars_a1a8b_19 : decode cJ2_getChars_a1a8b 19 = .ok (.if_icmp .ge 22, 3) := by decide +kernel
theorem dJ2_getChars_a1a8b_22 : decode cJ2_getChars_a1a8b 22 = .ok (.aload_n 3, 1) := by decide +kernel
theorem dJ2_getChars_a1a8b_23 : decode cJ2_getChars_a1a8b 23 = .ok (.iload 4, 2) := by decide +kernel
theorem dJ2_getChars_a1a8b_25 : decode cJ2_getChars_a1a8b 25 = .ok (.iinc 4 1, 3) := by decide +kernel
theorem dJ2_getChars_a1a8b_28 : decode cJ2_getChars_a1a8b 28 = .ok (.aload_n 0, 1) := by decide +kernel
theorem dJ2_getChars_a1a8b_29 : decode cJ2_getChars_a1a8b 29 = .ok (.iload 5, 2) := by decide +kernel
theorem dJ2_getChars_a1a8b_31 : decode cJ2_getChars_a1a8b 31 = .ok (.invokestatic 71, 3) := by decide +kernel
theorem dJ2_getChars_a1a8b_34 : decode cJ2_getChars_a1a8b 34 = .ok (.castore, 1) := by decide +kernel
theorem dJ2_getChars_a1a8b_35 : decode cJ2_getChars_a1a8b 35 = .ok (.iinc 5 1, 3) := by decide +kernel
theorem dJ2_getChars_a1a8b_38 : decode cJ2_getChars_a1a8b 38 = .ok (.goto (-22), 3) := by decide +kernel
theorem dJ2_getChars_a1a8b_41 : decode cJ2_getChars_a1a8b 41 = .ok (.return_, 1) := by decide +kernel
theorem dJ2_checkBoundsOffCount_d044e_0 : decode cJ2_checkBoundsOffCount_d044e 0 = .ok (.iload_n 0, 1) := by decide +kernel
theorem dJ2_checkBoundsOffCount_d044e_1 : decode cJ2_checkBoundsOffCount_d044e 1 = .ok (.iload_n 1, 1) := by decide +kernel
theorem dJ2_checkBoundsOffCount_d044e_2 : decode cJ2_checkBoundsOffCount_d044e 2 = .ok (.aload_n 2, 1) := by decide +kernel
theorem dJ2_checkBoundsOffCount_d044e_3 : decode cJ2_checkBoundsOffCount_d044e 3 = .ok (.invokestatic 48, 3) := by decide +kernel
theorem dJ2_checkBoundsOffCount_d044e_6 : decode cJ2_checkBoundsOffCount_d044e 6 = .ok (.invokestatic 419, 3) := by decide +kernel
theorem dJ2_checkBoundsOffCount_d044e_9 : decode cJ2_checkBoundsOffCount_d044e 9 = .ok (.pop, 1) := by decide +kernel
theorem dJ2_checkBoundsOffCount_d044e_10 : decode cJ2_checkBoundsOffCount_d044e 10 = .ok (.return_, 1) := by decide +kernel
theorem dJ7_fill_53178_0 : decode cJ7_fill_53178 0 = .ok (.iconst 0, 1) := by decide +kernel
theorem dJ7_fill_53178_1 : decode cJ7_fill_53178 1 = .ok (.istore_n 2, 1) := by decide +kernel
theorem dJ7_fill_53178_2 : decode cJ7_fill_53178 2 = .ok (.aload_n 0, 1) := by decide +kernel
theorem dJ7_fill_53178_3 : decode cJ7_fill_53178 3 = .ok (.arraylength, 1) := by decide +kernel
theorem dJ7_fill_53178_4 : decode cJ7_fill_53178 4 = .ok (.istore_n 3, 1) := by decide +kernel
theorem dJ7_fill_53178_5 : decode cJ7_fill_53178 5 = .ok (.iload_n 2, 1) := by decide +kernel
theorem dJ7_fill_53178_6 : decode cJ7_fill_53178 6 = .ok (.iload_n 3, 1) := by decide +kernel
theorem dJ7_fill_53178_7 : decode cJ7_fill_53178 7 = .ok (.if_icmp .ge 13, 3) := by decide +kernel
theorem dJ7_fill_53178_10 : decode cJ7_fill_53178 10 = .ok (.aload_n 0, 1) := by decide +kernel
theorem dJ7_fill_53178_11 : decode cJ7_fill_53178 11 = .ok (.iload_n 2, 1) := by decide +kernel
theorem dJ7_fill_53178_12 : decode cJ7_fill_53178 12 = .ok (.iload_n 1, 1) := by decide +kernel
theorem dJ7_fill_53178_13 : decode cJ7_fill_53178 13 = .ok (.iastore, 1) := by decide +kernel
theorem dJ7_fill_53178_14 : decode cJ7_fill_53178 14 = .ok (.iinc 2 1, 3) := by decide +kernel
theorem dJ7_fill_53178_17 : decode cJ7_fill_53178 17 = .ok (.goto (-12), 3) := by decide +kernel
theorem dJ7_fill_53178_20 : decode cJ7_fill_53178 20 = .ok (.return_, 1) := by decide +kernel
theorem dJ3_checkFromIndexSize_8c36e_0 : decode cJ3_checkFromIndexSize_8c36e 0 = .ok (.iload_n 2, 1) := by decide +kernel
theorem dJ3_checkFromIndexSize_8c36e_1 : decode cJ3_checkFromIndexSize_8c36e 1 = .ok (.iload_n 0, 1) := by decide +kernel
theorem dJ3_checkFromIndexSize_8c36e_2 : decode cJ3_checkFromIndexSize_8c36e 2 = .ok (.ior, 1) := by decide +kernel
theorem dJ3_checkFromIndexSize_8c36e_3 : decode cJ3_checkFromIndexSize_8c36e 3 = .ok (.iload_n 1, 1) := by decide +kernel
theorem dJ3_checkFromIndexSize_8c36e_4 : decode cJ3_checkFromIndexSize_8c36e 4 = .ok (.ior, 1) := by decide +kernel
theorem dJ3_checkFromIndexSize_8c36e_5 : decode cJ3_checkFromIndexSize_8c36e 5 = .ok (.ifCond .lt 10, 3) := by decide +kernel
theorem dJ3_checkFromIndexSize_8c36e_8 : decode cJ3_checkFromIndexSize_8c36e 8 = .ok (.iload_n 1, 1) := by decide +kernel
theorem dJ3_checkFromIndexSize_8c36e_9 : decode cJ3_checkFromIndexSize_8c36e 9 = .ok (.iload_n 2, 1) := by decide +kernel
theorem dJ3_checkFromIndexSize_8c36e_10 : decode cJ3_checkFromIndexSize_8c36e 10 = .ok (.iload_n 0, 1) := by decide +kernel
theorem dJ3_checkFromIndexSize_8c36e_11 : decode cJ3_checkFromIndexSize_8c36e 11 = .ok (.isub, 1) := by decide +kernel
theorem dJ3_checkFromIndexSize_8c36e_12 : decode cJ3_checkFromIndexSize_8c36e 12 = .ok (.if_icmp .le 11, 3) := by decide +kernel
theorem dJ3_checkFromIndexSize_8c36e_15 : decode cJ3_checkFromIndexSize_8c36e 15 = .ok (.aload_n 3, 1) := by decide +kernel
theorem dJ3_checkFromIndexSize_8c36e_16 : decode cJ3_checkFromIndexSize_8c36e 16 = .ok (.iload_n 0, 1) := by decide +kernel
theorem dJ3_checkFromIndexSize_8c36e_17 : decode cJ3_checkFromIndexSize_8c36e 17 = .ok (.iload_n 1, 1) := by decide +kernel
theorem dJ3_checkFromIndexSize_8c36e_18 : decode cJ3_checkFromIndexSize_8c36e 18 = .ok (.iload_n 2, 1) := by decide +kernel
theorem dJ3_checkFromIndexSize_8c36e_19 : decode cJ3_checkFromIndexSize_8c36e 19 = .ok (.invokestatic 103, 3) := by decide +kernel
theorem dJ3_checkFromIndexSize_8c36e_22 : decode cJ3_checkFromIndexSize_8c36e 22 = .ok (.athrow, 1) := by decide +kernel
theorem dJ3_checkFromIndexSize_8c36e_23 : decode cJ3_checkFromIndexSize_8c36e 23 = .ok (.iload_n 0, 1) := by decide +kernel
theorem dJ3_checkFromIndexSize_8c36e_24 : decode cJ3_checkFromIndexSize_8c36e 24 = .ok (.ireturn, 1) := by decide +kernel
theorem dL_law_0 : decode cL_law 0 = .ok (.new 7, 3) := by decide +kernel
theorem dL_law_3 : decode cL_law 3 = .ok (.dup, 1) := by decide +kernel
theorem dL_law_4 : decode cL_law 4 = .ok (.invokespecial 9, 3) := by decide +kernel
theorem dL_law_7 : decode cL_law 7 = .ok (.astore_n 1, 1) := by decide +kernel
theorem dL_law_8 : decode cL_law 8 = .ok (.new 10, 3) := by decide +kernel
theorem dL_law_11 : decode cL_law 11 = .ok (.dup, 1) := by decide +kernel
theorem dL_law_12 : decode cL_law 12 = .ok (.invokespecial 12, 3) := by decide +kernel
theorem dL_law_15 : decode cL_law 15 = .ok (.astore_n 2, 1) := by decide +kernel
theorem dL_law_16 : decode cL_law 16 = .ok (.iconst 0, 1) := by decide +kernel
theorem dL_law_17 : decode cL_law 17 = .ok (.istore_n 3, 1) := by decide +kernel
theorem dL_law_18 : decode cL_law 18 = .ok (.iload_n 3, 1) := by decide +kernel
theorem dL_law_19 : decode cL_law 19 = .ok (.aload_n 0, 1) := by decide +kernel
theorem dL_law_20 : decode cL_law 20 = .ok (.arraylength, 1) := by decide +kernel
theorem dL_law_21 : decode cL_law 21 = .ok (.iconst 5, 1) := by decide +kernel
theorem dL_law_22 : decode cL_law 22 = .ok (.isub, 1) := by decide +kernel
theorem dL_law_23 : decode cL_law 23 = .ok (.if_icmp .gt 944, 3) := by decide +kernel
theorem dL_law_26 : decode cL_law 26 = .ok (.aload_n 0, 1) := by decide +kernel
theorem dL_law_27 : decode cL_law 27 = .ok (.iload_n 3, 1) := by decide +kernel
theorem dL_law_28 : decode cL_law 28 = .ok (.iaload, 1) := by decide +kernel
theorem dL_law_29 : decode cL_law 29 = .ok (.bipush 31, 2) := by decide +kernel
theorem dL_law_31 : decode cL_law 31 = .ok (.iand, 1) := by decide +kernel
theorem dL_law_32 : decode cL_law 32 = .ok (.tableswitch 929 0 28 #[132, 155, 168, 181, 194, 227, 260, 293, 326, 359, 392, 445, 478, 511, 524, 547, 570, 603, 626, 669, 692, 725, 748, 781, 814, 847, 880, 893, 906], 132) := by decide +kernel
theorem dL_law_164 : decode cL_law 164 = .ok (.aload_n 1, 1) := by decide +kernel
theorem dL_law_165 : decode cL_law 165 = .ok (.aload_n 0, 1) := by decide +kernel
theorem dL_law_166 : decode cL_law 166 = .ok (.iload_n 3, 1) := by decide +kernel
theorem dL_law_167 : decode cL_law 167 = .ok (.iconst 1, 1) := by decide +kernel
theorem dL_law_168 : decode cL_law 168 = .ok (.iadd, 1) := by decide +kernel
theorem dL_law_169 : decode cL_law 169 = .ok (.iaload, 1) := by decide +kernel
theorem dL_law_170 : decode cL_law 170 = .ok (.invokevirtual 13, 3) := by decide +kernel
theorem dL_law_173 : decode cL_law 173 = .ok (.aload_n 2, 1) := by decide +kernel
theorem dL_law_174 : decode cL_law 174 = .ok (.aload_n 0, 1) := by decide +kernel
theorem dL_law_175 : decode cL_law 175 = .ok (.iload_n 3, 1) := by decide +kernel
theorem dL_law_176 : decode cL_law 176 = .ok (.iconst 1, 1) := by decide +kernel
theorem dL_law_177 : decode cL_law 177 = .ok (.iadd, 1) := by decide +kernel
theorem dL_law_178 : decode cL_law 178 = .ok (.iaload, 1) := by decide +kernel
theorem dL_law_179 : decode cL_law 179 = .ok (.invokevirtual 17, 3) := by decide +kernel
theorem dL_law_182 : decode cL_law 182 = .ok (.if_icmp .eq 779, 3) := by decide +kernel
theorem dL_law_185 : decode cL_law 185 = .ok (.iconst 0, 1) := by decide +kernel
theorem dL_law_186 : decode cL_law 186 = .ok (.ireturn, 1) := by decide +kernel
theorem dL_law_187 : decode cL_law 187 = .ok (.aload_n 1, 1) := by decide +kernel
theorem dL_law_188 : decode cL_law 188 = .ok (.invokevirtual 18, 3) := by decide +kernel
theorem dL_law_191 : decode cL_law 191 = .ok (.aload_n 2, 1) := by decide +kernel
theorem dL_law_192 : decode cL_law 192 = .ok (.invokevirtual 22, 3) := by decide +kernel
theorem dL_law_195 : decode cL_law 195 = .ok (.if_icmp .eq 766, 3) := by decide +kernel
theorem dL_law_198 : decode cL_law 198 = .ok (.iconst 0, 1) := by decide +kernel
theorem dL_law_199 : decode cL_law 199 = .ok (.ireturn, 1) := by decide +kernel
theorem dL_law_200 : decode cL_law 200 = .ok (.aload_n 1, 1) := by decide +kernel
theorem dL_law_201 : decode cL_law 201 = .ok (.invokevirtual 23, 3) := by decide +kernel
theorem dL_law_204 : decode cL_law 204 = .ok (.aload_n 2, 1) := by decide +kernel
theorem dL_law_205 : decode cL_law 205 = .ok (.invokevirtual 26, 3) := by decide +kernel
theorem dL_law_208 : decode cL_law 208 = .ok (.if_icmp .eq 753, 3) := by decide +kernel
theorem dL_law_211 : decode cL_law 211 = .ok (.iconst 0, 1) := by decide +kernel
theorem dL_law_212 : decode cL_law 212 = .ok (.ireturn, 1) := by decide +kernel
theorem dL_law_213 : decode cL_law 213 = .ok (.aload_n 1, 1) := by decide +kernel
theorem dL_law_214 : decode cL_law 214 = .ok (.invokevirtual 27, 3) := by decide +kernel
theorem dL_law_217 : decode cL_law 217 = .ok (.aload_n 2, 1) := by decide +kernel
theorem dL_law_218 : decode cL_law 218 = .ok (.invokevirtual 30, 3) := by decide +kernel
theorem dL_law_221 : decode cL_law 221 = .ok (.if_icmp .eq 740, 3) := by decide +kernel
theorem dL_law_224 : decode cL_law 224 = .ok (.iconst 0, 1) := by decide +kernel
theorem dL_law_225 : decode cL_law 225 = .ok (.ireturn, 1) := by decide +kernel
theorem dL_law_226 : decode cL_law 226 = .ok (.aload_n 1, 1) := by decide +kernel
theorem dL_law_227 : decode cL_law 227 = .ok (.aload_n 0, 1) := by decide +kernel
theorem dL_law_228 : decode cL_law 228 = .ok (.iload_n 3, 1) := by decide +kernel
theorem dL_law_229 : decode cL_law 229 = .ok (.iconst 1, 1) := by decide +kernel
theorem dL_law_230 : decode cL_law 230 = .ok (.iadd, 1) := by decide +kernel
theorem dL_law_231 : decode cL_law 231 = .ok (.iaload, 1) := by decide +kernel
theorem dL_law_232 : decode cL_law 232 = .ok (.aload_n 0, 1) := by decide +kernel
theorem dL_law_233 : decode cL_law 233 = .ok (.iload_n 3, 1) := by decide +kernel
theorem dL_law_234 : decode cL_law 234 = .ok (.iconst 2, 1) := by decide +kernel
theorem dL_law_235 : decode cL_law 235 = .ok (.iadd, 1) := by decide +kernel
theorem dL_law_236 : decode cL_law 236 = .ok (.iaload, 1) := by decide +kernel
theorem dL_law_237 : decode cL_law 237 = .ok (.invokevirtual 31, 3) := by decide +kernel
theorem dL_law_240 : decode cL_law 240 = .ok (.aload_n 2, 1) := by decide +kernel
theorem dL_law_241 : decode cL_law 241 = .ok (.aload_n 0, 1) := by decide +kernel
theorem dL_law_242 : decode cL_law 242 = .ok (.iload_n 3, 1) := by decide +kernel
theorem dL_law_243 : decode cL_law 243 = .ok (.iconst 1, 1) := by decide +kernel
theorem dL_law_244 : decode cL_law 244 = .ok (.iadd, 1) := by decide +kernel
theorem dL_law_245 : decode cL_law 245 = .ok (.iaload, 1) := by decide +kernel
theorem dL_law_246 : decode cL_law 246 = .ok (.aload_n 0, 1) := by decide +kernel
theorem dL_law_247 : decode cL_law 247 = .ok (.iload_n 3, 1) := by decide +kernel
theorem dL_law_248 : decode cL_law 248 = .ok (.iconst 2, 1) := by decide +kernel
theorem dL_law_249 : decode cL_law 249 = .ok (.iadd, 1) := by decide +kernel
theorem dL_law_250 : decode cL_law 250 = .ok (.iaload, 1) := by decide +kernel
theorem dL_law_251 : decode cL_law 251 = .ok (.invokevirtual 35, 3) := by decide +kernel
theorem dL_law_254 : decode cL_law 254 = .ok (.if_icmp .eq 707, 3) := by decide +kernel
theorem dL_law_257 : decode cL_law 257 = .ok (.iconst 0, 1) := by decide +kernel
theorem dL_law_258 : decode cL_law 258 = .ok (.ireturn, 1) := by decide +kernel
theorem dL_law_259 : decode cL_law 259 = .ok (.aload_n 1, 1) := by decide +kernel
theorem dL_law_260 : decode cL_law 260 = .ok (.aload_n 0, 1) := by decide +kernel
theorem dL_law_261 : decode cL_law 261 = .ok (.iload_n 3, 1) := by decide +kernel
theorem dL_law_262 : decode cL_law 262 = .ok (.iconst 1, 1) := by decide +kernel
theorem dL_law_263 : decode cL_law 263 = .ok (.iadd, 1) := by decide +kernel
theorem dL_law_264 : decode cL_law 264 = .ok (.iaload, 1) := by decide +kernel
theorem dL_law_265 : decode cL_law 265 = .ok (.aload_n 0, 1) := by decide +kernel
theorem dL_law_266 : decode cL_law 266 = .ok (.iload_n 3, 1) := by decide +kernel
theorem dL_law_267 : decode cL_law 267 = .ok (.iconst 2, 1) := by decide +kernel
theorem dL_law_268 : decode cL_law 268 = .ok (.iadd, 1) := by decide +kernel
theorem dL_law_269 : decode cL_law 269 = .ok (.iaload, 1) := by decide +kernel
theorem dL_law_270 : decode cL_law 270 = .ok (.invokevirtual 36, 3) := by decide +kernel
theorem dL_law_273 : decode cL_law 273 = .ok (.aload_n 2, 1) := by decide +kernel
theorem dL_law_274 : decode cL_law 274 = .ok (.aload_n 0, 1) := by decide +kernel
theorem dL_law_275 : decode cL_law 275 = .ok (.iload_n 3, 1) := by decide +kernel
theorem dL_law_276 : decode cL_law 276 = .ok (.iconst 1, 1) := by decide +kernel
theorem dL_law_277 : decode cL_law 277 = .ok (.iadd, 1) := by decide +kernel
theorem dL_law_278 : decode cL_law 278 = .ok (.iaload, 1) := by decide +kernel
theorem dL_law_279 : decode cL_law 279 = .ok (.aload_n 0, 1) := by decide +kernel
theorem dL_law_280 : decode cL_law 280 = .ok (.iload_n 3, 1) := by decide +kernel
theorem dL_law_281 : decode cL_law 281 = .ok (.iconst 2, 1) := by decide +kernel
theorem dL_law_282 : decode cL_law 282 = .ok (.iadd, 1) := by decide +kernel
theorem dL_law_283 : decode cL_law 283 = .ok (.iaload, 1) := by decide +kernel
theorem dL_law_284 : decode cL_law 284 = .ok (.invokevirtual 39, 3) := by decide +kernel
theorem dL_law_287 : decode cL_law 287 = .ok (.if_icmp .eq 674, 3) := by decide +kernel
theorem dL_law_290 : decode cL_law 290 = .ok (.iconst 0, 1) := by decide +kernel
theorem dL_law_291 : decode cL_law 291 = .ok (.ireturn, 1) := by decide +kernel
theorem dL_law_292 : decode cL_law 292 = .ok (.aload_n 1, 1) := by decide +kernel
theorem dL_law_293 : decode cL_law 293 = .ok (.aload_n 0, 1) := by decide +kernel
theorem dL_law_294 : decode cL_law 294 = .ok (.iload_n 3, 1) := by decide +kernel
theorem dL_law_295 : decode cL_law 295 = .ok (.iconst 1, 1) := by decide +kernel
theorem dL_law_296 : decode cL_law 296 = .ok (.iadd, 1) := by decide +kernel
theorem dL_law_297 : decode cL_law 297 = .ok (.iaload, 1) := by decide +kernel
theorem dL_law_298 : decode cL_law 298 = .ok (.aload_n 0, 1) := by decide +kernel
theorem dL_law_299 : decode cL_law 299 = .ok (.iload_n 3, 1) := by decide +kernel
theorem dL_law_300 : decode cL_law 300 = .ok (.iconst 2, 1) := by decide +kernel
theorem dL_law_301 : decode cL_law 301 = .ok (.iadd, 1) := by decide +kernel
theorem dL_law_302 : decode cL_law 302 = .ok (.iaload, 1) := by decide +kernel
theorem dL_law_303 : decode cL_law 303 = .ok (.invokevirtual 40, 3) := by decide +kernel
theorem dL_law_306 : decode cL_law 306 = .ok (.aload_n 2, 1) := by decide +kernel
theorem dL_law_307 : decode cL_law 307 = .ok (.aload_n 0, 1) := by decide +kernel
theorem dL_law_308 : decode cL_law 308 = .ok (.iload_n 3, 1) := by decide +kernel
theorem dL_law_309 : decode cL_law 309 = .ok (.iconst 1, 1) := by decide +kernel
theorem dL_law_310 : decode cL_law 310 = .ok (.iadd, 1) := by decide +kernel
theorem dL_law_311 : decode cL_law 311 = .ok (.iaload, 1) := by decide +kernel
theorem dL_law_312 : decode cL_law 312 = .ok (.aload_n 0, 1) := by decide +kernel
theorem dL_law_313 : decode cL_law 313 = .ok (.iload_n 3, 1) := by decide +kernel
theorem dL_law_314 : decode cL_law 314 = .ok (.iconst 2, 1) := by decide +kernel
theorem dL_law_315 : decode cL_law 315 = .ok (.iadd, 1) := by decide +kernel
theorem dL_law_316 : decode cL_law 316 = .ok (.iaload, 1) := by decide +kernel
theorem dL_law_317 : decode cL_law 317 = .ok (.invokevirtual 43, 3) := by decide +kernel
theorem dL_law_320 : decode cL_law 320 = .ok (.if_icmp .eq 641, 3) := by decide +kernel
theorem dL_law_323 : decode cL_law 323 = .ok (.iconst 0, 1) := by decide +kernel
theorem dL_law_324 : decode cL_law 324 = .ok (.ireturn, 1) := by decide +kernel
theorem dL_law_325 : decode cL_law 325 = .ok (.aload_n 1, 1) := by decide +kernel
theorem dL_law_326 : decode cL_law 326 = .ok (.aload_n 0, 1) := by decide +kernel
theorem dL_law_327 : decode cL_law 327 = .ok (.iload_n 3, 1) := by decide +kernel
theorem dL_law_328 : decode cL_law 328 = .ok (.iconst 1, 1) := by decide +kernel
theorem dL_law_329 : decode cL_law 329 = .ok (.iadd, 1) := by decide +kernel
theorem dL_law_330 : decode cL_law 330 = .ok (.iaload, 1) := by decide +kernel
theorem dL_law_331 : decode cL_law 331 = .ok (.aload_n 0, 1) := by decide +kernel
theorem dL_law_332 : decode cL_law 332 = .ok (.iload_n 3, 1) := by decide +kernel
theorem dL_law_333 : decode cL_law 333 = .ok (.iconst 2, 1) := by decide +kernel
theorem dL_law_334 : decode cL_law 334 = .ok (.iadd, 1) := by decide +kernel
theorem dL_law_335 : decode cL_law 335 = .ok (.iaload, 1) := by decide +kernel
theorem dL_law_336 : decode cL_law 336 = .ok (.invokevirtual 44, 3) := by decide +kernel
theorem dL_law_339 : decode cL_law 339 = .ok (.aload_n 2, 1) := by decide +kernel
theorem dL_law_340 : decode cL_law 340 = .ok (.aload_n 0, 1) := by decide +kernel
theorem dL_law_341 : decode cL_law 341 = .ok (.iload_n 3, 1) := by decide +kernel
theorem dL_law_342 : decode cL_law 342 = .ok (.iconst 1, 1) := by decide +kernel
theorem dL_law_343 : decode cL_law 343 = .ok (.iadd, 1) := by decide +kernel
theorem dL_law_344 : decode cL_law 344 = .ok (.iaload, 1) := by decide +kernel
theorem dL_law_345 : decode cL_law 345 = .ok (.aload_n 0, 1) := by decide +kernel
theorem dL_law_346 : decode cL_law 346 = .ok (.iload_n 3, 1) := by decide +kernel
theorem dL_law_347 : decode cL_law 347 = .ok (.iconst 2, 1) := by decide +kernel
theorem dL_law_348 : decode cL_law 348 = .ok (.iadd, 1) := by decide +kernel
theorem dL_law_349 : decode cL_law 349 = .ok (.iaload, 1) := by decide +kernel
theorem dL_law_350 : decode cL_law 350 = .ok (.invokevirtual 47, 3) := by decide +kernel
theorem dL_law_353 : decode cL_law 353 = .ok (.if_icmp .eq 608, 3) := by decide +kernel
theorem dL_law_356 : decode cL_law 356 = .ok (.iconst 0, 1) := by decide +kernel
theorem dL_law_357 : decode cL_law 357 = .ok (.ireturn, 1) := by decide +kernel
theorem dL_law_358 : decode cL_law 358 = .ok (.aload_n 1, 1) := by decide +kernel
theorem dL_law_359 : decode cL_law 359 = .ok (.aload_n 0, 1) := by decide +kernel
theorem dL_law_360 : decode cL_law 360 = .ok (.iload_n 3, 1) := by decide +kernel
theorem dL_law_361 : decode cL_law 361 = .ok (.iconst 1, 1) := by decide +kernel
theorem dL_law_362 : decode cL_law 362 = .ok (.iadd, 1) := by decide +kernel
theorem dL_law_363 : decode cL_law 363 = .ok (.iaload, 1) := by decide +kernel
theorem dL_law_364 : decode cL_law 364 = .ok (.aload_n 0, 1) := by decide +kernel
theorem dL_law_365 : decode cL_law 365 = .ok (.iload_n 3, 1) := by decide +kernel
theorem dL_law_366 : decode cL_law 366 = .ok (.iconst 2, 1) := by decide +kernel
theorem dL_law_367 : decode cL_law 367 = .ok (.iadd, 1) := by decide +kernel
theorem dL_law_368 : decode cL_law 368 = .ok (.iaload, 1) := by decide +kernel
theorem dL_law_369 : decode cL_law 369 = .ok (.invokevirtual 48, 3) := by decide +kernel
theorem dL_law_372 : decode cL_law 372 = .ok (.aload_n 2, 1) := by decide +kernel
theorem dL_law_373 : decode cL_law 373 = .ok (.aload_n 0, 1) := by decide +kernel
theorem dL_law_374 : decode cL_law 374 = .ok (.iload_n 3, 1) := by decide +kernel
theorem dL_law_375 : decode cL_law 375 = .ok (.iconst 1, 1) := by decide +kernel
theorem dL_law_376 : decode cL_law 376 = .ok (.iadd, 1) := by decide +kernel
theorem dL_law_377 : decode cL_law 377 = .ok (.iaload, 1) := by decide +kernel
theorem dL_law_378 : decode cL_law 378 = .ok (.aload_n 0, 1) := by decide +kernel
theorem dL_law_379 : decode cL_law 379 = .ok (.iload_n 3, 1) := by decide +kernel
theorem dL_law_380 : decode cL_law 380 = .ok (.iconst 2, 1) := by decide +kernel
theorem dL_law_381 : decode cL_law 381 = .ok (.iadd, 1) := by decide +kernel
theorem dL_law_382 : decode cL_law 382 = .ok (.iaload, 1) := by decide +kernel
theorem dL_law_383 : decode cL_law 383 = .ok (.invokevirtual 51, 3) := by decide +kernel
theorem dL_law_386 : decode cL_law 386 = .ok (.if_icmp .eq 575, 3) := by decide +kernel
theorem dL_law_389 : decode cL_law 389 = .ok (.iconst 0, 1) := by decide +kernel
theorem dL_law_390 : decode cL_law 390 = .ok (.ireturn, 1) := by decide +kernel
theorem dL_law_391 : decode cL_law 391 = .ok (.aload_n 1, 1) := by decide +kernel
theorem dL_law_392 : decode cL_law 392 = .ok (.aload_n 0, 1) := by decide +kernel
theorem dL_law_393 : decode cL_law 393 = .ok (.iload_n 3, 1) := by decide +kernel
theorem dL_law_394 : decode cL_law 394 = .ok (.iconst 1, 1) := by decide +kernel
theorem dL_law_395 : decode cL_law 395 = .ok (.iadd, 1) := by decide +kernel
theorem dL_law_396 : decode cL_law 396 = .ok (.iaload, 1) := by decide +kernel
theorem dL_law_397 : decode cL_law 397 = .ok (.aload_n 0, 1) := by decide +kernel
theorem dL_law_398 : decode cL_law 398 = .ok (.iload_n 3, 1) := by decide +kernel
theorem dL_law_399 : decode cL_law 399 = .ok (.iconst 2, 1) := by decide +kernel
theorem dL_law_400 : decode cL_law 400 = .ok (.iadd, 1) := by decide +kernel
theorem dL_law_401 : decode cL_law 401 = .ok (.iaload, 1) := by decide +kernel
theorem dL_law_402 : decode cL_law 402 = .ok (.invokevirtual 52, 3) := by decide +kernel
theorem dL_law_405 : decode cL_law 405 = .ok (.aload_n 2, 1) := by decide +kernel
theorem dL_law_406 : decode cL_law 406 = .ok (.aload_n 0, 1) := by decide +kernel
theorem dL_law_407 : decode cL_law 407 = .ok (.iload_n 3, 1) := by decide +kernel
theorem dL_law_408 : decode cL_law 408 = .ok (.iconst 1, 1) := by decide +kernel
theorem dL_law_409 : decode cL_law 409 = .ok (.iadd, 1) := by decide +kernel
theorem dL_law_410 : decode cL_law 410 = .ok (.iaload, 1) := by decide +kernel
theorem dL_law_411 : decode cL_law 411 = .ok (.aload_n 0, 1) := by decide +kernel
theorem dL_law_412 : decode cL_law 412 = .ok (.iload_n 3, 1) := by decide +kernel
theorem dL_law_413 : decode cL_law 413 = .ok (.iconst 2, 1) := by decide +kernel
theorem dL_law_414 : decode cL_law 414 = .ok (.iadd, 1) := by decide +kernel
theorem dL_law_415 : decode cL_law 415 = .ok (.iaload, 1) := by decide +kernel
theorem dL_law_416 : decode cL_law 416 = .ok (.invokevirtual 55, 3) := by decide +kernel
theorem dL_law_419 : decode cL_law 419 = .ok (.if_icmp .eq 542, 3) := by decide +kernel
theorem dL_law_422 : decode cL_law 422 = .ok (.iconst 0, 1) := by decide +kernel
theorem dL_law_423 : decode cL_law 423 = .ok (.ireturn, 1) := by decide +kernel
theorem dL_law_424 : decode cL_law 424 = .ok (.aload_n 1, 1) := by decide +kernel
theorem dL_law_425 : decode cL_law 425 = .ok (.aload_n 0, 1) := by decide +kernel
theorem dL_law_426 : decode cL_law 426 = .ok (.iload_n 3, 1) := by decide +kernel
theorem dL_law_427 : decode cL_law 427 = .ok (.iconst 1, 1) := by decide +kernel
theorem dL_law_428 : decode cL_law 428 = .ok (.iadd, 1) := by decide +kernel
theorem dL_law_429 : decode cL_law 429 = .ok (.iaload, 1) := by decide +kernel
theorem dL_law_430 : decode cL_law 430 = .ok (.aload_n 0, 1) := by decide +kernel
theorem dL_law_431 : decode cL_law 431 = .ok (.iload_n 3, 1) := by decide +kernel
theorem dL_law_432 : decode cL_law 432 = .ok (.iconst 2, 1) := by decide +kernel
theorem dL_law_433 : decode cL_law 433 = .ok (.iadd, 1) := by decide +kernel
theorem dL_law_434 : decode cL_law 434 = .ok (.iaload, 1) := by decide +kernel
theorem dL_law_435 : decode cL_law 435 = .ok (.aload_n 0, 1) := by decide +kernel
theorem dL_law_436 : decode cL_law 436 = .ok (.iload_n 3, 1) := by decide +kernel
theorem dL_law_437 : decode cL_law 437 = .ok (.iconst 3, 1) := by decide +kernel
theorem dL_law_438 : decode cL_law 438 = .ok (.iadd, 1) := by decide +kernel
theorem dL_law_439 : decode cL_law 439 = .ok (.iaload, 1) := by decide +kernel
theorem dL_law_440 : decode cL_law 440 = .ok (.aload_n 0, 1) := by decide +kernel
theorem dL_law_441 : decode cL_law 441 = .ok (.iload_n 3, 1) := by decide +kernel
theorem dL_law_442 : decode cL_law 442 = .ok (.iconst 4, 1) := by decide +kernel
theorem dL_law_443 : decode cL_law 443 = .ok (.iadd, 1) := by decide +kernel
theorem dL_law_444 : decode cL_law 444 = .ok (.iaload, 1) := by decide +kernel
theorem dL_law_445 : decode cL_law 445 = .ok (.invokevirtual 56, 3) := by decide +kernel
theorem dL_law_448 : decode cL_law 448 = .ok (.aload_n 2, 1) := by decide +kernel
theorem dL_law_449 : decode cL_law 449 = .ok (.aload_n 0, 1) := by decide +kernel
theorem dL_law_450 : decode cL_law 450 = .ok (.iload_n 3, 1) := by decide +kernel
theorem dL_law_451 : decode cL_law 451 = .ok (.iconst 1, 1) := by decide +kernel
theorem dL_law_452 : decode cL_law 452 = .ok (.iadd, 1) := by decide +kernel
theorem dL_law_453 : decode cL_law 453 = .ok (.iaload, 1) := by decide +kernel
theorem dL_law_454 : decode cL_law 454 = .ok (.aload_n 0, 1) := by decide +kernel
theorem dL_law_455 : decode cL_law 455 = .ok (.iload_n 3, 1) := by decide +kernel
theorem dL_law_456 : decode cL_law 456 = .ok (.iconst 2, 1) := by decide +kernel
theorem dL_law_457 : decode cL_law 457 = .ok (.iadd, 1) := by decide +kernel
theorem dL_law_458 : decode cL_law 458 = .ok (.iaload, 1) := by decide +kernel
theorem dL_law_459 : decode cL_law 459 = .ok (.aload_n 0, 1) := by decide +kernel
theorem dL_law_460 : decode cL_law 460 = .ok (.iload_n 3, 1) := by decide +kernel
theorem dL_law_461 : decode cL_law 461 = .ok (.iconst 3, 1) := by decide +kernel
theorem dL_law_462 : decode cL_law 462 = .ok (.iadd, 1) := by decide +kernel
theorem dL_law_463 : decode cL_law 463 = .ok (.iaload, 1) := by decide +kernel
theorem dL_law_464 : decode cL_law 464 = .ok (.aload_n 0, 1) := by decide +kernel
theorem dL_law_465 : decode cL_law 465 = .ok (.iload_n 3, 1) := by decide +kernel
theorem dL_law_466 : decode cL_law 466 = .ok (.iconst 4, 1) := by decide +kernel
theorem dL_law_467 : decode cL_law 467 = .ok (.iadd, 1) := by decide +kernel
theorem dL_law_468 : decode cL_law 468 = .ok (.iaload, 1) := by decide +kernel
theorem dL_law_469 : decode cL_law 469 = .ok (.invokevirtual 60, 3) := by decide +kernel
theorem dL_law_472 : decode cL_law 472 = .ok (.if_icmp .eq 489, 3) := by decide +kernel
theorem dL_law_475 : decode cL_law 475 = .ok (.iconst 0, 1) := by decide +kernel
theorem dL_law_476 : decode cL_law 476 = .ok (.ireturn, 1) := by decide +kernel
theorem dL_law_477 : decode cL_law 477 = .ok (.aload_n 1, 1) := by decide +kernel
theorem dL_law_478 : decode cL_law 478 = .ok (.aload_n 0, 1) := by decide +kernel
theorem dL_law_479 : decode cL_law 479 = .ok (.iload_n 3, 1) := by decide +kernel
theorem dL_law_480 : decode cL_law 480 = .ok (.iconst 1, 1) := by decide +kernel
theorem dL_law_481 : decode cL_law 481 = .ok (.iadd, 1) := by decide +kernel
theorem dL_law_482 : decode cL_law 482 = .ok (.iaload, 1) := by decide +kernel
theorem dL_law_483 : decode cL_law 483 = .ok (.aload_n 0, 1) := by decide +kernel
theorem dL_law_484 : decode cL_law 484 = .ok (.iload_n 3, 1) := by decide +kernel
theorem dL_law_485 : decode cL_law 485 = .ok (.iconst 2, 1) := by decide +kernel
theorem dL_law_486 : decode cL_law 486 = .ok (.iadd, 1) := by decide +kernel
theorem dL_law_487 : decode cL_law 487 = .ok (.iaload, 1) := by decide +kernel
theorem dL_law_488 : decode cL_law 488 = .ok (.invokevirtual 61, 3) := by decide +kernel
theorem dL_law_491 : decode cL_law 491 = .ok (.aload_n 2, 1) := by decide +kernel
theorem dL_law_492 : decode cL_law 492 = .ok (.aload_n 0, 1) := by decide +kernel
theorem dL_law_493 : decode cL_law 493 = .ok (.iload_n 3, 1) := by decide +kernel
theorem dL_law_494 : decode cL_law 494 = .ok (.iconst 1, 1) := by decide +kernel
theorem dL_law_495 : decode cL_law 495 = .ok (.iadd, 1) := by decide +kernel
theorem dL_law_496 : decode cL_law 496 = .ok (.iaload, 1) := by decide +kernel
theorem dL_law_497 : decode cL_law 497 = .ok (.aload_n 0, 1) := by decide +kernel
theorem dL_law_498 : decode cL_law 498 = .ok (.iload_n 3, 1) := by decide +kernel
theorem dL_law_499 : decode cL_law 499 = .ok (.iconst 2, 1) := by decide +kernel
theorem dL_law_500 : decode cL_law 500 = .ok (.iadd, 1) := by decide +kernel
theorem dL_law_501 : decode cL_law 501 = .ok (.iaload, 1) := by decide +kernel
theorem dL_law_502 : decode cL_law 502 = .ok (.invokevirtual 64, 3) := by decide +kernel
theorem dL_law_505 : decode cL_law 505 = .ok (.if_icmp .eq 456, 3) := by decide +kernel
theorem dL_law_508 : decode cL_law 508 = .ok (.iconst 0, 1) := by decide +kernel
theorem dL_law_509 : decode cL_law 509 = .ok (.ireturn, 1) := by decide +kernel
theorem dL_law_510 : decode cL_law 510 = .ok (.aload_n 1, 1) := by decide +kernel
theorem dL_law_511 : decode cL_law 511 = .ok (.aload_n 0, 1) := by decide +kernel
theorem dL_law_512 : decode cL_law 512 = .ok (.iload_n 3, 1) := by decide +kernel
theorem dL_law_513 : decode cL_law 513 = .ok (.iconst 1, 1) := by decide +kernel
theorem dL_law_514 : decode cL_law 514 = .ok (.iadd, 1) := by decide +kernel
theorem dL_law_515 : decode cL_law 515 = .ok (.iaload, 1) := by decide +kernel
theorem dL_law_516 : decode cL_law 516 = .ok (.aload_n 0, 1) := by decide +kernel
theorem dL_law_517 : decode cL_law 517 = .ok (.iload_n 3, 1) := by decide +kernel
theorem dL_law_518 : decode cL_law 518 = .ok (.iconst 2, 1) := by decide +kernel
theorem dL_law_519 : decode cL_law 519 = .ok (.iadd, 1) := by decide +kernel
theorem dL_law_520 : decode cL_law 520 = .ok (.iaload, 1) := by decide +kernel
theorem dL_law_521 : decode cL_law 521 = .ok (.invokevirtual 65, 3) := by decide +kernel
theorem dL_law_524 : decode cL_law 524 = .ok (.aload_n 2, 1) := by decide +kernel
theorem dL_law_525 : decode cL_law 525 = .ok (.aload_n 0, 1) := by decide +kernel
theorem dL_law_526 : decode cL_law 526 = .ok (.iload_n 3, 1) := by decide +kernel
theorem dL_law_527 : decode cL_law 527 = .ok (.iconst 1, 1) := by decide +kernel
theorem dL_law_528 : decode cL_law 528 = .ok (.iadd, 1) := by decide +kernel
theorem dL_law_529 : decode cL_law 529 = .ok (.iaload, 1) := by decide +kernel
theorem dL_law_530 : decode cL_law 530 = .ok (.aload_n 0, 1) := by decide +kernel
theorem dL_law_531 : decode cL_law 531 = .ok (.iload_n 3, 1) := by decide +kernel
theorem dL_law_532 : decode cL_law 532 = .ok (.iconst 2, 1) := by decide +kernel
theorem dL_law_533 : decode cL_law 533 = .ok (.iadd, 1) := by decide +kernel
theorem dL_law_534 : decode cL_law 534 = .ok (.iaload, 1) := by decide +kernel
theorem dL_law_535 : decode cL_law 535 = .ok (.invokevirtual 68, 3) := by decide +kernel
theorem dL_law_538 : decode cL_law 538 = .ok (.if_icmp .eq 423, 3) := by decide +kernel
theorem dL_law_541 : decode cL_law 541 = .ok (.iconst 0, 1) := by decide +kernel
theorem dL_law_542 : decode cL_law 542 = .ok (.ireturn, 1) := by decide +kernel
theorem dL_law_543 : decode cL_law 543 = .ok (.aload_n 1, 1) := by decide +kernel
theorem dL_law_544 : decode cL_law 544 = .ok (.invokevirtual 69, 3) := by decide +kernel
theorem dL_law_547 : decode cL_law 547 = .ok (.aload_n 2, 1) := by decide +kernel
theorem dL_law_548 : decode cL_law 548 = .ok (.invokevirtual 72, 3) := by decide +kernel
theorem dL_law_551 : decode cL_law 551 = .ok (.if_icmp .eq 410, 3) := by decide +kernel
theorem dL_law_554 : decode cL_law 554 = .ok (.iconst 0, 1) := by decide +kernel
theorem dL_law_555 : decode cL_law 555 = .ok (.ireturn, 1) := by decide +kernel
theorem dL_law_556 : decode cL_law 556 = .ok (.aload_n 1, 1) := by decide +kernel
theorem dL_law_557 : decode cL_law 557 = .ok (.aload_n 0, 1) := by decide +kernel
theorem dL_law_558 : decode cL_law 558 = .ok (.iload_n 3, 1) := by decide +kernel
theorem dL_law_559 : decode cL_law 559 = .ok (.iconst 1, 1) := by decide +kernel
theorem dL_law_560 : decode cL_law 560 = .ok (.iadd, 1) := by decide +kernel
theorem dL_law_561 : decode cL_law 561 = .ok (.iaload, 1) := by decide +kernel
theorem dL_law_562 : decode cL_law 562 = .ok (.invokevirtual 73, 3) := by decide +kernel
theorem dL_law_565 : decode cL_law 565 = .ok (.aload_n 2, 1) := by decide +kernel
theorem dL_law_566 : decode cL_law 566 = .ok (.aload_n 0, 1) := by decide +kernel
theorem dL_law_567 : decode cL_law 567 = .ok (.iload_n 3, 1) := by decide +kernel
theorem dL_law_568 : decode cL_law 568 = .ok (.iconst 1, 1) := by decide +kernel
theorem dL_law_569 : decode cL_law 569 = .ok (.iadd, 1) := by decide +kernel
theorem dL_law_570 : decode cL_law 570 = .ok (.iaload, 1) := by decide +kernel
theorem dL_law_571 : decode cL_law 571 = .ok (.invokevirtual 76, 3) := by decide +kernel
theorem dL_law_574 : decode cL_law 574 = .ok (.if_icmp .eq 387, 3) := by decide +kernel
theorem dL_law_577 : decode cL_law 577 = .ok (.iconst 0, 1) := by decide +kernel
theorem dL_law_578 : decode cL_law 578 = .ok (.ireturn, 1) := by decide +kernel
theorem dL_law_579 : decode cL_law 579 = .ok (.aload_n 1, 1) := by decide +kernel
theorem dL_law_580 : decode cL_law 580 = .ok (.aload_n 0, 1) := by decide +kernel
theorem dL_law_581 : decode cL_law 581 = .ok (.iload_n 3, 1) := by decide +kernel
theorem dL_law_582 : decode cL_law 582 = .ok (.iconst 1, 1) := by decide +kernel
theorem dL_law_583 : decode cL_law 583 = .ok (.iadd, 1) := by decide +kernel
theorem dL_law_584 : decode cL_law 584 = .ok (.iaload, 1) := by decide +kernel
theorem dL_law_585 : decode cL_law 585 = .ok (.invokevirtual 77, 3) := by decide +kernel
theorem dL_law_588 : decode cL_law 588 = .ok (.aload_n 2, 1) := by decide +kernel
theorem dL_law_589 : decode cL_law 589 = .ok (.aload_n 0, 1) := by decide +kernel
theorem dL_law_590 : decode cL_law 590 = .ok (.iload_n 3, 1) := by decide +kernel
theorem dL_law_591 : decode cL_law 591 = .ok (.iconst 1, 1) := by decide +kernel
theorem dL_law_592 : decode cL_law 592 = .ok (.iadd, 1) := by decide +kernel
theorem dL_law_593 : decode cL_law 593 = .ok (.iaload, 1) := by decide +kernel
theorem dL_law_594 : decode cL_law 594 = .ok (.invokevirtual 80, 3) := by decide +kernel
theorem dL_law_597 : decode cL_law 597 = .ok (.if_icmp .eq 364, 3) := by decide +kernel
theorem dL_law_600 : decode cL_law 600 = .ok (.iconst 0, 1) := by decide +kernel
theorem dL_law_601 : decode cL_law 601 = .ok (.ireturn, 1) := by decide +kernel
theorem dL_law_602 : decode cL_law 602 = .ok (.aload_n 1, 1) := by decide +kernel
theorem dL_law_603 : decode cL_law 603 = .ok (.aload_n 0, 1) := by decide +kernel
theorem dL_law_604 : decode cL_law 604 = .ok (.iload_n 3, 1) := by decide +kernel
theorem dL_law_605 : decode cL_law 605 = .ok (.iconst 1, 1) := by decide +kernel
theorem dL_law_606 : decode cL_law 606 = .ok (.iadd, 1) := by decide +kernel
theorem dL_law_607 : decode cL_law 607 = .ok (.iaload, 1) := by decide +kernel
theorem dL_law_608 : decode cL_law 608 = .ok (.aload_n 0, 1) := by decide +kernel
theorem dL_law_609 : decode cL_law 609 = .ok (.iload_n 3, 1) := by decide +kernel
theorem dL_law_610 : decode cL_law 610 = .ok (.iconst 2, 1) := by decide +kernel
theorem dL_law_611 : decode cL_law 611 = .ok (.iadd, 1) := by decide +kernel
theorem dL_law_612 : decode cL_law 612 = .ok (.iaload, 1) := by decide +kernel
theorem dL_law_613 : decode cL_law 613 = .ok (.invokevirtual 81, 3) := by decide +kernel
theorem dL_law_616 : decode cL_law 616 = .ok (.aload_n 2, 1) := by decide +kernel
theorem dL_law_617 : decode cL_law 617 = .ok (.aload_n 0, 1) := by decide +kernel
theorem dL_law_618 : decode cL_law 618 = .ok (.iload_n 3, 1) := by decide +kernel
theorem dL_law_619 : decode cL_law 619 = .ok (.iconst 1, 1) := by decide +kernel
theorem dL_law_620 : decode cL_law 620 = .ok (.iadd, 1) := by decide +kernel
theorem dL_law_621 : decode cL_law 621 = .ok (.iaload, 1) := by decide +kernel
theorem dL_law_622 : decode cL_law 622 = .ok (.aload_n 0, 1) := by decide +kernel
theorem dL_law_623 : decode cL_law 623 = .ok (.iload_n 3, 1) := by decide +kernel
theorem dL_law_624 : decode cL_law 624 = .ok (.iconst 2, 1) := by decide +kernel
theorem dL_law_625 : decode cL_law 625 = .ok (.iadd, 1) := by decide +kernel
theorem dL_law_626 : decode cL_law 626 = .ok (.iaload, 1) := by decide +kernel
theorem dL_law_627 : decode cL_law 627 = .ok (.invokevirtual 84, 3) := by decide +kernel
theorem dL_law_630 : decode cL_law 630 = .ok (.if_icmp .eq 331, 3) := by decide +kernel
theorem dL_law_633 : decode cL_law 633 = .ok (.iconst 0, 1) := by decide +kernel
theorem dL_law_634 : decode cL_law 634 = .ok (.ireturn, 1) := by decide +kernel
theorem dL_law_635 : decode cL_law 635 = .ok (.aload_n 1, 1) := by decide +kernel
theorem dL_law_636 : decode cL_law 636 = .ok (.aload_n 0, 1) := by decide +kernel
theorem dL_law_637 : decode cL_law 637 = .ok (.iload_n 3, 1) := by decide +kernel
theorem dL_law_638 : decode cL_law 638 = .ok (.iconst 1, 1) := by decide +kernel
theorem dL_law_639 : decode cL_law 639 = .ok (.iadd, 1) := by decide +kernel
theorem dL_law_640 : decode cL_law 640 = .ok (.iaload, 1) := by decide +kernel
theorem dL_law_641 : decode cL_law 641 = .ok (.invokevirtual 85, 3) := by decide +kernel
theorem dL_law_644 : decode cL_law 644 = .ok (.aload_n 2, 1) := by decide +kernel
theorem dL_law_645 : decode cL_law 645 = .ok (.aload_n 0, 1) := by decide +kernel
theorem dL_law_646 : decode cL_law 646 = .ok (.iload_n 3, 1) := by decide +kernel
theorem dL_law_647 : decode cL_law 647 = .ok (.iconst 1, 1) := by decide +kernel
theorem dL_law_648 : decode cL_law 648 = .ok (.iadd, 1) := by decide +kernel
theorem dL_law_649 : decode cL_law 649 = .ok (.iaload, 1) := by decide +kernel
theorem dL_law_650 : decode cL_law 650 = .ok (.invokevirtual 88, 3) := by decide +kernel
theorem dL_law_653 : decode cL_law 653 = .ok (.if_icmp .eq 308, 3) := by decide +kernel
theorem dL_law_656 : decode cL_law 656 = .ok (.iconst 0, 1) := by decide +kernel
theorem dL_law_657 : decode cL_law 657 = .ok (.ireturn, 1) := by decide +kernel
theorem dL_law_658 : decode cL_law 658 = .ok (.aload_n 1, 1) := by decide +kernel
theorem dL_law_659 : decode cL_law 659 = .ok (.aload_n 0, 1) := by decide +kernel
theorem dL_law_660 : decode cL_law 660 = .ok (.iload_n 3, 1) := by decide +kernel
theorem dL_law_661 : decode cL_law 661 = .ok (.iconst 1, 1) := by decide +kernel
theorem dL_law_662 : decode cL_law 662 = .ok (.iadd, 1) := by decide +kernel
theorem dL_law_663 : decode cL_law 663 = .ok (.iaload, 1) := by decide +kernel
theorem dL_law_664 : decode cL_law 664 = .ok (.aload_n 0, 1) := by decide +kernel
theorem dL_law_665 : decode cL_law 665 = .ok (.iload_n 3, 1) := by decide +kernel
theorem dL_law_666 : decode cL_law 666 = .ok (.iconst 2, 1) := by decide +kernel
theorem dL_law_667 : decode cL_law 667 = .ok (.iadd, 1) := by decide +kernel
theorem dL_law_668 : decode cL_law 668 = .ok (.iaload, 1) := by decide +kernel
theorem dL_law_669 : decode cL_law 669 = .ok (.aload_n 0, 1) := by decide +kernel
theorem dL_law_670 : decode cL_law 670 = .ok (.iload_n 3, 1) := by decide +kernel
theorem dL_law_671 : decode cL_law 671 = .ok (.iconst 3, 1) := by decide +kernel
theorem dL_law_672 : decode cL_law 672 = .ok (.iadd, 1) := by decide +kernel
theorem dL_law_673 : decode cL_law 673 = .ok (.iaload, 1) := by decide +kernel
theorem dL_law_674 : decode cL_law 674 = .ok (.invokevirtual 89, 3) := by decide +kernel
theorem dL_law_677 : decode cL_law 677 = .ok (.aload_n 2, 1) := by decide +kernel
theorem dL_law_678 : decode cL_law 678 = .ok (.aload_n 0, 1) := by decide +kernel
theorem dL_law_679 : decode cL_law 679 = .ok (.iload_n 3, 1) := by decide +kernel
theorem dL_law_680 : decode cL_law 680 = .ok (.iconst 1, 1) := by decide +kernel
theorem dL_law_681 : decode cL_law 681 = .ok (.iadd, 1) := by decide +kernel
theorem dL_law_682 : decode cL_law 682 = .ok (.iaload, 1) := by decide +kernel
theorem dL_law_683 : decode cL_law 683 = .ok (.aload_n 0, 1) := by decide +kernel
theorem dL_law_684 : decode cL_law 684 = .ok (.iload_n 3, 1) := by decide +kernel
theorem dL_law_685 : decode cL_law 685 = .ok (.iconst 2, 1) := by decide +kernel
theorem dL_law_686 : decode cL_law 686 = .ok (.iadd, 1) := by decide +kernel
theorem dL_law_687 : decode cL_law 687 = .ok (.iaload, 1) := by decide +kernel
theorem dL_law_688 : decode cL_law 688 = .ok (.aload_n 0, 1) := by decide +kernel
theorem dL_law_689 : decode cL_law 689 = .ok (.iload_n 3, 1) := by decide +kernel
theorem dL_law_690 : decode cL_law 690 = .ok (.iconst 3, 1) := by decide +kernel
theorem dL_law_691 : decode cL_law 691 = .ok (.iadd, 1) := by decide +kernel
theorem dL_law_692 : decode cL_law 692 = .ok (.iaload, 1) := by decide +kernel
theorem dL_law_693 : decode cL_law 693 = .ok (.invokevirtual 93, 3) := by decide +kernel
theorem dL_law_696 : decode cL_law 696 = .ok (.if_icmp .eq 265, 3) := by decide +kernel
theorem dL_law_699 : decode cL_law 699 = .ok (.iconst 0, 1) := by decide +kernel
theorem dL_law_700 : decode cL_law 700 = .ok (.ireturn, 1) := by decide +kernel
theorem dL_law_701 : decode cL_law 701 = .ok (.aload_n 1, 1) := by decide +kernel
theorem dL_law_702 : decode cL_law 702 = .ok (.aload_n 0, 1) := by decide +kernel
theorem dL_law_703 : decode cL_law 703 = .ok (.iload_n 3, 1) := by decide +kernel
theorem dL_law_704 : decode cL_law 704 = .ok (.iconst 1, 1) := by decide +kernel
theorem dL_law_705 : decode cL_law 705 = .ok (.iadd, 1) := by decide +kernel
theorem dL_law_706 : decode cL_law 706 = .ok (.iaload, 1) := by decide +kernel
theorem dL_law_707 : decode cL_law 707 = .ok (.invokevirtual 94, 3) := by decide +kernel
theorem dL_law_710 : decode cL_law 710 = .ok (.aload_n 2, 1) := by decide +kernel
theorem dL_law_711 : decode cL_law 711 = .ok (.aload_n 0, 1) := by decide +kernel
theorem dL_law_712 : decode cL_law 712 = .ok (.iload_n 3, 1) := by decide +kernel
theorem dL_law_713 : decode cL_law 713 = .ok (.iconst 1, 1) := by decide +kernel
theorem dL_law_714 : decode cL_law 714 = .ok (.iadd, 1) := by decide +kernel
theorem dL_law_715 : decode cL_law 715 = .ok (.iaload, 1) := by decide +kernel
theorem dL_law_716 : decode cL_law 716 = .ok (.invokevirtual 97, 3) := by decide +kernel
theorem dL_law_719 : decode cL_law 719 = .ok (.if_icmp .eq 242, 3) := by decide +kernel
theorem dL_law_722 : decode cL_law 722 = .ok (.iconst 0, 1) := by decide +kernel
theorem dL_law_723 : decode cL_law 723 = .ok (.ireturn, 1) := by decide +kernel
theorem dL_law_724 : decode cL_law 724 = .ok (.aload_n 1, 1) := by decide +kernel
theorem dL_law_725 : decode cL_law 725 = .ok (.aload_n 0, 1) := by decide +kernel
theorem dL_law_726 : decode cL_law 726 = .ok (.iload_n 3, 1) := by decide +kernel
theorem dL_law_727 : decode cL_law 727 = .ok (.iconst 1, 1) := by decide +kernel
theorem dL_law_728 : decode cL_law 728 = .ok (.iadd, 1) := by decide +kernel
theorem dL_law_729 : decode cL_law 729 = .ok (.iaload, 1) := by decide +kernel
theorem dL_law_730 : decode cL_law 730 = .ok (.aload_n 0, 1) := by decide +kernel
theorem dL_law_731 : decode cL_law 731 = .ok (.iload_n 3, 1) := by decide +kernel
theorem dL_law_732 : decode cL_law 732 = .ok (.iconst 2, 1) := by decide +kernel
theorem dL_law_733 : decode cL_law 733 = .ok (.iadd, 1) := by decide +kernel
theorem dL_law_734 : decode cL_law 734 = .ok (.iaload, 1) := by decide +kernel
theorem dL_law_735 : decode cL_law 735 = .ok (.invokevirtual 98, 3) := by decide +kernel
theorem dL_law_738 : decode cL_law 738 = .ok (.aload_n 2, 1) := by decide +kernel
theorem dL_law_739 : decode cL_law 739 = .ok (.aload_n 0, 1) := by decide +kernel
theorem dL_law_740 : decode cL_law 740 = .ok (.iload_n 3, 1) := by decide +kernel
theorem dL_law_741 : decode cL_law 741 = .ok (.iconst 1, 1) := by decide +kernel
theorem dL_law_742 : decode cL_law 742 = .ok (.iadd, 1) := by decide +kernel
theorem dL_law_743 : decode cL_law 743 = .ok (.iaload, 1) := by decide +kernel
theorem dL_law_744 : decode cL_law 744 = .ok (.aload_n 0, 1) := by decide +kernel
theorem dL_law_745 : decode cL_law 745 = .ok (.iload_n 3, 1) := by decide +kernel
theorem dL_law_746 : decode cL_law 746 = .ok (.iconst 2, 1) := by decide +kernel
theorem dL_law_747 : decode cL_law 747 = .ok (.iadd, 1) := by decide +kernel
theorem dL_law_748 : decode cL_law 748 = .ok (.iaload, 1) := by decide +kernel
theorem dL_law_749 : decode cL_law 749 = .ok (.invokevirtual 101, 3) := by decide +kernel
theorem dL_law_752 : decode cL_law 752 = .ok (.if_icmp .eq 209, 3) := by decide +kernel
theorem dL_law_755 : decode cL_law 755 = .ok (.iconst 0, 1) := by decide +kernel
theorem dL_law_756 : decode cL_law 756 = .ok (.ireturn, 1) := by decide +kernel
theorem dL_law_757 : decode cL_law 757 = .ok (.aload_n 1, 1) := by decide +kernel
theorem dL_law_758 : decode cL_law 758 = .ok (.aload_n 0, 1) := by decide +kernel
theorem dL_law_759 : decode cL_law 759 = .ok (.iload_n 3, 1) := by decide +kernel
theorem dL_law_760 : decode cL_law 760 = .ok (.iconst 1, 1) := by decide +kernel
theorem dL_law_761 : decode cL_law 761 = .ok (.iadd, 1) := by decide +kernel
theorem dL_law_762 : decode cL_law 762 = .ok (.iaload, 1) := by decide +kernel
theorem dL_law_763 : decode cL_law 763 = .ok (.invokevirtual 102, 3) := by decide +kernel
theorem dL_law_766 : decode cL_law 766 = .ok (.aload_n 2, 1) := by decide +kernel
theorem dL_law_767 : decode cL_law 767 = .ok (.aload_n 0, 1) := by decide +kernel
theorem dL_law_768 : decode cL_law 768 = .ok (.iload_n 3, 1) := by decide +kernel
theorem dL_law_769 : decode cL_law 769 = .ok (.iconst 1, 1) := by decide +kernel
theorem dL_law_770 : decode cL_law 770 = .ok (.iadd, 1) := by decide +kernel
theorem dL_law_771 : decode cL_law 771 = .ok (.iaload, 1) := by decide +kernel
theorem dL_law_772 : decode cL_law 772 = .ok (.invokevirtual 105, 3) := by decide +kernel
theorem dL_law_775 : decode cL_law 775 = .ok (.if_icmp .eq 186, 3) := by decide +kernel
theorem dL_law_778 : decode cL_law 778 = .ok (.iconst 0, 1) := by decide +kernel
theorem dL_law_779 : decode cL_law 779 = .ok (.ireturn, 1) := by decide +kernel
theorem dL_law_780 : decode cL_law 780 = .ok (.aload_n 1, 1) := by decide +kernel
theorem dL_law_781 : decode cL_law 781 = .ok (.aload_n 0, 1) := by decide +kernel
theorem dL_law_782 : decode cL_law 782 = .ok (.iload_n 3, 1) := by decide +kernel
theorem dL_law_783 : decode cL_law 783 = .ok (.iconst 1, 1) := by decide +kernel
theorem dL_law_784 : decode cL_law 784 = .ok (.iadd, 1) := by decide +kernel
theorem dL_law_785 : decode cL_law 785 = .ok (.iaload, 1) := by decide +kernel
theorem dL_law_786 : decode cL_law 786 = .ok (.aload_n 0, 1) := by decide +kernel
theorem dL_law_787 : decode cL_law 787 = .ok (.iload_n 3, 1) := by decide +kernel
theorem dL_law_788 : decode cL_law 788 = .ok (.iconst 2, 1) := by decide +kernel
theorem dL_law_789 : decode cL_law 789 = .ok (.iadd, 1) := by decide +kernel
theorem dL_law_790 : decode cL_law 790 = .ok (.iaload, 1) := by decide +kernel
theorem dL_law_791 : decode cL_law 791 = .ok (.invokevirtual 106, 3) := by decide +kernel
theorem dL_law_794 : decode cL_law 794 = .ok (.aload_n 2, 1) := by decide +kernel
theorem dL_law_795 : decode cL_law 795 = .ok (.aload_n 0, 1) := by decide +kernel
theorem dL_law_796 : decode cL_law 796 = .ok (.iload_n 3, 1) := by decide +kernel
theorem dL_law_797 : decode cL_law 797 = .ok (.iconst 1, 1) := by decide +kernel
theorem dL_law_798 : decode cL_law 798 = .ok (.iadd, 1) := by decide +kernel
theorem dL_law_799 : decode cL_law 799 = .ok (.iaload, 1) := by decide +kernel
theorem dL_law_800 : decode cL_law 800 = .ok (.aload_n 0, 1) := by decide +kernel
theorem dL_law_801 : decode cL_law 801 = .ok (.iload_n 3, 1) := by decide +kernel
theorem dL_law_802 : decode cL_law 802 = .ok (.iconst 2, 1) := by decide +kernel
theorem dL_law_803 : decode cL_law 803 = .ok (.iadd, 1) := by decide +kernel
theorem dL_law_804 : decode cL_law 804 = .ok (.iaload, 1) := by decide +kernel
theorem dL_law_805 : decode cL_law 805 = .ok (.invokevirtual 109, 3) := by decide +kernel
theorem dL_law_808 : decode cL_law 808 = .ok (.if_icmp .eq 153, 3) := by decide +kernel
theorem dL_law_811 : decode cL_law 811 = .ok (.iconst 0, 1) := by decide +kernel
theorem dL_law_812 : decode cL_law 812 = .ok (.ireturn, 1) := by decide +kernel
theorem dL_law_813 : decode cL_law 813 = .ok (.aload_n 1, 1) := by decide +kernel
theorem dL_law_814 : decode cL_law 814 = .ok (.aload_n 0, 1) := by decide +kernel
theorem dL_law_815 : decode cL_law 815 = .ok (.iload_n 3, 1) := by decide +kernel
theorem dL_law_816 : decode cL_law 816 = .ok (.iconst 1, 1) := by decide +kernel
theorem dL_law_817 : decode cL_law 817 = .ok (.iadd, 1) := by decide +kernel
theorem dL_law_818 : decode cL_law 818 = .ok (.iaload, 1) := by decide +kernel
theorem dL_law_819 : decode cL_law 819 = .ok (.aload_n 0, 1) := by decide +kernel
theorem dL_law_820 : decode cL_law 820 = .ok (.iload_n 3, 1) := by decide +kernel
theorem dL_law_821 : decode cL_law 821 = .ok (.iconst 2, 1) := by decide +kernel
theorem dL_law_822 : decode cL_law 822 = .ok (.iadd, 1) := by decide +kernel
theorem dL_law_823 : decode cL_law 823 = .ok (.iaload, 1) := by decide +kernel
theorem dL_law_824 : decode cL_law 824 = .ok (.invokevirtual 110, 3) := by decide +kernel
theorem dL_law_827 : decode cL_law 827 = .ok (.aload_n 2, 1) := by decide +kernel
theorem dL_law_828 : decode cL_law 828 = .ok (.aload_n 0, 1) := by decide +kernel
theorem dL_law_829 : decode cL_law 829 = .ok (.iload_n 3, 1) := by decide +kernel
theorem dL_law_830 : decode cL_law 830 = .ok (.iconst 1, 1) := by decide +kernel
theorem dL_law_831 : decode cL_law 831 = .ok (.iadd, 1) := by decide +kernel
theorem dL_law_832 : decode cL_law 832 = .ok (.iaload, 1) := by decide +kernel
theorem dL_law_833 : decode cL_law 833 = .ok (.aload_n 0, 1) := by decide +kernel
theorem dL_law_834 : decode cL_law 834 = .ok (.iload_n 3, 1) := by decide +kernel
theorem dL_law_835 : decode cL_law 835 = .ok (.iconst 2, 1) := by decide +kernel
theorem dL_law_836 : decode cL_law 836 = .ok (.iadd, 1) := by decide +kernel
theorem dL_law_837 : decode cL_law 837 = .ok (.iaload, 1) := by decide +kernel
end
section
theorem dL_law_838 : decode cL_law 838 = .ok (.invokevirtual 113, 3) := by decide +kernel
theorem dL_law_841 : decode cL_law 841 = .ok (.if_icmp .eq 120, 3) := by decide +kernel
theorem dL_law_844 : decode cL_law 844 = .ok (.iconst 0, 1) := by decide +kernel
theorem dL_law_845 : decode cL_law 845 = .ok (.ireturn, 1) := by decide +kernel
theorem dL_law_846 : decode cL_law 846 = .ok (.aload_n 1, 1) := by decide +kernel
theorem dL_law_847 : decode cL_law 847 = .ok (.aload_n 0, 1) := by decide +kernel
theorem dL_law_848 : decode cL_law 848 = .ok (.iload_n 3, 1) := by decide +kernel
theorem dL_law_849 : decode cL_law 849 = .ok (.iconst 1, 1) := by decide +kernel
theorem dL_law_850 : decode cL_law 850 = .ok (.iadd, 1) := by decide +kernel
theorem dL_law_851 : decode cL_law 851 = .ok (.iaload, 1) := by decide +kernel
theorem dL_law_852 : decode cL_law 852 = .ok (.aload_n 0, 1) := by decide +kernel
theorem dL_law_853 : decode cL_law 853 = .ok (.iload_n 3, 1) := by decide +kernel
theorem dL_law_854 : decode cL_law 854 = .ok (.iconst 2, 1) := by decide +kernel
theorem dL_law_855 : decode cL_law 855 = .ok (.iadd, 1) := by decide +kernel
theorem dL_law_856 : decode cL_law 856 = .ok (.iaload, 1) := by decide +kernel
theorem dL_law_857 : decode cL_law 857 = .ok (.invokevirtual 114, 3) := by decide +kernel
theorem dL_law_860 : decode cL_law 860 = .ok (.aload_n 2, 1) := by decide +kernel
theorem dL_law_861 : decode cL_law 861 = .ok (.aload_n 0, 1) := by decide +kernel
theorem dL_law_862 : decode cL_law 862 = .ok (.iload_n 3, 1) := by decide +kernel
theorem dL_law_863 : decode cL_law 863 = .ok (.iconst 1, 1) := by decide +kernel
theorem dL_law_864 : decode cL_law 864 = .ok (.iadd, 1) := by decide +kernel
theorem dL_law_865 : decode cL_law 865 = .ok (.iaload, 1) := by decide +kernel
theorem dL_law_866 : decode cL_law 866 = .ok (.aload_n 0, 1) := by decide +kernel
theorem dL_law_867 : decode cL_law 867 = .ok (.iload_n 3, 1) := by decide +kernel
theorem dL_law_868 : decode cL_law 868 = .ok (.iconst 2, 1) := by decide +kernel
theorem dL_law_869 : decode cL_law 869 = .ok (.iadd, 1) := by decide +kernel
theorem dL_law_870 : decode cL_law 870 = .ok (.iaload, 1) := by decide +kernel
theorem dL_law_871 : decode cL_law 871 = .ok (.invokevirtual 117, 3) := by decide +kernel
theorem dL_law_874 : decode cL_law 874 = .ok (.if_icmp .eq 87, 3) := by decide +kernel
theorem dL_law_877 : decode cL_law 877 = .ok (.iconst 0, 1) := by decide +kernel
theorem dL_law_878 : decode cL_law 878 = .ok (.ireturn, 1) := by decide +kernel
theorem dL_law_879 : decode cL_law 879 = .ok (.aload_n 1, 1) := by decide +kernel
theorem dL_law_880 : decode cL_law 880 = .ok (.aload_n 0, 1) := by decide +kernel
theorem dL_law_881 : decode cL_law 881 = .ok (.iload_n 3, 1) := by decide +kernel
theorem dL_law_882 : decode cL_law 882 = .ok (.iconst 1, 1) := by decide +kernel
theorem dL_law_883 : decode cL_law 883 = .ok (.iadd, 1) := by decide +kernel
theorem dL_law_884 : decode cL_law 884 = .ok (.iaload, 1) := by decide +kernel
theorem dL_law_885 : decode cL_law 885 = .ok (.aload_n 0, 1) := by decide +kernel
theorem dL_law_886 : decode cL_law 886 = .ok (.iload_n 3, 1) := by decide +kernel
theorem dL_law_887 : decode cL_law 887 = .ok (.iconst 2, 1) := by decide +kernel
theorem dL_law_888 : decode cL_law 888 = .ok (.iadd, 1) := by decide +kernel
theorem dL_law_889 : decode cL_law 889 = .ok (.iaload, 1) := by decide +kernel
theorem dL_law_890 : decode cL_law 890 = .ok (.invokevirtual 118, 3) := by decide +kernel
theorem dL_law_893 : decode cL_law 893 = .ok (.aload_n 2, 1) := by decide +kernel
theorem dL_law_894 : decode cL_law 894 = .ok (.aload_n 0, 1) := by decide +kernel
theorem dL_law_895 : decode cL_law 895 = .ok (.iload_n 3, 1) := by decide +kernel
theorem dL_law_896 : decode cL_law 896 = .ok (.iconst 1, 1) := by decide +kernel
theorem dL_law_897 : decode cL_law 897 = .ok (.iadd, 1) := by decide +kernel
theorem dL_law_898 : decode cL_law 898 = .ok (.iaload, 1) := by decide +kernel
theorem dL_law_899 : decode cL_law 899 = .ok (.aload_n 0, 1) := by decide +kernel
theorem dL_law_900 : decode cL_law 900 = .ok (.iload_n 3, 1) := by decide +kernel
theorem dL_law_901 : decode cL_law 901 = .ok (.iconst 2, 1) := by decide +kernel
theorem dL_law_902 : decode cL_law 902 = .ok (.iadd, 1) := by decide +kernel
theorem dL_law_903 : decode cL_law 903 = .ok (.iaload, 1) := by decide +kernel
theorem dL_law_904 : decode cL_law 904 = .ok (.invokevirtual 121, 3) := by decide +kernel
theorem dL_law_907 : decode cL_law 907 = .ok (.if_icmp .eq 54, 3) := by decide +kernel
theorem dL_law_910 : decode cL_law 910 = .ok (.iconst 0, 1) := by decide +kernel
theorem dL_law_911 : decode cL_law 911 = .ok (.ireturn, 1) := by decide +kernel
theorem dL_law_912 : decode cL_law 912 = .ok (.aload_n 1, 1) := by decide +kernel
theorem dL_law_913 : decode cL_law 913 = .ok (.invokevirtual 122, 3) := by decide +kernel
theorem dL_law_916 : decode cL_law 916 = .ok (.aload_n 2, 1) := by decide +kernel
theorem dL_law_917 : decode cL_law 917 = .ok (.invokevirtual 125, 3) := by decide +kernel
theorem dL_law_920 : decode cL_law 920 = .ok (.if_icmp .eq 41, 3) := by decide +kernel
theorem dL_law_923 : decode cL_law 923 = .ok (.iconst 0, 1) := by decide +kernel
theorem dL_law_924 : decode cL_law 924 = .ok (.ireturn, 1) := by decide +kernel
theorem dL_law_925 : decode cL_law 925 = .ok (.aload_n 1, 1) := by decide +kernel
theorem dL_law_926 : decode cL_law 926 = .ok (.invokevirtual 126, 3) := by decide +kernel
theorem dL_law_929 : decode cL_law 929 = .ok (.aload_n 2, 1) := by decide +kernel
theorem dL_law_930 : decode cL_law 930 = .ok (.invokevirtual 129, 3) := by decide +kernel
theorem dL_law_933 : decode cL_law 933 = .ok (.if_icmp .eq 28, 3) := by decide +kernel
theorem dL_law_936 : decode cL_law 936 = .ok (.iconst 0, 1) := by decide +kernel
theorem dL_law_937 : decode cL_law 937 = .ok (.ireturn, 1) := by decide +kernel
theorem dL_law_938 : decode cL_law 938 = .ok (.aload_n 1, 1) := by decide +kernel
theorem dL_law_939 : decode cL_law 939 = .ok (.aload_n 0, 1) := by decide +kernel
theorem dL_law_940 : decode cL_law 940 = .ok (.iload_n 3, 1) := by decide +kernel
theorem dL_law_941 : decode cL_law 941 = .ok (.iconst 1, 1) := by decide +kernel
theorem dL_law_942 : decode cL_law 942 = .ok (.iadd, 1) := by decide +kernel
theorem dL_law_943 : decode cL_law 943 = .ok (.iaload, 1) := by decide +kernel
theorem dL_law_944 : decode cL_law 944 = .ok (.invokevirtual 130, 3) := by decide +kernel
theorem dL_law_947 : decode cL_law 947 = .ok (.aload_n 2, 1) := by decide +kernel
theorem dL_law_948 : decode cL_law 948 = .ok (.aload_n 0, 1) := by decide +kernel
theorem dL_law_949 : decode cL_law 949 = .ok (.iload_n 3, 1) := by decide +kernel
theorem dL_law_950 : decode cL_law 950 = .ok (.iconst 1, 1) := by decide +kernel
theorem dL_law_951 : decode cL_law 951 = .ok (.iadd, 1) := by decide +kernel
theorem dL_law_952 : decode cL_law 952 = .ok (.iaload, 1) := by decide +kernel
theorem dL_law_953 : decode cL_law 953 = .ok (.invokevirtual 133, 3) := by decide +kernel
theorem dL_law_956 : decode cL_law 956 = .ok (.if_icmp .eq 5, 3) := by decide +kernel
theorem dL_law_959 : decode cL_law 959 = .ok (.iconst 0, 1) := by decide +kernel
theorem dL_law_960 : decode cL_law 960 = .ok (.ireturn, 1) := by decide +kernel
theorem dL_law_961 : decode cL_law 961 = .ok (.iinc 3 5, 3) := by decide +kernel
theorem dL_law_964 : decode cL_law 964 = .ok (.goto (-946), 3) := by decide +kernel
theorem dL_law_967 : decode cL_law 967 = .ok (.iconst 1, 1) := by decide +kernel
theorem dL_law_968 : decode cL_law 968 = .ok (.ireturn, 1) := by decide +kernel
end
section
/-! the words that all methods stand on; the abstract heap; worlds out of it -/
def TBL : List Cond := lw_tbl.filter goodWord
theorem tbl_in {w : Cond} (h : w ∈ lw_tbl) (hg : goodWord w = true) : w ∈ TBL := List.mem_filter.mpr ⟨h, hg⟩
theorem tbl_lw {w : Cond} (h : w ∈ TBL) : w ∈ lw_tbl := (List.mem_filter.mp h).1
theorem tbl_good {w : Cond} (h : w ∈ TBL) : (w.onTables && w.keeps) = true ∨ ∃ ty, w = .arrayClass ty := good_of_word (List.mem_filter.mp h).2
theorem tbl_goodIn {ws : List Cond} (h : ∀ w ∈ ws, w ∈ TBL) : GoodIn TBL ws := fun w hw => ⟨h w hw, tbl_good (h w hw)⟩
abbrev Hp : Type := Nat → Nat → Int32
abbrev Rs : Type := Int32 × Hp
abbrev Ly : Type := List (Nat × Nat × List Nat)
abbrev Wd : Type := va_G × (Nat → Nat) × Ly × (ClassId × ClassId) × Nat
def hset (h : Hp) (q i : Nat) (v : Int32) : Hp := fun p => if p = q then upd (h p) i v else h p
def hcpy (h : Hp) (a b : Nat) (sp dp n : Nat) : Hp := fun p => if p = b then va_cpy (h a) (h b) sp dp n else h p
def fv (w : Wd) (h : Hp) (q j k : Nat) : Value := if k = 0 then .int (h q j) else if k = 1 then .ref (w.2.1 (h q j).toNatClampNeg) else .ref (w.2.1 (k - 2))
def fvs (w : Wd) (h : Hp) (q : Nat) : Nat → List Nat → List Value
  | _, [] => []
  | j, k :: ks => fv w h q j k :: fvs w h q (j + 1) ks
theorem fvs_get (w : Wd) (h : Hp) (q : Nat) : ∀ (ks : List Nat) (j i : Nat), (fvs w h q j ks)[i]? = (ks[i]?).map (fun k => fv w h q (j + i) k)
  | [], j, i => by simp [fvs]
  | k :: ks, j, 0 => by simp [fvs]
  | k :: ks, j, i + 1 => by
    have := fvs_get w h q ks (j + 1) i
    simp only [fvs, List.getElem?_cons_succ, this]
    congr 1
    funext k
    rw [show j + 1 + i = j + (i + 1) by omega]
theorem fvs_len (w : Wd) (h : Hp) (q : Nat) : ∀ (ks : List Nat) (j : Nat), (fvs w h q j ks).length = ks.length
  | [], j => rfl
  | k :: ks, j => by simp [fvs, fvs_len w h q ks (j + 1)]
def pcell (w : Wd) (h : Hp) (q : Nat) (e : Nat × Nat × List Nat) : Nat × va_E := (w.2.1 q, if e.1 = 0 then .inr (e.2.1, fvs w h q 0 e.2.2) else .inl ((if e.1 = 1 then w.2.2.2.1.1 else w.2.2.2.1.2), e.2.1, .inl (h q)))
def clsA (w : Wd) (h : Hp) : Nat → Ly → va_W
  | _, [] => []
  | q, e :: es => pcell w h q e :: clsA w h (q + 1) es
def cls (w : Wd) (h : Hp) : va_W := clsA w h 0 w.2.2.1
theorem clsA_get (w : Wd) (h : Hp) : ∀ (es : Ly) (q i : Nat), (clsA w h q es)[i]? = (es[i]?).map (fun e => pcell w h (q + i) e)
  | [], q, i => by simp [clsA]
  | e :: es, q, 0 => by simp [clsA]
  | e :: es, q, i + 1 => by
    have := clsA_get w h es (q + 1) i
    simp only [clsA, List.getElem?_cons_succ, this]
    congr 1
    funext k
    rw [show q + 1 + i = q + (i + 1) by omega]
theorem cls_get (w : Wd) (h : Hp) (i : Nat) : (cls w h)[i]? = (w.2.2.1[i]?).map (fun e => pcell w h i e) := by
  have := clsA_get w h w.2.2.1 0 i
  simpa [cls] using this
theorem pcell_congr {w : Wd} {h h' : Hp} {q : Nat} (e : Nat × Nat × List Nat) (hh : h q = h' q) : pcell w h q e = pcell w h' q e := by
  have hf : ∀ (ks : List Nat) (j : Nat), fvs w h q j ks = fvs w h' q j ks := by
    intro ks
    induction ks with
    | nil => intro j; rfl
    | cons k ks ih => intro j; simp only [fvs, ih]; simp only [fv, hh]
  simp only [pcell, hf, hh]
theorem cls_set {w : Wd} {h h' : Hp} {q : Nat} {e : Nat × Nat × List Nat} (he : w.2.2.1[q]? = some e) (ho : ∀ p, p ≠ q → h' p = h p) : (cls w h).set q (pcell w h' q e) = cls w h' := by
  apply List.ext_getElem?
  intro i
  rw [List.getElem?_set, cls_get, cls_get]
  by_cases hi : q = i
  · subst hi
    have hlt : q < (cls w h).length := by
      have : (cls w h)[q]? ≠ none := by rw [cls_get, he]; simp
      exact (List.getElem?_eq_some_iff.mp (Option.ne_none_iff_exists'.mp this).choose_spec).1
    simp [hlt, he]
  · rw [if_neg hi]
    cases hq : w.2.2.1[i]? with
    | none => rfl
    | some e' => simp only [Option.map]; rw [pcell_congr e' (ho i (fun z => hi z.symm))]
theorem hset_o {h : Hp} {q i : Nat} {v : Int32} {p : Nat} (hp : p ≠ q) : hset h q i v p = h p := by simp [hset, hp]
theorem hset_s {h : Hp} {q i : Nat} {v : Int32} : hset h q i v q = upd (h q) i v := by simp [hset]
theorem hcpy_o {h : Hp} {a b s d n p : Nat} (hp : p ≠ b) : hcpy h a b s d n p = h p := by simp [hcpy, hp]
theorem cls_D {w : Wd} {A : Nat → Prop} {h h' : Hp} (hD : va_D A (cls w h)) : va_D A (cls w h') := by
  have key : ∀ (i : Nat) (p : Nat × va_E), (cls w h')[i]? = some p → ∃ p', (cls w h)[i]? = some p' ∧ p'.1 = p.1 := by
    intro i p hp
    rw [cls_get] at hp
    cases he : w.2.2.1[i]? with
    | none => rw [he] at hp; cases hp
    | some e => rw [he] at hp; cases hp; exact ⟨pcell w h i e, by rw [cls_get, he]; rfl, rfl⟩
  constructor
  · intro i j p q hp hq hpq
    obtain ⟨p', a1, a2⟩ := key i p hp
    obtain ⟨q', b1, b2⟩ := key j q hq
    exact hD.1 i j p' q' a1 b1 (by rw [a2, b2, hpq])
  · intro k q hq
    obtain ⟨p', a1, a2⟩ := key k q hq
    rw [← a2]; exact hD.2 k p' a1
theorem cls_o {w : Wd} {h : Hp} {q ci : Nat} {ks : List Nat} (he : w.2.2.1[q]? = some (0, ci, ks)) : (cls w h)[q]? = some (w.2.1 q, .inr (ci, fvs w h q 0 ks)) := by
  rw [cls_get, he]; rfl
theorem cls_i {w : Wd} {h : Hp} {q n : Nat} (he : w.2.2.1[q]? = some (1, n, [])) : (cls w h)[q]? = some (w.2.1 q, .inl (w.2.2.2.1.1, n, .inl (h q))) := by
  rw [cls_get, he]; rfl
theorem cls_c {w : Wd} {h : Hp} {q n : Nat} (he : w.2.2.1[q]? = some (2, n, [])) : (cls w h)[q]? = some (w.2.1 q, .inl (w.2.2.2.1.2, n, .inl (h q))) := by
  rw [cls_get, he]; rfl
theorem cls_seti {w : Wd} {h : Hp} {q n i : Nat} {v : Int32} (he : w.2.2.1[q]? = some (1, n, [])) : (cls w h).set q (w.2.1 q, .inl (w.2.2.2.1.1, n, .inl (upd (h q) i v))) = cls w (hset h q i v) := by
  rw [← cls_set he (h' := hset h q i v) (fun p hp => hset_o hp)]
  simp [pcell, hset_s]
theorem cls_setc {w : Wd} {h : Hp} {q n i : Nat} {v : Int32} (he : w.2.2.1[q]? = some (2, n, [])) : (cls w h).set q (w.2.1 q, .inl (w.2.2.2.1.2, n, .inl (upd (h q) i v))) = cls w (hset h q i v) := by
  rw [← cls_set he (h' := hset h q i v) (fun p hp => hset_o hp)]
  simp [pcell, hset_s]
theorem cls_setcp {w : Wd} {h : Hp} {q a n sp dp m : Nat} (he : w.2.2.1[q]? = some (1, n, [])) : (cls w h).set q (w.2.1 q, .inl (w.2.2.2.1.1, n, .inl (va_cpy (h a) (h q) sp dp m))) = cls w (hcpy h a q sp dp m) := by
  rw [← cls_set he (h' := hcpy h a q sp dp m) (fun p hp => hcpy_o hp)]
  simp [pcell, hcpy]
theorem fv_o {w : Wd} {h h' : Hp} {q j : Nat} (hh : h' q j = h q j) (k : Nat) : fv w h' q j k = fv w h q j k := by
  unfold fv
  rw [hh]
theorem hset_ss {h : Hp} {q k : Nat} {x : Int32} : hset h q k x q k = x := by rw [hset_s]; exact pk_us
theorem hset_so {h : Hp} {q k i : Nat} {x : Int32} (hi : i ≠ k) : hset h q k x q i = h q i := by rw [hset_s]; exact pk_un hi
theorem fvs_setE {w : Wd} {h : Hp} {q k kd : Nat} {ks : List Nat} {v : Value} {h2 : Hp} (hk : ks[k]? = some kd) (hv : fv w h2 q k kd = v) (ho : ∀ i, i ≠ k → h2 q i = h q i) (i : Nat) : (fvs w h2 q 0 ks)[i]? = ((fvs w h q 0 ks).set k v)[i]? := by
  rw [List.getElem?_set, fvs_get, fvs_get, Nat.zero_add]
  by_cases hi : k = i
  · subst hi
    have hlt : k < (fvs w h q 0 ks).length := by rw [fvs_len]; exact (List.getElem?_eq_some_iff.mp hk).1
    rw [if_pos rfl, if_pos hlt, hk, Option.map_some, hv]
  · rw [if_neg hi]
    cases hq : ks[i]? with
    | none => rw [Option.map_none, Option.map_none]
    | some e' => rw [Option.map_some, Option.map_some, fv_o (ho i (fun z => hi z.symm)) e']
theorem fvs_set {w : Wd} {h : Hp} {q k kd : Nat} {ks : List Nat} {v : Value} {x : Int32} (hk : ks[k]? = some kd) (hv : fv w (hset h q k x) q k kd = v) : fvs w (hset h q k x) q 0 ks = (fvs w h q 0 ks).set k v :=
  List.ext_getElem? (fvs_setE hk hv (fun _ hi => hset_so hi))
theorem cls_seto {w : Wd} {h : Hp} {q ci k kd : Nat} {ks : List Nat} {v : Value} {x : Int32} (he : w.2.2.1[q]? = some (0, ci, ks)) (hk : ks[k]? = some kd) (hv : fv w (hset h q k x) q k kd = v) : (cls w h).set q (w.2.1 q, .inr (ci, (fvs w h q 0 ks).set k v)) = cls w (hset h q k x) := by
  have e := cls_set he (h := h) (h' := hset h q k x) (fun p hp => hset_o hp)
  have e2 : pcell w (hset h q k x) q (0, ci, ks) = (w.2.1 q, .inr (ci, (fvs w h q 0 ks).set k v)) := by
    rw [← fvs_set hk hv]
    rfl
  rw [e2] at e
  exact e
/-! locals -/
def asc : Nat → List (Option Value) → List (Nat × Value)
  | _, [] => []
  | i, none :: l => asc (i + 1) l
  | i, some v :: l => (i, v) :: asc (i + 1) l
theorem asc_mem : ∀ (l : List (Option Value)) (j : Nat) (q : Nat × Value), q ∈ asc j l ↔ j ≤ q.1 ∧ l[q.1 - j]? = some (some q.2)
  | [], j, q => by simp [asc]
  | none :: l, j, q => by
    rw [asc, asc_mem l (j + 1) q]
    by_cases h : j ≤ q.1
    · by_cases h2 : j + 1 ≤ q.1
      · rw [show q.1 - j = (q.1 - (j + 1)) + 1 by omega, List.getElem?_cons_succ]
        simp [h, h2]
      · rw [show q.1 - j = 0 by omega]
        simp [h2]
    · have : ¬ j + 1 ≤ q.1 := by omega
      simp [h, this]
  | some v :: l, j, q => by
    rw [asc, List.mem_cons, asc_mem l (j + 1) q]
    by_cases h : j ≤ q.1
    · by_cases h2 : j + 1 ≤ q.1
      · rw [show q.1 - j = (q.1 - (j + 1)) + 1 by omega, List.getElem?_cons_succ]
        have hne : q ≠ (j, v) := fun e => by rw [e] at h2; simp at h2; omega
        simp [h, h2, hne]
      · have h3 : q.1 = j := by omega
        rw [show q.1 - j = 0 by omega]
        obtain ⟨a, b⟩ := q
        simp at h3
        subst h3
        simp only [List.getElem?_cons_zero, Prod.mk.injEq, true_and, Option.some.injEq, Nat.le_refl]
        constructor
        · rintro (e | ⟨e, -⟩)
          · exact e.symm
          · omega
        · intro e; exact Or.inl e.symm
    · have h1 : ¬ j + 1 ≤ q.1 := by omega
      have hne : q ≠ (j, v) := fun e => by rw [e] at h; simp at h
      simp [h, h1, hne]
theorem asc_at {ls : Array Slot} {nL i : Nat} {lv : List (Option Value)} {v : Value} (h : lv_has ls nL (asc 0 lv)) (hi : lv[i]? = some (some v)) : ls[i]? = some (.val v) :=
  h.2.2 (i, v) ((asc_mem lv 0 (i, v)).mpr ⟨Nat.zero_le _, by simpa using hi⟩)
def okst (lv : List (Option Value)) (i : Nat) : Bool := match i with
  | 0 => true
  | k + 1 => match lv[k]? with
    | some (some (.long _)) => false
    | some (some (.double _)) => false
    | _ => true
theorem okst_cat {lv : List (Option Value)} {i : Nat} (h : okst lv i = true) {q : Nat × Value} (hq : lv[q.1]? = some (some q.2)) (hi : q.1 + 1 = i) : ¬ q.2.category = 2 := by
  subst hi
  simp only [okst, hq] at h
  intro hc
  obtain ⟨a, v⟩ := q
  cases v <;> simp_all [Value.category]
theorem has_mono {ls : Array Slot} {nL : Nat} {l l' : List (Nat × Value)} (h : lv_has ls nL l) (hs : ∀ q ∈ l', q ∈ l) : lv_has ls nL l' := ⟨h.1, h.2.1, fun q hq => h.2.2 q (hs q hq)⟩
theorem asc_set1 {ls' : Array Slot} {nL i : Nat} {lv : List (Option Value)} {v : Value} (hok : okst lv i = true) (h : lv_has ls' nL ((i, v) :: (asc 0 lv).filter (fun q => !(q.1 == i) && !(q.1 + 1 == i && q.2.category == 2)))) : lv_has ls' nL (asc 0 (lv.set i (some v))) := by
  refine has_mono h (fun q hq => ?_)
  obtain ⟨-, h2⟩ := (asc_mem _ 0 q).mp hq
  simp only [Nat.sub_zero, List.getElem?_set] at h2
  by_cases hi : i = q.1
  · rw [if_pos hi] at h2
    split at h2
    · injection h2 with h2; injection h2 with h2
      obtain ⟨a, b⟩ := q
      simp at hi h2
      subst hi; subst h2
      exact List.mem_cons_self
    · cases h2
  · rw [if_neg hi] at h2
    refine List.mem_cons_of_mem _ (List.mem_filter.mpr ⟨(asc_mem lv 0 q).mpr ⟨Nat.zero_le _, by simpa using h2⟩, ?_⟩)
    have h3 : ¬ q.1 = i := fun e => hi e.symm
    by_cases h4 : q.1 + 1 = i
    · have := okst_cat hok h2 h4
      simp [h3, this]
    · simp [h3, h4]
theorem asc_set2 {ls' : Array Slot} {nL i : Nat} {lv : List (Option Value)} {v : Value} (hok : okst lv i = true) (h : lv_has ls' nL ((i, v) :: (asc 0 lv).filter (fun q => !(q.1 == i) && (!(q.1 == i + 1) && !(q.1 + 1 == i && q.2.category == 2))))) : lv_has ls' nL (asc 0 ((lv.set i (some v)).set (i + 1) none)) := by
  refine has_mono h (fun q hq => ?_)
  obtain ⟨-, h2⟩ := (asc_mem _ 0 q).mp hq
  simp only [Nat.sub_zero, List.getElem?_set] at h2
  by_cases h0 : i + 1 = q.1
  · rw [if_pos h0] at h2
    split at h2
    · injection h2 with h2; cases h2
    · cases h2
  rw [if_neg h0] at h2
  by_cases hi : i = q.1
  · rw [if_pos hi] at h2
    split at h2
    · injection h2 with h2; injection h2 with h2
      obtain ⟨a, b⟩ := q
      simp at hi h2
      subst hi; subst h2
      exact List.mem_cons_self
    · cases h2
  · rw [if_neg hi] at h2
    refine List.mem_cons_of_mem _ (List.mem_filter.mpr ⟨(asc_mem lv 0 q).mpr ⟨Nat.zero_le _, by simpa using h2⟩, ?_⟩)
    have h3 : ¬ q.1 = i := fun e => hi e.symm
    have h5 : ¬ q.1 = i + 1 := fun e => h0 e.symm
    by_cases h4 : q.1 + 1 = i
    · have := okst_cat hok h2 h4
      simp [h3, h5, this]
    · simp [h3, h4, h5]
/-! nest mates' words: they are carried, not kept -/
def nestM : List (String × Nat × MethodName × String) := [("ToldInKnots", 15, ⟨"ToldInKnots$Reader", "<init>", "()V"⟩, "ToldInKnots"), ("ToldInKnots$Reader", 11, ⟨"ToldInKnots$Bundle", "<init>", "()V"⟩, "ToldInKnots"), ("ToldInKnots", 22, ⟨"ToldInKnots$Bundle", "<init>", "()V"⟩, "ToldInKnots"), ("ToldInKnots", 41, ⟨"ToldInKnots$Sets", "<init>", "()V"⟩, "ToldInKnots"), ("ToldInKnots$Bundle", 25, ⟨"ToldInKnots", "at", "([II)I"⟩, "ToldInKnots"), ("ToldInKnots$Bundle", 44, ⟨"ToldInKnots", "put", "([III)V"⟩, "ToldInKnots"), ("ToldInKnots$Reader", 67, ⟨"ToldInKnots", "isColour", "(I)Z"⟩, "ToldInKnots"), ("ToldInKnots$Reader", 74, ⟨"ToldInKnots", "put", "([III)V"⟩, "ToldInKnots"), ("ToldInKnots$Reader", 78, ⟨"ToldInKnots", "at", "([II)I"⟩, "ToldInKnots"), ("ToldInKnots$Reader", 90, ⟨"ToldInKnots", "canCount", "(II)Z"⟩, "ToldInKnots"), ("ToldInKnots$Bundle", 15, ⟨"ToldInKnots", "copyRow", "([II[II)V"⟩, "ToldInKnots"), ("ToldInKnots$Bundle", 52, ⟨"ToldInKnots", "isWellPlaced", "(II)Z"⟩, "ToldInKnots"), ("ToldInKnots$Bundle", 56, ⟨"ToldInKnots", "countOf", "(I)I"⟩, "ToldInKnots"), ("ToldInKnots$Bundle", 59, ⟨"ToldInKnots", "tens", "(I)I"⟩, "ToldInKnots"), ("ToldInKnots$Bundle", 70, ⟨"ToldInKnots", "knotsIn", "(I)I"⟩, "ToldInKnots"), ("ToldInKnots$Bundle", 73, ⟨"ToldInKnots", "codeToTell", "(II)I"⟩, "ToldInKnots"), ("ToldInKnots$Shelf", 28, ⟨"ToldInKnots", "copyRow", "([II[II)V"⟩, "ToldInKnots"), ("ToldInKnots$Sets", 31, ⟨"ToldInKnots", "put", "([III)V"⟩, "ToldInKnots"), ("ToldInKnots$Sets", 43, ⟨"ToldInKnots", "at", "([II)I"⟩, "ToldInKnots")]
def NW (U : State) : Prop := ∀ q ∈ nestM, va_Nw (.methodLinkNest q.1 q.2.1 q.2.2.1 q.2.2.2) U
theorem NW.warm {s U : State} (hW : s.WarmedH U.vm) (h : NW s) : NW U := fun q hq => va_Nw.warmM hW (h q hq)
theorem NW.same {s U : State} (hv : s.vm = U.vm) (h : NW s) : NW U := fun q hq => va_Nw.same rfl hv (h q hq)
def nestF : List (String × Nat × String × String × String × String) := [("ToldInKnots", 78, "ToldInKnots$Bundle", "row", "[I", "ToldInKnots"), ("ToldInKnots", 75, "ToldInKnots$Reader", "draft", "LToldInKnots$Bundle;", "ToldInKnots"), ("ToldInKnots", 193, "ToldInKnots$Shelf", "used", "I", "ToldInKnots"), ("ToldInKnots", 248, "ToldInKnots$Sets", "found", "I", "ToldInKnots"), ("ToldInKnots", 251, "ToldInKnots$Sets", "unlike", "I", "ToldInKnots")]
def NF (U : State) : Prop := ∀ q ∈ nestF, va_Nw (.fieldLinkNest q.1 q.2.1 q.2.2.1 q.2.2.2.1 q.2.2.2.2.1 q.2.2.2.2.2) U
theorem NF.warm {s U : State} (hW : s.WarmedH U.vm) (h : NF s) : NF U := fun q hq => va_Nw.warmF hW (h q hq)
theorem NF.same {s U : State} (hv : s.vm = U.vm) (h : NF s) : NF U := fun q hq => va_Nw.same rfl hv (h q hq)
/-! the context of a walk -/
abbrev Cz : Type := Program × Launch × Env × Room × State × MethodId × Array Value × List Frame × Method × Code × (Nat → Prop) × Nat × Nat × Nat × (Rs → State → Prop)
abbrev xp (x : Cz) : Program := x.1
abbrev xl (x : Cz) : Launch := x.2.1
abbrev xe (x : Cz) : Env := x.2.2.1
abbrev xR (x : Cz) : Room := x.2.2.2.1
abbrev xs (x : Cz) : State := x.2.2.2.2.1
abbrev xm (x : Cz) : MethodId := x.2.2.2.2.2.1
abbrev xa (x : Cz) : Array Value := x.2.2.2.2.2.2.1
abbrev xb (x : Cz) : List Frame := x.2.2.2.2.2.2.2.1
abbrev xk (x : Cz) : Method := x.2.2.2.2.2.2.2.2.1
abbrev xc (x : Cz) : Code := x.2.2.2.2.2.2.2.2.2.1
abbrev xA (x : Cz) : Nat → Prop := x.2.2.2.2.2.2.2.2.2.2.1
abbrev xN (x : Cz) : Nat := x.2.2.2.2.2.2.2.2.2.2.2.1
abbrev xu (x : Cz) : Nat := x.2.2.2.2.2.2.2.2.2.2.2.2.1
abbrev xv (x : Cz) : Nat := x.2.2.2.2.2.2.2.2.2.2.2.2.2.1
abbrev xQ (x : Cz) : Rs → State → Prop := x.2.2.2.2.2.2.2.2.2.2.2.2.2.2
abbrev tysw (w : Wd) : List (ClassId × FieldType) := [(w.2.2.2.1.1, .int), (w.2.2.2.1.2, .char)]
def tensF : Nat → Value := fun i => .int (10 ^ i)
/-- a walk that stands at pc with these locals and this stack, over the abstract heap h, comes to the end that res tells, if it tells one -/
def PW (w : Wd) (x : Cz) (pc : Nat) (lv : List (Option Value)) (st : List Value) (h : Hp) (res : Option Rs) : Prop :=
  ∀ r, res = some r → ∀ (H : Heap) (locs : List Loc) (ls : Array Slot), va_P w.1 vwCl (cls w h) H → va_S (xA x) (xs x).heap H locs → lv_has ls (xN x) (asc 0 lv) → W (xp x) (xl x) (xe x) (xR x) (xs x) (xm x) (xa x) (xb x) (xk x) (xc x) H locs (xu x) (xv x) (xQ x r) (F0 (xm x) pc ls st)
def StF (w : Wd) (A : Nat → Prop) (U : State) : Prop := va_K w.1 vwCl (tysw w) U ∧ (∀ h, va_D A (cls w h)) ∧ va_Z "ToldInKnots" "TENS" "[I" (.ref w.2.2.2.2) A U U.heap ∧ va_T .int w.2.2.2.2 6 tensF A U U.heap ∧ NW U ∧ NF U
def Ok (w : Wd) (x : Cz) (cc : ByteArray) (own : String) (d : Nat) : Prop :=
  (xp x).tables.exec = Jvm.exec ∧ (xc x).code = cc ∧ (xc x).maxLocals = xN x ∧ (xs x).vm.findClass own = some (xm x).cls ∧ (∀ w ∈ TBL, w.before (xa x) (xs x) = true) ∧ (xk x).locks = false ∧ (d ≤ (xR x).frames ∧ 40 * d ≤ (xR x).locals ∧ xu x ≤ (xR x).cells ∧ xv x ≤ (xR x).slots) ∧ StF w (xA x) (xs x)
theorem Ok.x {w : Wd} {x : Cz} {cc : ByteArray} {own : String} {d : Nat} (C : Ok w x cc own d) : (xp x).tables.exec = Jvm.exec := C.1
theorem Ok.b {w : Wd} {x : Cz} {cc : ByteArray} {own : String} {d : Nat} (C : Ok w x cc own d) : (xc x).code = cc := C.2.1
theorem Ok.ml {w : Wd} {x : Cz} {cc : ByteArray} {own : String} {d : Nat} (C : Ok w x cc own d) : (xc x).maxLocals = xN x := C.2.2.1
theorem Ok.own {w : Wd} {x : Cz} {cc : ByteArray} {own : String} {d : Nat} (C : Ok w x cc own d) : (xs x).vm.findClass own = some (xm x).cls := C.2.2.2.1
theorem Ok.ts {w : Wd} {x : Cz} {cc : ByteArray} {own : String} {d : Nat} (C : Ok w x cc own d) : ∀ w ∈ TBL, w.before (xa x) (xs x) = true := C.2.2.2.2.1
theorem Ok.lk {w : Wd} {x : Cz} {cc : ByteArray} {own : String} {d : Nat} (C : Ok w x cc own d) : (xk x).locks = false := C.2.2.2.2.2.1
theorem Ok.rm {w : Wd} {x : Cz} {cc : ByteArray} {own : String} {d : Nat} (C : Ok w x cc own d) : d ≤ (xR x).frames ∧ 40 * d ≤ (xR x).locals ∧ xu x ≤ (xR x).cells ∧ xv x ≤ (xR x).slots := C.2.2.2.2.2.2.1
theorem Ok.st {w : Wd} {x : Cz} {cc : ByteArray} {own : String} {d : Nat} (C : Ok w x cc own d) : StF w (xA x) (xs x) := C.2.2.2.2.2.2.2
theorem Ok.K {w : Wd} {x : Cz} {cc : ByteArray} {own : String} {d : Nat} (C : Ok w x cc own d) : va_K w.1 vwCl (tysw w) (xs x) := C.st.1
theorem Ok.D {w : Wd} {x : Cz} {cc : ByteArray} {own : String} {d : Nat} (C : Ok w x cc own d) (h : Hp) : va_D (xA x) (cls w h) := C.st.2.1 h
def rmd (d : Nat) : Room := { frames := d, cells := 0, slots := 0, locals := 40 * d }
/-- what a method's start needs of the state -/
def PreW (w : Wd) (A : Nat → Prop) (h : Hp) (U : State) : Prop := va_P w.1 vwCl (cls w h) U.heap ∧ StF w A U
def ConI (l : Launch) (y : MethodName) (b : ByteArray) (n : Nat) (rt : FieldType) (d : Nat) (w : Wd) (A : Nat → Prop) (as : List Value) (h : Hp) (res : Option Rs) : Prop :=
  ∀ r, res = some r → Met l y (.code y b n (some rt) :: TBL) (rmd d) (va_Pc as (PreW w A h)) (va_Qi (fun v (_ : Unit) => v = r.1) (fun _ t => va_P w.1 vwCl (cls w r.2) t.heap) A) 0 0 A
def ConV (l : Launch) (y : MethodName) (b : ByteArray) (n : Nat) (d : Nat) (w : Wd) (A : Nat → Prop) (as : List Value) (h : Hp) (res : Option Rs) : Prop :=
  ∀ r, res = some r → Met l y (.code y b n none :: TBL) (rmd d) (va_Pc as (PreW w A h)) (va_Qv (fun (_ : Unit) => True) (fun _ t => va_P w.1 vwCl (cls w r.2) t.heap) A) 0 0 A
def OkI (w : Wd) (x : Cz) (rt : FieldType) : Prop := (xk x).sig.returnType = some rt ∧ xQ x = fun r => MQ (xb x) (va_Qi (fun v (_ : Unit) => v = r.1) (fun _ t => va_P w.1 vwCl (cls w r.2) t.heap) (xA x)) (xa x) (xs x) (xu x) (xv x) (xA x)
def OkV (w : Wd) (x : Cz) : Prop := (xk x).sig.returnType = none ∧ xQ x = fun r => MQ (xb x) (va_Qv (fun (_ : Unit) => True) (fun _ t => va_P w.1 vwCl (cls w r.2) t.heap) (xA x)) (xa x) (xs x) (xu x) (xv x) (xA x)
theorem StF.call {w : Wd} {A : Nat → Prop} {U : State} (h : StF w A U) (a : Array Value) (g : JFrame) (mk : MethodId) : StF w A (U.calling g mk a) :=
  ⟨va_K.moved (u := U) (U := U.calling g mk a) (Vm.Alike.refl U.vm) h.1, h.2.1, va_Z.moved (u := U) (U := U.calling g mk a) (Vm.Alike.refl U.vm) h.2.2.1, va_T.moved (u := U) (U := U.calling g mk a) (Vm.Alike.refl U.vm) h.2.2.2.1, h.2.2.2.2.1.same (U := U.calling g mk a) rfl, h.2.2.2.2.2.same (U := U.calling g mk a) rfl⟩
theorem PreW.blind {w : Wd} {A : Nat → Prop} {as : List Value} {h : Hp} : FrameBlind (va_Pc as (PreW w A h)) := fun a U g mk q => ⟨q.1, q.2.1, q.2.2.call a g mk⟩
theorem StF.at {w : Wd} {A : Nat → Prop} {s U : State} {H : Heap} {locs : List Loc} (h : StF w A s) (hS : va_S A s.heap H locs) (hU : U.heap = H) (hW : s.WarmedH U.vm) : StF w A U := by
  obtain ⟨hK, hD, hZ, hT, hN, hF⟩ := h
  have kp : ∀ a : Nat, a < s.heap.size → ¬ A a → U.heap[a]? = s.heap[a]? := fun a h1 h2 => by rw [hU]; exact hS.2.1 a h1 h2
  exact ⟨va_K.moved hW.alike hK, hD, va_Z.moved hW.alike (hZ.kept kp), va_T.moved hW.alike (hT.kept kp), hN.warm hW, hF.warm hW⟩

theorem pw_iconst {w : Wd} {x : Cz} {cc : ByteArray} {own : String} {d pc : Nat} {lv : List (Option Value)} {rest : List Value} {h : Hp} {X : Option Rs} {n : Int} {v : Int32} (C : Ok w x cc own d) (hdg : decode cc pc = .ok (.iconst n, 1)) (hv : Int32.ofInt n = v) (k : PW w x (pc + 1) lv (.int v :: rest) h X) : PW w x pc lv (rest) h X := fun r hr H locs ls hP hS hl => lv_iconst C.x C.b hdg hv (k r hr H locs ls hP hS hl)
theorem pw_bipush {w : Wd} {x : Cz} {cc : ByteArray} {own : String} {d pc : Nat} {lv : List (Option Value)} {rest : List Value} {h : Hp} {X : Option Rs} {n : Int} {v : Int32} (C : Ok w x cc own d) (hdg : decode cc pc = .ok (.bipush n, 2)) (hv : (Int8.ofInt n).toInt32 = v) (k : PW w x (pc + 2) lv (.int v :: rest) h X) : PW w x pc lv (rest) h X := fun r hr H locs ls hP hS hl => lv_bipush C.x C.b hdg hv (k r hr H locs ls hP hS hl)
theorem pw_sipush {w : Wd} {x : Cz} {cc : ByteArray} {own : String} {d pc : Nat} {lv : List (Option Value)} {rest : List Value} {h : Hp} {X : Option Rs} {n : Int} {v : Int32} (C : Ok w x cc own d) (hdg : decode cc pc = .ok (.sipush n, 3)) (hv : (Int16.ofInt n).toInt32 = v) (k : PW w x (pc + 3) lv (.int v :: rest) h X) : PW w x pc lv (rest) h X := fun r hr H locs ls hP hS hl => lv_sipush C.x C.b hdg hv (k r hr H locs ls hP hS hl)
theorem pw_lconst {w : Wd} {x : Cz} {cc : ByteArray} {own : String} {d pc : Nat} {lv : List (Option Value)} {rest : List Value} {h : Hp} {X : Option Rs} {n : Fin 2} {v : Int64} (C : Ok w x cc own d) (hdg : decode cc pc = .ok (.lconst n, 1)) (hv : Int64.ofNat (n : Nat) = v) (k : PW w x (pc + 1) lv (.long v :: rest) h X) : PW w x pc lv (rest) h X := fun r hr H locs ls hP hS hl => lv_lconst C.x C.b hdg hv (k r hr H locs ls hP hS hl)
theorem pw_iadd {w : Wd} {x : Cz} {cc : ByteArray} {own : String} {d pc : Nat} {lv : List (Option Value)} {rest : List Value} {h : Hp} {X : Option Rs} {a b : Int32} (C : Ok w x cc own d) (hdg : decode cc pc = .ok (.iadd, 1))  (k : PW w x (pc + 1) lv (.int (a + b) :: rest) h X) : PW w x pc lv (.int b :: .int a :: rest) h X := fun r hr H locs ls hP hS hl => lv_iadd C.x C.b hdg  (k r hr H locs ls hP hS hl)
theorem pw_isub {w : Wd} {x : Cz} {cc : ByteArray} {own : String} {d pc : Nat} {lv : List (Option Value)} {rest : List Value} {h : Hp} {X : Option Rs} {a b : Int32} (C : Ok w x cc own d) (hdg : decode cc pc = .ok (.isub, 1))  (k : PW w x (pc + 1) lv (.int (a - b) :: rest) h X) : PW w x pc lv (.int b :: .int a :: rest) h X := fun r hr H locs ls hP hS hl => lv_isub C.x C.b hdg  (k r hr H locs ls hP hS hl)
theorem pw_imul {w : Wd} {x : Cz} {cc : ByteArray} {own : String} {d pc : Nat} {lv : List (Option Value)} {rest : List Value} {h : Hp} {X : Option Rs} {a b : Int32} (C : Ok w x cc own d) (hdg : decode cc pc = .ok (.imul, 1))  (k : PW w x (pc + 1) lv (.int (a * b) :: rest) h X) : PW w x pc lv (.int b :: .int a :: rest) h X := fun r hr H locs ls hP hS hl => lv_imul C.x C.b hdg  (k r hr H locs ls hP hS hl)
theorem pw_iand {w : Wd} {x : Cz} {cc : ByteArray} {own : String} {d pc : Nat} {lv : List (Option Value)} {rest : List Value} {h : Hp} {X : Option Rs} {a b : Int32} (C : Ok w x cc own d) (hdg : decode cc pc = .ok (.iand, 1))  (k : PW w x (pc + 1) lv (.int (a &&& b) :: rest) h X) : PW w x pc lv (.int b :: .int a :: rest) h X := fun r hr H locs ls hP hS hl => lv_iand C.x C.b hdg  (k r hr H locs ls hP hS hl)
theorem pw_ior {w : Wd} {x : Cz} {cc : ByteArray} {own : String} {d pc : Nat} {lv : List (Option Value)} {rest : List Value} {h : Hp} {X : Option Rs} {a b : Int32} (C : Ok w x cc own d) (hdg : decode cc pc = .ok (.ior, 1))  (k : PW w x (pc + 1) lv (.int (a ||| b) :: rest) h X) : PW w x pc lv (.int b :: .int a :: rest) h X := fun r hr H locs ls hP hS hl => lv_ior C.x C.b hdg  (k r hr H locs ls hP hS hl)
theorem pw_ixor {w : Wd} {x : Cz} {cc : ByteArray} {own : String} {d pc : Nat} {lv : List (Option Value)} {rest : List Value} {h : Hp} {X : Option Rs} {a b : Int32} (C : Ok w x cc own d) (hdg : decode cc pc = .ok (.ixor, 1))  (k : PW w x (pc + 1) lv (.int (a ^^^ b) :: rest) h X) : PW w x pc lv (.int b :: .int a :: rest) h X := fun r hr H locs ls hP hS hl => lv_ixor C.x C.b hdg  (k r hr H locs ls hP hS hl)
theorem pw_ishl {w : Wd} {x : Cz} {cc : ByteArray} {own : String} {d pc : Nat} {lv : List (Option Value)} {rest : List Value} {h : Hp} {X : Option Rs} {a b : Int32} (C : Ok w x cc own d) (hdg : decode cc pc = .ok (.ishl, 1))  (k : PW w x (pc + 1) lv (.int (a <<< (b &&& 31)) :: rest) h X) : PW w x pc lv (.int b :: .int a :: rest) h X := fun r hr H locs ls hP hS hl => lv_ishl C.x C.b hdg  (k r hr H locs ls hP hS hl)
theorem pw_ishr {w : Wd} {x : Cz} {cc : ByteArray} {own : String} {d pc : Nat} {lv : List (Option Value)} {rest : List Value} {h : Hp} {X : Option Rs} {a b : Int32} (C : Ok w x cc own d) (hdg : decode cc pc = .ok (.ishr, 1))  (k : PW w x (pc + 1) lv (.int (a >>> (b &&& 31)) :: rest) h X) : PW w x pc lv (.int b :: .int a :: rest) h X := fun r hr H locs ls hP hS hl => lv_ishr C.x C.b hdg  (k r hr H locs ls hP hS hl)
theorem pw_idiv {w : Wd} {x : Cz} {cc : ByteArray} {own : String} {d pc : Nat} {lv : List (Option Value)} {rest : List Value} {h : Hp} {X : Option Rs} {a b : Int32} (C : Ok w x cc own d) (hdg : decode cc pc = .ok (.idiv, 1)) (hne : ¬ b = 0) (k : PW w x (pc + 1) lv (.int (a / b) :: rest) h X) : PW w x pc lv (.int b :: .int a :: rest) h X := fun r hr H locs ls hP hS hl => lv_idiv C.x C.b hdg hne (k r hr H locs ls hP hS hl)
theorem pw_irem {w : Wd} {x : Cz} {cc : ByteArray} {own : String} {d pc : Nat} {lv : List (Option Value)} {rest : List Value} {h : Hp} {X : Option Rs} {a b : Int32} (C : Ok w x cc own d) (hdg : decode cc pc = .ok (.irem, 1)) (hne : ¬ b = 0) (k : PW w x (pc + 1) lv (.int (a - a / b * b) :: rest) h X) : PW w x pc lv (.int b :: .int a :: rest) h X := fun r hr H locs ls hP hS hl => lv_irem C.x C.b hdg hne (k r hr H locs ls hP hS hl)
theorem pw_ineg {w : Wd} {x : Cz} {cc : ByteArray} {own : String} {d pc : Nat} {lv : List (Option Value)} {rest : List Value} {h : Hp} {X : Option Rs} {a : Int32} (C : Ok w x cc own d) (hdg : decode cc pc = .ok (.ineg, 1))  (k : PW w x (pc + 1) lv (.int (-a) :: rest) h X) : PW w x pc lv (.int a :: rest) h X := fun r hr H locs ls hP hS hl => lv_ineg C.x C.b hdg  (k r hr H locs ls hP hS hl)
theorem pw_ladd {w : Wd} {x : Cz} {cc : ByteArray} {own : String} {d pc : Nat} {lv : List (Option Value)} {rest : List Value} {h : Hp} {X : Option Rs} {a b : Int64} (C : Ok w x cc own d) (hdg : decode cc pc = .ok (.ladd, 1))  (k : PW w x (pc + 1) lv (.long (a + b) :: rest) h X) : PW w x pc lv (.long b :: .long a :: rest) h X := fun r hr H locs ls hP hS hl => lv_ladd C.x C.b hdg  (k r hr H locs ls hP hS hl)
theorem pw_lmul {w : Wd} {x : Cz} {cc : ByteArray} {own : String} {d pc : Nat} {lv : List (Option Value)} {rest : List Value} {h : Hp} {X : Option Rs} {a b : Int64} (C : Ok w x cc own d) (hdg : decode cc pc = .ok (.lmul, 1))  (k : PW w x (pc + 1) lv (.long (a * b) :: rest) h X) : PW w x pc lv (.long b :: .long a :: rest) h X := fun r hr H locs ls hP hS hl => lv_lmul C.x C.b hdg  (k r hr H locs ls hP hS hl)
theorem pw_ldiv {w : Wd} {x : Cz} {cc : ByteArray} {own : String} {d pc : Nat} {lv : List (Option Value)} {rest : List Value} {h : Hp} {X : Option Rs} {a b : Int64} (C : Ok w x cc own d) (hdg : decode cc pc = .ok (.ldiv, 1)) (hne : ¬ b = 0) (k : PW w x (pc + 1) lv (.long (a / b) :: rest) h X) : PW w x pc lv (.long b :: .long a :: rest) h X := fun r hr H locs ls hP hS hl => lv_ldiv C.x C.b hdg hne (k r hr H locs ls hP hS hl)
theorem pw_lrem {w : Wd} {x : Cz} {cc : ByteArray} {own : String} {d pc : Nat} {lv : List (Option Value)} {rest : List Value} {h : Hp} {X : Option Rs} {a b : Int64} (C : Ok w x cc own d) (hdg : decode cc pc = .ok (.lrem, 1)) (hne : ¬ b = 0) (k : PW w x (pc + 1) lv (.long (a - a / b * b) :: rest) h X) : PW w x pc lv (.long b :: .long a :: rest) h X := fun r hr H locs ls hP hS hl => lv_lrem C.x C.b hdg hne (k r hr H locs ls hP hS hl)
theorem pw_i2l {w : Wd} {x : Cz} {cc : ByteArray} {own : String} {d pc : Nat} {lv : List (Option Value)} {rest : List Value} {h : Hp} {X : Option Rs} {a : Int32} (C : Ok w x cc own d) (hdg : decode cc pc = .ok (.i2l, 1))  (k : PW w x (pc + 1) lv (.long a.toInt64 :: rest) h X) : PW w x pc lv (.int a :: rest) h X := fun r hr H locs ls hP hS hl => lv_i2l C.x C.b hdg rfl (k r hr H locs ls hP hS hl)
theorem pw_l2i {w : Wd} {x : Cz} {cc : ByteArray} {own : String} {d pc : Nat} {lv : List (Option Value)} {rest : List Value} {h : Hp} {X : Option Rs} {a : Int64} (C : Ok w x cc own d) (hdg : decode cc pc = .ok (.l2i, 1))  (k : PW w x (pc + 1) lv (.int a.toInt32 :: rest) h X) : PW w x pc lv (.long a :: rest) h X := fun r hr H locs ls hP hS hl => lv_l2i C.x C.b hdg rfl (k r hr H locs ls hP hS hl)
theorem pw_i2c {w : Wd} {x : Cz} {cc : ByteArray} {own : String} {d pc : Nat} {lv : List (Option Value)} {rest : List Value} {h : Hp} {X : Option Rs} {a : Int32} (C : Ok w x cc own d) (hdg : decode cc pc = .ok (.i2c, 1))  (k : PW w x (pc + 1) lv (.int (a.toUInt32 % 65536).toInt32 :: rest) h X) : PW w x pc lv (.int a :: rest) h X := fun r hr H locs ls hP hS hl => lv_i2c C.x C.b hdg rfl (k r hr H locs ls hP hS hl)
theorem pw_iushr {w : Wd} {x : Cz} {cc : ByteArray} {own : String} {d pc : Nat} {lv : List (Option Value)} {rest : List Value} {h : Hp} {X : Option Rs} {a b : Int32} (C : Ok w x cc own d) (hdg : decode cc pc = .ok (.iushr, 1))  (k : PW w x (pc + 1) lv (.int (a.toUInt32 >>> (b.toUInt32 &&& Int32.toUInt32 31)).toInt32 :: rest) h X) : PW w x pc lv (.int b :: .int a :: rest) h X := fun r hr H locs ls hP hS hl => lv_iushr C.x C.b hdg rfl (k r hr H locs ls hP hS hl)
theorem pw_dup {w : Wd} {x : Cz} {cc : ByteArray} {own : String} {d pc : Nat} {lv : List (Option Value)} {rest : List Value} {h : Hp} {X : Option Rs} {v : Value} (C : Ok w x cc own d) (hdg : decode cc pc = .ok (.dup, 1)) (hv : v.category = 1) (k : PW w x (pc + 1) lv (v :: v :: rest) h X) : PW w x pc lv (v :: rest) h X := fun r hr H locs ls hP hS hl => lv_dup C.x C.b hdg hv (k r hr H locs ls hP hS hl)
theorem pw_pop {w : Wd} {x : Cz} {cc : ByteArray} {own : String} {d pc : Nat} {lv : List (Option Value)} {rest : List Value} {h : Hp} {X : Option Rs} {v : Value} (C : Ok w x cc own d) (hdg : decode cc pc = .ok (.pop, 1)) (hv : v.category = 1) (k : PW w x (pc + 1) lv (rest) h X) : PW w x pc lv (v :: rest) h X := fun r hr H locs ls hP hS hl => lv_pop C.x C.b hdg hv (k r hr H locs ls hP hS hl)
theorem pw_dup2_11 {w : Wd} {x : Cz} {cc : ByteArray} {own : String} {d pc : Nat} {lv : List (Option Value)} {rest : List Value} {h : Hp} {X : Option Rs} {v u : Value} (C : Ok w x cc own d) (hdg : decode cc pc = .ok (.dup2, 1)) (hv : v.category = 1) (hu : u.category = 1) (k : PW w x (pc + 1) lv (v :: u :: v :: u :: rest) h X) : PW w x pc lv (v :: u :: rest) h X := fun r hr H locs ls hP hS hl => lv_dup2_11 C.x C.b hdg hv hu (k r hr H locs ls hP hS hl)
theorem pw_dup2_2 {w : Wd} {x : Cz} {cc : ByteArray} {own : String} {d pc : Nat} {lv : List (Option Value)} {rest : List Value} {h : Hp} {X : Option Rs} {v : Value} (C : Ok w x cc own d) (hdg : decode cc pc = .ok (.dup2, 1)) (hv : v.category = 2) (k : PW w x (pc + 1) lv (v :: v :: rest) h X) : PW w x pc lv (v :: rest) h X := fun r hr H locs ls hP hS hl => lv_dup2_2 C.x C.b hdg hv (k r hr H locs ls hP hS hl)
theorem pw_lcmp {w : Wd} {x : Cz} {cc : ByteArray} {own : String} {d pc : Nat} {lv : List (Option Value)} {rest : List Value} {h : Hp} {X : Option Rs} {a b : Int64} (C : Ok w x cc own d) (hdg : decode cc pc = .ok (.lcmp, 1)) (k : PW w x (pc + 1) lv (.int (lg_cmp a b) :: rest) h X) : PW w x pc lv (.long b :: .long a :: rest) h X := fun r hr H locs ls hP hS hl => W.lcmp C.x C.b hdg (k r hr H locs ls hP hS hl)
theorem pw_iload_n {w : Wd} {x : Cz} {cc : ByteArray} {own : String} {d pc : Nat} {lv : List (Option Value)} {rest : List Value} {h : Hp} {X : Option Rs} {k4 : Fin 4} {i : Nat} {a : Int32} (C : Ok w x cc own d) (hdg : decode cc pc = .ok (.iload_n k4, 1)) (hi : (k4 : Nat) = i) (hv : lv[i]? = some (some (.int a))) (k : PW w x (pc + 1) lv (.int a :: rest) h X) : PW w x pc lv rest h X := fun r hr H locs ls hP hS hl => lv_iload_n C.x C.b hdg hi (asc_at hl hv) (k r hr H locs ls hP hS hl)
theorem pw_iload {w : Wd} {x : Cz} {cc : ByteArray} {own : String} {d pc : Nat} {lv : List (Option Value)} {rest : List Value} {h : Hp} {X : Option Rs} {i : Nat} {a : Int32} (C : Ok w x cc own d) (hdg : decode cc pc = .ok (.iload i, 2)) (hv : lv[i]? = some (some (.int a))) (k : PW w x (pc + 2) lv (.int a :: rest) h X) : PW w x pc lv rest h X := fun r hr H locs ls hP hS hl => lv_iload C.x C.b hdg (asc_at hl hv) (k r hr H locs ls hP hS hl)
theorem pw_lload_n {w : Wd} {x : Cz} {cc : ByteArray} {own : String} {d pc : Nat} {lv : List (Option Value)} {rest : List Value} {h : Hp} {X : Option Rs} {k4 : Fin 4} {i : Nat} {a : Int64} (C : Ok w x cc own d) (hdg : decode cc pc = .ok (.lload_n k4, 1)) (hi : (k4 : Nat) = i) (hv : lv[i]? = some (some (.long a))) (k : PW w x (pc + 1) lv (.long a :: rest) h X) : PW w x pc lv rest h X := fun r hr H locs ls hP hS hl => lv_lload_n C.x C.b hdg hi (asc_at hl hv) (k r hr H locs ls hP hS hl)
theorem pw_lload {w : Wd} {x : Cz} {cc : ByteArray} {own : String} {d pc : Nat} {lv : List (Option Value)} {rest : List Value} {h : Hp} {X : Option Rs} {i : Nat} {a : Int64} (C : Ok w x cc own d) (hdg : decode cc pc = .ok (.lload i, 2)) (hv : lv[i]? = some (some (.long a))) (k : PW w x (pc + 2) lv (.long a :: rest) h X) : PW w x pc lv rest h X := fun r hr H locs ls hP hS hl => lv_lload C.x C.b hdg (asc_at hl hv) (k r hr H locs ls hP hS hl)
theorem pw_aload_n {w : Wd} {x : Cz} {cc : ByteArray} {own : String} {d pc : Nat} {lv : List (Option Value)} {rest : List Value} {h : Hp} {X : Option Rs} {k4 : Fin 4} {i : Nat} {a : Nat} (C : Ok w x cc own d) (hdg : decode cc pc = .ok (.aload_n k4, 1)) (hi : (k4 : Nat) = i) (hv : lv[i]? = some (some (.ref a))) (k : PW w x (pc + 1) lv (.ref a :: rest) h X) : PW w x pc lv rest h X := fun r hr H locs ls hP hS hl => lv_aload_n C.x C.b hdg hi (asc_at hl hv) (k r hr H locs ls hP hS hl)
theorem pw_aload {w : Wd} {x : Cz} {cc : ByteArray} {own : String} {d pc : Nat} {lv : List (Option Value)} {rest : List Value} {h : Hp} {X : Option Rs} {i : Nat} {a : Nat} (C : Ok w x cc own d) (hdg : decode cc pc = .ok (.aload i, 2)) (hv : lv[i]? = some (some (.ref a))) (k : PW w x (pc + 2) lv (.ref a :: rest) h X) : PW w x pc lv rest h X := fun r hr H locs ls hP hS hl => lv_aload C.x C.b hdg (asc_at hl hv) (k r hr H locs ls hP hS hl)
theorem pw_istore_n {w : Wd} {x : Cz} {cc : ByteArray} {own : String} {d pc : Nat} {lv : List (Option Value)} {rest : List Value} {h : Hp} {X : Option Rs} {lv2 : List (Option Value)} {k4 : Fin 4} {i : Nat} {a : Int32} (C : Ok w x cc own d) (hdg : decode cc pc = .ok (.istore_n k4, 1)) (hi : (k4 : Nat) = i) (hn : i < xN x) (hok : okst lv i = true) (hs : lv.set i (some (.int a)) = lv2) (k : PW w x (pc + 1) lv2 rest h X) : PW w x pc lv (.int a :: rest) h X := fun r hr H locs ls hP hS hl => lv_istore_n C.x C.b hdg hi hl hn rfl (fun ls2 hl2 => k r hr H locs ls2 hP hS (by rw [← hs]; exact asc_set1 hok hl2))
theorem pw_istore {w : Wd} {x : Cz} {cc : ByteArray} {own : String} {d pc : Nat} {lv : List (Option Value)} {rest : List Value} {h : Hp} {X : Option Rs} {lv2 : List (Option Value)} {i : Nat} {a : Int32} (C : Ok w x cc own d) (hdg : decode cc pc = .ok (.istore i, 2)) (hn : i < xN x) (hok : okst lv i = true) (hs : lv.set i (some (.int a)) = lv2) (k : PW w x (pc + 2) lv2 rest h X) : PW w x pc lv (.int a :: rest) h X := fun r hr H locs ls hP hS hl => lv_istore C.x C.b hdg hl hn rfl (fun ls2 hl2 => k r hr H locs ls2 hP hS (by rw [← hs]; exact asc_set1 hok hl2))
theorem pw_astore_n {w : Wd} {x : Cz} {cc : ByteArray} {own : String} {d pc : Nat} {lv : List (Option Value)} {rest : List Value} {h : Hp} {X : Option Rs} {lv2 : List (Option Value)} {k4 : Fin 4} {i : Nat} {a : Nat} (C : Ok w x cc own d) (hdg : decode cc pc = .ok (.astore_n k4, 1)) (hi : (k4 : Nat) = i) (hn : i < xN x) (hok : okst lv i = true) (hs : lv.set i (some (.ref a)) = lv2) (k : PW w x (pc + 1) lv2 rest h X) : PW w x pc lv (.ref a :: rest) h X := fun r hr H locs ls hP hS hl => lv_astore_n C.x C.b hdg hi hl hn rfl (fun ls2 hl2 => k r hr H locs ls2 hP hS (by rw [← hs]; exact asc_set1 hok hl2))
theorem pw_astore {w : Wd} {x : Cz} {cc : ByteArray} {own : String} {d pc : Nat} {lv : List (Option Value)} {rest : List Value} {h : Hp} {X : Option Rs} {lv2 : List (Option Value)} {i : Nat} {a : Nat} (C : Ok w x cc own d) (hdg : decode cc pc = .ok (.astore i, 2)) (hn : i < xN x) (hok : okst lv i = true) (hs : lv.set i (some (.ref a)) = lv2) (k : PW w x (pc + 2) lv2 rest h X) : PW w x pc lv (.ref a :: rest) h X := fun r hr H locs ls hP hS hl => lv_astore C.x C.b hdg hl hn rfl (fun ls2 hl2 => k r hr H locs ls2 hP hS (by rw [← hs]; exact asc_set1 hok hl2))
theorem pw_lstore_n {w : Wd} {x : Cz} {cc : ByteArray} {own : String} {d pc : Nat} {lv : List (Option Value)} {rest : List Value} {h : Hp} {X : Option Rs} {lv2 : List (Option Value)} {k4 : Fin 4} {i : Nat} {a : Int64} (C : Ok w x cc own d) (hdg : decode cc pc = .ok (.lstore_n k4, 1)) (hi : (k4 : Nat) = i) (hn : i + 1 < xN x) (hok : okst lv i = true) (hs : (lv.set i (some (.long a))).set (i + 1) none = lv2) (k : PW w x (pc + 1) lv2 rest h X) : PW w x pc lv (.long a :: rest) h X := fun r hr H locs ls hP hS hl => lv_lstore_n C.x C.b hdg hi hl hn rfl (fun ls2 hl2 => k r hr H locs ls2 hP hS (by rw [← hs]; exact asc_set2 hok hl2))
theorem pw_lstore {w : Wd} {x : Cz} {cc : ByteArray} {own : String} {d pc : Nat} {lv : List (Option Value)} {rest : List Value} {h : Hp} {X : Option Rs} {lv2 : List (Option Value)} {i : Nat} {a : Int64} (C : Ok w x cc own d) (hdg : decode cc pc = .ok (.lstore i, 2)) (hn : i + 1 < xN x) (hok : okst lv i = true) (hs : (lv.set i (some (.long a))).set (i + 1) none = lv2) (k : PW w x (pc + 2) lv2 rest h X) : PW w x pc lv (.long a :: rest) h X := fun r hr H locs ls hP hS hl => lv_lstore C.x C.b hdg hl hn rfl (fun ls2 hl2 => k r hr H locs ls2 hP hS (by rw [← hs]; exact asc_set2 hok hl2))
theorem pw_iinc {w : Wd} {x : Cz} {cc : ByteArray} {own : String} {d pc : Nat} {lv : List (Option Value)} {rest : List Value} {h : Hp} {X : Option Rs} {lv2 : List (Option Value)} {i : Nat} {n : Int} {a v : Int32} (C : Ok w x cc own d) (hdg : decode cc pc = .ok (.iinc i n, 3)) (hv : lv[i]? = some (some (.int a))) (hw : a + Int32.ofInt n = v) (hn : i < xN x) (hok : okst lv i = true) (hs : lv.set i (some (.int v)) = lv2) (k : PW w x (pc + 3) lv2 rest h X) : PW w x pc lv rest h X := fun r hr H locs ls hP hS hl => by
  obtain ⟨j, hj⟩ := List.getElem?_of_mem ((asc_mem lv 0 (i, .int a)).mpr ⟨Nat.zero_le _, by simpa using hv⟩)
  exact lv_iinc C.x C.b hdg hl hj hw hn rfl (fun ls2 hl2 => k r hr H locs ls2 hP hS (by rw [← hs]; exact asc_set1 hok hl2))
theorem i_nlt {a b : Int32} (h : b ≤ a) : ¬ a < b := by rw [Int32.lt_iff_toInt_lt]; rw [Int32.le_iff_toInt_le] at h; omega
theorem i_nle {a b : Int32} (h : ¬ b ≤ a) : a < b := by rw [Int32.lt_iff_toInt_lt]; rw [Int32.le_iff_toInt_le] at h; omega
theorem pw_if_eq {w : Wd} {x : Cz} {cc : ByteArray} {own : String} {d pc : Nat} {lv : List (Option Value)} {rest : List Value} {h : Hp} {X Y : Option Rs} {a : Int32} {off : Int} {tgt : Nat} (C : Ok w x cc own d) (hdg : decode cc pc = .ok (.ifCond .eq off, 3)) (ht : (pc : Int) + off = (tgt : Int)) (kt : a = 0 → PW w x tgt lv rest h X) (kf : ¬ (a = 0) → PW w x (pc + 3) lv rest h Y) : PW w x pc lv (.int a :: rest) h (if a = 0 then X else Y) := fun r hr H locs ls hP hS hl => lv_if_eq C.x C.b hdg ht (fun hc => kt (hc) r (by rw [if_pos (hc)] at hr; exact hr) H locs ls hP hS hl) (fun hc => kf (hc) r (by rw [if_neg (hc)] at hr; exact hr) H locs ls hP hS hl)
theorem pw_if_ne {w : Wd} {x : Cz} {cc : ByteArray} {own : String} {d pc : Nat} {lv : List (Option Value)} {rest : List Value} {h : Hp} {X Y : Option Rs} {a : Int32} {off : Int} {tgt : Nat} (C : Ok w x cc own d) (hdg : decode cc pc = .ok (.ifCond .ne off, 3)) (ht : (pc : Int) + off = (tgt : Int)) (kf : a = 0 → PW w x (pc + 3) lv rest h X) (kt : ¬ (a = 0) → PW w x tgt lv rest h Y) : PW w x pc lv (.int a :: rest) h (if a = 0 then X else Y) := fun r hr H locs ls hP hS hl => lv_if_ne C.x C.b hdg ht (fun hc => kt (hc) r (by rw [if_neg (hc)] at hr; exact hr) H locs ls hP hS hl) (fun hc => kf (hc) r (by rw [if_pos (hc)] at hr; exact hr) H locs ls hP hS hl)
theorem pw_if_lt {w : Wd} {x : Cz} {cc : ByteArray} {own : String} {d pc : Nat} {lv : List (Option Value)} {rest : List Value} {h : Hp} {X Y : Option Rs} {a : Int32} {off : Int} {tgt : Nat} (C : Ok w x cc own d) (hdg : decode cc pc = .ok (.ifCond .lt off, 3)) (ht : (pc : Int) + off = (tgt : Int)) (kt : a < 0 → PW w x tgt lv rest h X) (kf : ¬ (a < 0) → PW w x (pc + 3) lv rest h Y) : PW w x pc lv (.int a :: rest) h (if a < 0 then X else Y) := fun r hr H locs ls hP hS hl => lv_if_lt C.x C.b hdg ht (fun hc => kt (hc) r (by rw [if_pos (hc)] at hr; exact hr) H locs ls hP hS hl) (fun hc => kf (hc) r (by rw [if_neg (hc)] at hr; exact hr) H locs ls hP hS hl)
theorem pw_if_ge {w : Wd} {x : Cz} {cc : ByteArray} {own : String} {d pc : Nat} {lv : List (Option Value)} {rest : List Value} {h : Hp} {X Y : Option Rs} {a : Int32} {off : Int} {tgt : Nat} (C : Ok w x cc own d) (hdg : decode cc pc = .ok (.ifCond .ge off, 3)) (ht : (pc : Int) + off = (tgt : Int)) (kf : a < 0 → PW w x (pc + 3) lv rest h X) (kt : ¬ (a < 0) → PW w x tgt lv rest h Y) : PW w x pc lv (.int a :: rest) h (if a < 0 then X else Y) := fun r hr H locs ls hP hS hl => lv_if_ge C.x C.b hdg ht (fun hc => kt (i_nlt hc) r (by rw [if_neg (i_nlt hc)] at hr; exact hr) H locs ls hP hS hl) (fun hc => kf (i_nle hc) r (by rw [if_pos (i_nle hc)] at hr; exact hr) H locs ls hP hS hl)
theorem pw_if_gt {w : Wd} {x : Cz} {cc : ByteArray} {own : String} {d pc : Nat} {lv : List (Option Value)} {rest : List Value} {h : Hp} {X Y : Option Rs} {a : Int32} {off : Int} {tgt : Nat} (C : Ok w x cc own d) (hdg : decode cc pc = .ok (.ifCond .gt off, 3)) (ht : (pc : Int) + off = (tgt : Int)) (kt : 0 < a → PW w x tgt lv rest h X) (kf : ¬ (0 < a) → PW w x (pc + 3) lv rest h Y) : PW w x pc lv (.int a :: rest) h (if 0 < a then X else Y) := fun r hr H locs ls hP hS hl => lv_if_gt C.x C.b hdg ht (fun hc => kt (hc) r (by rw [if_pos (hc)] at hr; exact hr) H locs ls hP hS hl) (fun hc => kf (hc) r (by rw [if_neg (hc)] at hr; exact hr) H locs ls hP hS hl)
theorem pw_if_le {w : Wd} {x : Cz} {cc : ByteArray} {own : String} {d pc : Nat} {lv : List (Option Value)} {rest : List Value} {h : Hp} {X Y : Option Rs} {a : Int32} {off : Int} {tgt : Nat} (C : Ok w x cc own d) (hdg : decode cc pc = .ok (.ifCond .le off, 3)) (ht : (pc : Int) + off = (tgt : Int)) (kf : 0 < a → PW w x (pc + 3) lv rest h X) (kt : ¬ (0 < a) → PW w x tgt lv rest h Y) : PW w x pc lv (.int a :: rest) h (if 0 < a then X else Y) := fun r hr H locs ls hP hS hl => lv_if_le C.x C.b hdg ht (fun hc => kt (i_nlt hc) r (by rw [if_neg (i_nlt hc)] at hr; exact hr) H locs ls hP hS hl) (fun hc => kf (i_nle hc) r (by rw [if_pos (i_nle hc)] at hr; exact hr) H locs ls hP hS hl)
theorem pw_icmp_eq {w : Wd} {x : Cz} {cc : ByteArray} {own : String} {d pc : Nat} {lv : List (Option Value)} {rest : List Value} {h : Hp} {X Y : Option Rs} {a b : Int32} {off : Int} {tgt : Nat} (C : Ok w x cc own d) (hdg : decode cc pc = .ok (.if_icmp .eq off, 3)) (ht : (pc : Int) + off = (tgt : Int)) (kt : a = b → PW w x tgt lv rest h X) (kf : ¬ (a = b) → PW w x (pc + 3) lv rest h Y) : PW w x pc lv (.int b :: .int a :: rest) h (if a = b then X else Y) := fun r hr H locs ls hP hS hl => lv_icmp_eq C.x C.b hdg ht (fun hc => kt (hc) r (by rw [if_pos (hc)] at hr; exact hr) H locs ls hP hS hl) (fun hc => kf (hc) r (by rw [if_neg (hc)] at hr; exact hr) H locs ls hP hS hl)
theorem pw_icmp_ne {w : Wd} {x : Cz} {cc : ByteArray} {own : String} {d pc : Nat} {lv : List (Option Value)} {rest : List Value} {h : Hp} {X Y : Option Rs} {a b : Int32} {off : Int} {tgt : Nat} (C : Ok w x cc own d) (hdg : decode cc pc = .ok (.if_icmp .ne off, 3)) (ht : (pc : Int) + off = (tgt : Int)) (kf : a = b → PW w x (pc + 3) lv rest h X) (kt : ¬ (a = b) → PW w x tgt lv rest h Y) : PW w x pc lv (.int b :: .int a :: rest) h (if a = b then X else Y) := fun r hr H locs ls hP hS hl => lv_icmp_ne C.x C.b hdg ht (fun hc => kt (hc) r (by rw [if_neg (hc)] at hr; exact hr) H locs ls hP hS hl) (fun hc => kf (hc) r (by rw [if_pos (hc)] at hr; exact hr) H locs ls hP hS hl)
theorem pw_icmp_lt {w : Wd} {x : Cz} {cc : ByteArray} {own : String} {d pc : Nat} {lv : List (Option Value)} {rest : List Value} {h : Hp} {X Y : Option Rs} {a b : Int32} {off : Int} {tgt : Nat} (C : Ok w x cc own d) (hdg : decode cc pc = .ok (.if_icmp .lt off, 3)) (ht : (pc : Int) + off = (tgt : Int)) (kt : a < b → PW w x tgt lv rest h X) (kf : ¬ (a < b) → PW w x (pc + 3) lv rest h Y) : PW w x pc lv (.int b :: .int a :: rest) h (if a < b then X else Y) := fun r hr H locs ls hP hS hl => lv_icmp_lt C.x C.b hdg ht (fun hc => kt (hc) r (by rw [if_pos (hc)] at hr; exact hr) H locs ls hP hS hl) (fun hc => kf (hc) r (by rw [if_neg (hc)] at hr; exact hr) H locs ls hP hS hl)
theorem pw_icmp_ge {w : Wd} {x : Cz} {cc : ByteArray} {own : String} {d pc : Nat} {lv : List (Option Value)} {rest : List Value} {h : Hp} {X Y : Option Rs} {a b : Int32} {off : Int} {tgt : Nat} (C : Ok w x cc own d) (hdg : decode cc pc = .ok (.if_icmp .ge off, 3)) (ht : (pc : Int) + off = (tgt : Int)) (kf : a < b → PW w x (pc + 3) lv rest h X) (kt : ¬ (a < b) → PW w x tgt lv rest h Y) : PW w x pc lv (.int b :: .int a :: rest) h (if a < b then X else Y) := fun r hr H locs ls hP hS hl => lv_icmp_ge C.x C.b hdg ht (fun hc => kt (i_nlt hc) r (by rw [if_neg (i_nlt hc)] at hr; exact hr) H locs ls hP hS hl) (fun hc => kf (i_nle hc) r (by rw [if_pos (i_nle hc)] at hr; exact hr) H locs ls hP hS hl)
theorem pw_icmp_gt {w : Wd} {x : Cz} {cc : ByteArray} {own : String} {d pc : Nat} {lv : List (Option Value)} {rest : List Value} {h : Hp} {X Y : Option Rs} {a b : Int32} {off : Int} {tgt : Nat} (C : Ok w x cc own d) (hdg : decode cc pc = .ok (.if_icmp .gt off, 3)) (ht : (pc : Int) + off = (tgt : Int)) (kt : b < a → PW w x tgt lv rest h X) (kf : ¬ (b < a) → PW w x (pc + 3) lv rest h Y) : PW w x pc lv (.int b :: .int a :: rest) h (if b < a then X else Y) := fun r hr H locs ls hP hS hl => lv_icmp_gt C.x C.b hdg ht (fun hc => kt (hc) r (by rw [if_pos (hc)] at hr; exact hr) H locs ls hP hS hl) (fun hc => kf (hc) r (by rw [if_neg (hc)] at hr; exact hr) H locs ls hP hS hl)
theorem pw_icmp_le {w : Wd} {x : Cz} {cc : ByteArray} {own : String} {d pc : Nat} {lv : List (Option Value)} {rest : List Value} {h : Hp} {X Y : Option Rs} {a b : Int32} {off : Int} {tgt : Nat} (C : Ok w x cc own d) (hdg : decode cc pc = .ok (.if_icmp .le off, 3)) (ht : (pc : Int) + off = (tgt : Int)) (kf : b < a → PW w x (pc + 3) lv rest h X) (kt : ¬ (b < a) → PW w x tgt lv rest h Y) : PW w x pc lv (.int b :: .int a :: rest) h (if b < a then X else Y) := fun r hr H locs ls hP hS hl => lv_icmp_le C.x C.b hdg ht (fun hc => kt (i_nlt hc) r (by rw [if_neg (i_nlt hc)] at hr; exact hr) H locs ls hP hS hl) (fun hc => kf (i_nle hc) r (by rw [if_pos (i_nle hc)] at hr; exact hr) H locs ls hP hS hl)
theorem pw_goto {w : Wd} {x : Cz} {cc : ByteArray} {own : String} {d pc : Nat} {lv : List (Option Value)} {rest : List Value} {h : Hp} {X : Option Rs} {off : Int} {tgt : Nat} (C : Ok w x cc own d) (hdg : decode cc pc = .ok (.goto off, 3)) (ht : (pc : Int) + off = (tgt : Int)) (k : PW w x tgt lv rest h X) : PW w x pc lv rest h X := fun r hr H locs ls hP hS hl => lv_goto C.x C.b hdg ht (k r hr H locs ls hP hS hl)
theorem pw_ite {w : Wd} {x : Cz} {pc : Nat} {lv : List (Option Value)} {h : Hp} {X Y : Option Rs} {st : List Value} {c : Prop} {dc : Decidable c} (kt : c → PW w x pc lv st h X) (kf : ¬ c → PW w x pc lv st h Y) : PW w x pc lv st h (if c then X else Y) := fun r hr => by
  by_cases hc : c
  · rw [if_pos hc] at hr; exact kt hc r hr
  · rw [if_neg hc] at hr; exact kf hc r hr
theorem pw_none {w : Wd} {x : Cz} {pc : Nat} {lv : List (Option Value)} {st : List Value} {h : Hp} : PW w x pc lv st h none := fun r hr => by cases hr
theorem pw_tsIn {w : Wd} {x : Cz} {cc : ByteArray} {own : String} {d pc : Nat} {lv : List (Option Value)} {rest : List Value} {h : Hp} {X : Option Rs} {a : Int32} {dflt lo hi : Int} {offs : Array Int} {len : Nat} {off : Int} {tgt : Nat} (C : Ok w x cc own d) (hdg : decode cc pc = .ok (.tableswitch dflt lo hi offs, len)) (h1 : ¬ a.toInt < lo) (h2 : ¬ hi < a.toInt) (ho : offs[(a.toInt - lo).toNat]? = some off) (ht : (pc : Int) + off = (tgt : Int)) (k : PW w x tgt lv rest h X) : PW w x pc lv (.int a :: rest) h X := fun r hr H locs ls hP hS hl => lv_tableIn C.x C.b hdg h1 h2 ho ht (k r hr H locs ls hP hS hl)
theorem pw_tsOut {w : Wd} {x : Cz} {cc : ByteArray} {own : String} {d pc : Nat} {lv : List (Option Value)} {rest : List Value} {h : Hp} {X : Option Rs} {a : Int32} {dflt lo hi : Int} {offs : Array Int} {len : Nat} {tgt : Nat} (C : Ok w x cc own d) (hdg : decode cc pc = .ok (.tableswitch dflt lo hi offs, len)) (ho : a.toInt < lo ∨ hi < a.toInt) (ht : (pc : Int) + dflt = (tgt : Int)) (k : PW w x tgt lv rest h X) : PW w x pc lv (.int a :: rest) h X := fun r hr H locs ls hP hS hl => lv_tableOut C.x C.b hdg ho ht (k r hr H locs ls hP hS hl)
theorem pw_lks {w : Wd} {x : Cz} {cc : ByteArray} {own : String} {d pc : Nat} {lv : List (Option Value)} {rest : List Value} {h : Hp} {X : Option Rs} {a : Int32} {dflt : Int} {ps : Array (Int × Int)} {len : Nat} {off : Int} {tgt : Nat} (C : Ok w x cc own d) (hdg : decode cc pc = .ok (.lookupswitch dflt ps, len)) (hp : (ps.toList.zip (ps.toList.drop 1)).all (fun (a, next) => a.1 < next.1) = true) (ho : Op.lookupswitch.offset ps.toList dflt a.toInt = off) (ht : (pc : Int) + off = (tgt : Int)) (k : PW w x tgt lv rest h X) : PW w x pc lv (.int a :: rest) h X := fun r hr H locs ls hP hS hl => lv_lookup C.x C.b hdg hp ho ht (k r hr H locs ls hP hS hl)
theorem pw_ldc {w : Wd} {x : Cz} {cc : ByteArray} {own : String} {d pc : Nat} {lv : List (Option Value)} {rest : List Value} {h : Hp} {X : Option Rs} {index : Nat} {v : Int32} (C : Ok w x cc own d) (hconst : Cond.constant own index v ∈ TBL) (hdg : decode cc pc = .ok (.ldc index, 2)) (k : PW w x (pc + 2) lv (.int v :: rest) h X) : PW w x pc lv rest h X := fun r hr H locs ls hP hS hl => lv_ldc C.x C.b C.own (C.ts _ hconst) hdg (k r hr H locs ls hP hS hl)
theorem pw_ldcw {w : Wd} {x : Cz} {cc : ByteArray} {own : String} {d pc : Nat} {lv : List (Option Value)} {rest : List Value} {h : Hp} {X : Option Rs} {index : Nat} {v : Int32} (C : Ok w x cc own d) (hconst : Cond.constant own index v ∈ TBL) (hdg : decode cc pc = .ok (.ldc_w index, 3)) (k : PW w x (pc + 3) lv (.int v :: rest) h X) : PW w x pc lv rest h X := fun r hr H locs ls hP hS hl => lv_ldcw C.x C.b C.own (C.ts _ hconst) hdg (k r hr H locs ls hP hS hl)
theorem pw_ldc2 {w : Wd} {x : Cz} {cc : ByteArray} {own : String} {d pc : Nat} {lv : List (Option Value)} {rest : List Value} {h : Hp} {X : Option Rs} {index : Nat} {v : Int64} (C : Ok w x cc own d) (hconst : Cond.constantLong own index v ∈ TBL) (hdg : decode cc pc = .ok (.ldc2_w index, 3)) (k : PW w x (pc + 3) lv (.long v :: rest) h X) : PW w x pc lv rest h X := fun r hr H locs ls hP hS hl => lv_ldc2 C.x C.b C.own (C.ts _ hconst) hdg (k r hr H locs ls hP hS hl)
end
section
section
theorem inT : ∀ (ci : Nat) (q : vw_C), vwCl[ci]? = some q → ∀ w ∈ u_ws q.1 q.2.1 q.2.2, w ∈ TBL := by
  intro ci q hq
  match ci, hq with
  | 0, hq => cases hq; exact fun w h => tbl_in ((by decide +kernel : ∀ w ∈ wsX00, w ∈ lw_tbl) w h) ((by decide +kernel : ∀ w ∈ wsX00, goodWord w = true) w h)
  | 1, hq => cases hq; exact fun w h => tbl_in ((by decide +kernel : ∀ w ∈ wsX10, w ∈ lw_tbl) w h) ((by decide +kernel : ∀ w ∈ wsX10, goodWord w = true) w h)
  | 2, hq => cases hq; exact fun w h => tbl_in ((by decide +kernel : ∀ w ∈ wsX20, w ∈ lw_tbl) w h) ((by decide +kernel : ∀ w ∈ wsX20, goodWord w = true) w h)
  | 3, hq => cases hq; exact fun w h => tbl_in ((by decide +kernel : ∀ w ∈ wsX30, w ∈ lw_tbl) w h) ((by decide +kernel : ∀ w ∈ wsX30, goodWord w = true) w h)
  | 4, hq => cases hq; exact fun w h => tbl_in ((by decide +kernel : ∀ w ∈ wsX40, w ∈ lw_tbl) w h) ((by decide +kernel : ∀ w ∈ wsX40, goodWord w = true) w h)
  | 5, hq => cases hq; exact fun w h => tbl_in ((by decide +kernel : ∀ w ∈ wsX50, w ∈ lw_tbl) w h) ((by decide +kernel : ∀ w ∈ wsX50, goodWord w = true) w h)
  | k + 6, hq => simp [vwCl] at hq
theorem tyT : ∀ (ci : Nat) (q : vw_C), vwCl[ci]? = some q → ∃ ty0 : Nat → FieldType, ∀ k, k < q.2.2 → parseFieldDescriptor (q.2.1 k).2.2.1 = some (ty0 k) := by
  intro ci q hq
  match ci, hq with
  | 0, hq => cases hq; exact ⟨_, tyX0_ok⟩
  | 1, hq => cases hq; exact ⟨_, tyX1_ok⟩
  | 2, hq => cases hq; exact ⟨_, tyX2_ok⟩
  | 3, hq => cases hq; exact ⟨_, tyX3_ok⟩
  | 4, hq => cases hq; exact ⟨_, tyX4_ok⟩
  | 5, hq => cases hq; exact ⟨_, tyX5_ok⟩
  | k + 6, hq => simp [vwCl] at hq
theorem nmT : ∀ (ci : Nat) (q : vw_C), vwCl[ci]? = some q → ∀ a, a < q.2.2 → ∀ b, b < q.2.2 → a ≠ b → (q.2.1 a).2.1 ≠ (q.2.1 b).2.1 := by
  intro ci q hq
  match ci, hq with
  | 0, hq => cases hq; exact nmX0
  | 1, hq => cases hq; exact nmX1
  | 2, hq => cases hq; exact nmX2
  | 3, hq => cases hq; exact nmX3
  | 4, hq => cases hq; exact nmX4
  | 5, hq => cases hq; exact nmX5
  | k + 6, hq => simp [vwCl] at hq

theorem pw_get {w : Wd} {x : Cz} {cc : ByteArray} {own : String} {d pc : Nat} {lv : List (Option Value)} {rest : List Value} {h : Hp} {X : Option Rs} {q ci k N kd index : Nat} {ks : List Nat} {CN : String} {T : u_T} (C : Ok w x cc own d) (hq : w.2.2.1[q]? = some (0, ci, ks)) (hc : vwCl[ci]? = some (CN, T, N)) (hk : k < N) (hkd : ks[k]? = some kd) (hlink : Cond.fieldLink own index (T k).1 (T k).2.1 (T k).2.2.1 ∈ TBL) (hdg : decode cc pc = .ok (.getfield index, 3)) (k2 : PW w x (pc + 3) lv (fv w h q k kd :: rest) h X) : PW w x pc lv (.ref (w.2.1 q) :: rest) h X := fun r hr H locs ls hP hS hl => va_get C.x C.b C.ts (inT ci _ hc) C.own C.K hP q (cls_o hq) hc k hk (C.ts _ hlink) (fun _ h9 => h9) (by rw [fvs_get, hkd]; simp) hdg (k2 r hr H locs ls hP hS hl)
theorem pw_getN {w : Wd} {x : Cz} {cc : ByteArray} {own : String} {d pc : Nat} {lv : List (Option Value)} {rest : List Value} {h : Hp} {X : Option Rs} {q ci k N kd index : Nat} {ks : List Nat} {CN : String} {T : u_T} (C : Ok w x cc own d) (hq : w.2.2.1[q]? = some (0, ci, ks)) (hc : vwCl[ci]? = some (CN, T, N)) (hk : k < N) (hkd : ks[k]? = some kd) (host : String) (hlink : (own, index, (T k).1, (T k).2.1, (T k).2.2.1, host) ∈ nestF) (hdg : decode cc pc = .ok (.getfield index, 3)) (k2 : PW w x (pc + 3) lv (fv w h q k kd :: rest) h X) : PW w x pc lv (.ref (w.2.1 q) :: rest) h X := fun r hr H locs ls hP hS hl => va_getN C.x C.b (host := host) C.ts (inT ci _ hc) C.own C.K hP q (cls_o hq) hc k hk (va_Nw.use rfl (C.st.2.2.2.2.2 _ hlink)) (fun _ h9 => h9) (by rw [fvs_get, hkd]; simp) hdg (k2 r hr H locs ls hP hS hl)
theorem pw_geti {w : Wd} {x : Cz} {cc : ByteArray} {own : String} {d pc : Nat} {lv : List (Option Value)} {rest : List Value} {h : Hp} {X : Option Rs} {q ci k N index : Nat} {ks : List Nat} {CN : String} {T : u_T} (C : Ok w x cc own d) (hq : w.2.2.1[q]? = some (0, ci, ks)) (hc : vwCl[ci]? = some (CN, T, N)) (hk : k < N) (hkd : ks[k]? = some 0) (hlink : Cond.fieldLink own index (T k).1 (T k).2.1 (T k).2.2.1 ∈ TBL) (hdg : decode cc pc = .ok (.getfield index, 3)) (k2 : PW w x (pc + 3) lv (.int (h q k) :: rest) h X) : PW w x pc lv (.ref (w.2.1 q) :: rest) h X := pw_get C hq hc hk hkd hlink hdg k2
theorem pw_getiN {w : Wd} {x : Cz} {cc : ByteArray} {own : String} {d pc : Nat} {lv : List (Option Value)} {rest : List Value} {h : Hp} {X : Option Rs} {q ci k N index : Nat} {ks : List Nat} {CN : String} {T : u_T} (C : Ok w x cc own d) (hq : w.2.2.1[q]? = some (0, ci, ks)) (hc : vwCl[ci]? = some (CN, T, N)) (hk : k < N) (hkd : ks[k]? = some 0) (host : String) (hlink : (own, index, (T k).1, (T k).2.1, (T k).2.2.1, host) ∈ nestF) (hdg : decode cc pc = .ok (.getfield index, 3)) (k2 : PW w x (pc + 3) lv (.int (h q k) :: rest) h X) : PW w x pc lv (.ref (w.2.1 q) :: rest) h X := pw_getN C hq hc hk hkd host hlink hdg k2
theorem pw_getd {w : Wd} {x : Cz} {cc : ByteArray} {own : String} {d pc : Nat} {lv : List (Option Value)} {rest : List Value} {h : Hp} {X : Option Rs} {q ci k N index : Nat} {ks : List Nat} {CN : String} {T : u_T} (C : Ok w x cc own d) (hq : w.2.2.1[q]? = some (0, ci, ks)) (hc : vwCl[ci]? = some (CN, T, N)) (hk : k < N) (hkd : ks[k]? = some 1) (hlink : Cond.fieldLink own index (T k).1 (T k).2.1 (T k).2.2.1 ∈ TBL) (hdg : decode cc pc = .ok (.getfield index, 3)) (k2 : PW w x (pc + 3) lv (.ref (w.2.1 (h q k).toNatClampNeg) :: rest) h X) : PW w x pc lv (.ref (w.2.1 q) :: rest) h X := pw_get C hq hc hk hkd hlink hdg k2
theorem pw_getdN {w : Wd} {x : Cz} {cc : ByteArray} {own : String} {d pc : Nat} {lv : List (Option Value)} {rest : List Value} {h : Hp} {X : Option Rs} {q ci k N index : Nat} {ks : List Nat} {CN : String} {T : u_T} (C : Ok w x cc own d) (hq : w.2.2.1[q]? = some (0, ci, ks)) (hc : vwCl[ci]? = some (CN, T, N)) (hk : k < N) (hkd : ks[k]? = some 1) (host : String) (hlink : (own, index, (T k).1, (T k).2.1, (T k).2.2.1, host) ∈ nestF) (hdg : decode cc pc = .ok (.getfield index, 3)) (k2 : PW w x (pc + 3) lv (.ref (w.2.1 (h q k).toNatClampNeg) :: rest) h X) : PW w x pc lv (.ref (w.2.1 q) :: rest) h X := pw_getN C hq hc hk hkd host hlink hdg k2
theorem pw_getr {w : Wd} {x : Cz} {cc : ByteArray} {own : String} {d pc : Nat} {lv : List (Option Value)} {rest : List Value} {h : Hp} {X : Option Rs} {q ci k N index : Nat} {ks : List Nat} {CN : String} {T : u_T} {q2 : Nat} (C : Ok w x cc own d) (hq : w.2.2.1[q]? = some (0, ci, ks)) (hc : vwCl[ci]? = some (CN, T, N)) (hk : k < N) (hkd : ks[k]? = some (q2 + 2)) (hlink : Cond.fieldLink own index (T k).1 (T k).2.1 (T k).2.2.1 ∈ TBL) (hdg : decode cc pc = .ok (.getfield index, 3)) (k2 : PW w x (pc + 3) lv (.ref (w.2.1 q2) :: rest) h X) : PW w x pc lv (.ref (w.2.1 q) :: rest) h X := pw_get C hq hc hk hkd hlink hdg (by rw [show fv w h q k (q2 + 2) = .ref (w.2.1 q2) from by simp [fv]]; exact k2)
theorem pw_getrN {w : Wd} {x : Cz} {cc : ByteArray} {own : String} {d pc : Nat} {lv : List (Option Value)} {rest : List Value} {h : Hp} {X : Option Rs} {q ci k N index : Nat} {ks : List Nat} {CN : String} {T : u_T} {q2 : Nat} (C : Ok w x cc own d) (hq : w.2.2.1[q]? = some (0, ci, ks)) (hc : vwCl[ci]? = some (CN, T, N)) (hk : k < N) (hkd : ks[k]? = some (q2 + 2)) (host : String) (hlink : (own, index, (T k).1, (T k).2.1, (T k).2.2.1, host) ∈ nestF) (hdg : decode cc pc = .ok (.getfield index, 3)) (k2 : PW w x (pc + 3) lv (.ref (w.2.1 q2) :: rest) h X) : PW w x pc lv (.ref (w.2.1 q) :: rest) h X := pw_getN C hq hc hk hkd host hlink hdg (by rw [show fv w h q k (q2 + 2) = .ref (w.2.1 q2) from by simp [fv]]; exact k2)
theorem pw_puti {w : Wd} {x : Cz} {cc : ByteArray} {own : String} {d pc : Nat} {lv : List (Option Value)} {rest : List Value} {h : Hp} {X : Option Rs} {q ci k N index : Nat} {ks : List Nat} {CN : String} {T : u_T} {a : Int32} (C : Ok w x cc own d) (hq : w.2.2.1[q]? = some (0, ci, ks)) (hc : vwCl[ci]? = some (CN, T, N)) (hk : k < N) (hkd : ks[k]? = some 0) (hlink : Cond.fieldLink own index (T k).1 (T k).2.1 (T k).2.2.1 ∈ TBL) (hdg : decode cc pc = .ok (.putfield index, 3)) (hfin : (T k).2.2.2 = false) (hd : parseFieldDescriptor (T k).2.2.1 = some .int)  (k2 : PW w x (pc + 3) lv rest (hset h q k a) X) : PW w x pc lv (.int a :: .ref (w.2.1 q) :: rest) h X := fun r hr H locs ls hP hS hl => by
  obtain ⟨ty0, hty⟩ := tyT ci _ hc
  refine va_put C.x C.b C.ts (inT ci _ hc) ty0 hty (nmT ci _ hc) C.own C.K hP (C.D h) hS q (cls_o hq) hc k hk (C.ts _ hlink) (fun _ h9 => h9) hfin hd rfl rfl (by rw [fvs_len]; exact (List.getElem?_eq_some_iff.mp hkd).1) hdg (fun H1 locs1 hP1 hD1 hS1 => ?_)
  rw [cls_seto (x := a) hq hkd (by simp [fv, hset_s, upd])] at hP1
  exact k2 r hr H1 locs1 ls hP1 hS1 hl
theorem pw_putz {w : Wd} {x : Cz} {cc : ByteArray} {own : String} {d pc : Nat} {lv : List (Option Value)} {rest : List Value} {h : Hp} {X : Option Rs} {q ci k N index : Nat} {ks : List Nat} {CN : String} {T : u_T} {a : Int32} (C : Ok w x cc own d) (hq : w.2.2.1[q]? = some (0, ci, ks)) (hc : vwCl[ci]? = some (CN, T, N)) (hk : k < N) (hkd : ks[k]? = some 0) (hlink : Cond.fieldLink own index (T k).1 (T k).2.1 (T k).2.2.1 ∈ TBL) (hdg : decode cc pc = .ok (.putfield index, 3)) (hfin : (T k).2.2.2 = false) (hd : parseFieldDescriptor (T k).2.2.1 = some .boolean) (hz : a = 0 ∨ a = 1) (k2 : PW w x (pc + 3) lv rest (hset h q k a) X) : PW w x pc lv (.int a :: .ref (w.2.1 q) :: rest) h X := fun r hr H locs ls hP hS hl => by
  obtain ⟨ty0, hty⟩ := tyT ci _ hc
  refine va_put C.x C.b C.ts (inT ci _ hc) ty0 hty (nmT ci _ hc) C.own C.K hP (C.D h) hS q (cls_o hq) hc k hk (C.ts _ hlink) (fun _ h9 => h9) hfin hd (by rcases hz with e | e <;> subst e <;> rfl) (by rcases hz with e | e <;> subst e <;> rfl) (by rw [fvs_len]; exact (List.getElem?_eq_some_iff.mp hkd).1) hdg (fun H1 locs1 hP1 hD1 hS1 => ?_)
  rw [cls_seto (x := a) hq hkd (by simp [fv, hset_s, upd])] at hP1
  exact k2 r hr H1 locs1 ls hP1 hS1 hl
theorem pw_putd {w : Wd} {x : Cz} {cc : ByteArray} {own : String} {d pc : Nat} {lv : List (Option Value)} {rest : List Value} {h : Hp} {X : Option Rs} {q ci k N index : Nat} {ks : List Nat} {CN : String} {T : u_T} {q2 : Nat} (C : Ok w x cc own d) (hq : w.2.2.1[q]? = some (0, ci, ks)) (hc : vwCl[ci]? = some (CN, T, N)) (hk : k < N) (hkd : ks[k]? = some 1) (hlink : Cond.fieldLink own index (T k).1 (T k).2.1 (T k).2.2.1 ∈ TBL) (hdg : decode cc pc = .ok (.putfield index, 3)) (hfin : (T k).2.2.2 = false) (hd : parseFieldDescriptor (T k).2.2.1 = some (.array .int)) (hq2 : q2 < 2 ^ 31) (k2 : PW w x (pc + 3) lv rest (hset h q k (nI q2)) X) : PW w x pc lv (.ref (w.2.1 q2) :: .ref (w.2.1 q) :: rest) h X := fun r hr H locs ls hP hS hl => by
  obtain ⟨ty0, hty⟩ := tyT ci _ hc
  refine va_put C.x C.b C.ts (inT ci _ hc) ty0 hty (nmT ci _ hc) C.own C.K hP (C.D h) hS q (cls_o hq) hc k hk (C.ts _ hlink) (fun _ h9 => h9) hfin hd rfl rfl (by rw [fvs_len]; exact (List.getElem?_eq_some_iff.mp hkd).1) hdg (fun H1 locs1 hP1 hD1 hS1 => ?_)
  rw [cls_seto (x := (nI q2)) hq hkd (by simp [fv, hset_s, upd, nI_clamp hq2])] at hP1
  exact k2 r hr H1 locs1 ls hP1 hS1 hl
theorem pw_iald {w : Wd} {x : Cz} {cc : ByteArray} {own : String} {d pc : Nat} {lv : List (Option Value)} {rest : List Value} {h : Hp} {X : Option Rs} {q n : Nat} {i : Int32} (C : Ok w x cc own d) (hq : w.2.2.1[q]? = some (1, n, [])) (hdg : decode cc pc = .ok (.iaload, 1)) (k : PW w x (pc + 1) lv (.int (h q i.toNatClampNeg) :: rest) h X) : PW w x pc lv (.int i :: .ref (w.2.1 q) :: rest) h (if 0 ≤ i.toInt ∧ i.toInt < n then X else none) := fun r hr H locs ls hP hS hl => by
  by_cases hc : 0 ≤ i.toInt ∧ i.toInt < n
  · rw [if_pos hc] at hr
    exact va_iald C.x C.b C.K hP q 0 (cls_i hq) rfl (vp_in_iff.mpr hc) hdg (k r hr H locs ls hP hS hl)
  · rw [if_neg hc] at hr; cases hr
theorem pw_cald {w : Wd} {x : Cz} {cc : ByteArray} {own : String} {d pc : Nat} {lv : List (Option Value)} {rest : List Value} {h : Hp} {X : Option Rs} {q n : Nat} {i : Int32} (C : Ok w x cc own d) (hq : w.2.2.1[q]? = some (2, n, [])) (hdg : decode cc pc = .ok (.caload, 1)) (k : PW w x (pc + 1) lv (.int (h q i.toNatClampNeg) :: rest) h X) : PW w x pc lv (.int i :: .ref (w.2.1 q) :: rest) h (if 0 ≤ i.toInt ∧ i.toInt < n then X else none) := fun r hr H locs ls hP hS hl => by
  by_cases hc : 0 ≤ i.toInt ∧ i.toInt < n
  · rw [if_pos hc] at hr
    exact va_cald C.x C.b C.K hP q 1 (cls_c hq) rfl (vp_in_iff.mpr hc) hdg (k r hr H locs ls hP hS hl)
  · rw [if_neg hc] at hr; cases hr
theorem pw_iast {w : Wd} {x : Cz} {cc : ByteArray} {own : String} {d pc : Nat} {lv : List (Option Value)} {rest : List Value} {h : Hp} {X : Option Rs} {q n : Nat} {i a : Int32} (C : Ok w x cc own d) (hq : w.2.2.1[q]? = some (1, n, [])) (hdg : decode cc pc = .ok (.iastore, 1)) (k : PW w x (pc + 1) lv rest (hset h q i.toNatClampNeg a) X) : PW w x pc lv (.int a :: .int i :: .ref (w.2.1 q) :: rest) h (if 0 ≤ i.toInt ∧ i.toInt < n then X else none) := fun r hr H locs ls hP hS hl => by
  by_cases hc : 0 ≤ i.toInt ∧ i.toInt < n
  · rw [if_pos hc] at hr
    refine va_iast C.x C.b C.K hP (C.D h) hS q 0 (cls_i hq) rfl (vp_in_iff.mpr hc) hdg (fun H1 locs1 hP1 hD1 hS1 => ?_)
    rw [cls_seti hq] at hP1
    exact k r hr H1 locs1 ls hP1 hS1 hl
  · rw [if_neg hc] at hr; cases hr
theorem pw_cast {w : Wd} {x : Cz} {cc : ByteArray} {own : String} {d pc : Nat} {lv : List (Option Value)} {rest : List Value} {h : Hp} {X : Option Rs} {q n : Nat} {i a : Int32} (C : Ok w x cc own d) (hq : w.2.2.1[q]? = some (2, n, [])) (hdg : decode cc pc = .ok (.castore, 1)) (k : PW w x (pc + 1) lv rest (hset h q i.toNatClampNeg (vp_nar .char a)) X) : PW w x pc lv (.int a :: .int i :: .ref (w.2.1 q) :: rest) h (if 0 ≤ i.toInt ∧ i.toInt < n then X else none) := fun r hr H locs ls hP hS hl => by
  by_cases hc : 0 ≤ i.toInt ∧ i.toInt < n
  · rw [if_pos hc] at hr
    refine va_cast C.x C.b C.K hP (C.D h) hS q 1 (cls_c hq) rfl (vp_in_iff.mpr hc) hdg (fun H1 locs1 hP1 hD1 hS1 => ?_)
    rw [cls_setc hq] at hP1
    exact k r hr H1 locs1 ls hP1 hS1 hl
  · rw [if_neg hc] at hr; cases hr
theorem pw_ialen {w : Wd} {x : Cz} {cc : ByteArray} {own : String} {d pc : Nat} {lv : List (Option Value)} {rest : List Value} {h : Hp} {X : Option Rs} {q n : Nat} {v : Int32} (C : Ok w x cc own d) (hq : w.2.2.1[q]? = some (1, n, [])) (hv : Int32.ofNat n = v) (hdg : decode cc pc = .ok (.arraylength, 1)) (k : PW w x (pc + 1) lv (.int v :: rest) h X) : PW w x pc lv (.ref (w.2.1 q) :: rest) h X := fun r hr H locs ls hP hS hl => va_alen C.x C.b C.K hP q 0 (cls_i hq) rfl hv hdg (k r hr H locs ls hP hS hl)
theorem pw_calen {w : Wd} {x : Cz} {cc : ByteArray} {own : String} {d pc : Nat} {lv : List (Option Value)} {rest : List Value} {h : Hp} {X : Option Rs} {q n : Nat} {v : Int32} (C : Ok w x cc own d) (hq : w.2.2.1[q]? = some (2, n, [])) (hv : Int32.ofNat n = v) (hdg : decode cc pc = .ok (.arraylength, 1)) (k : PW w x (pc + 1) lv (.int v :: rest) h X) : PW w x pc lv (.ref (w.2.1 q) :: rest) h X := fun r hr H locs ls hP hS hl => va_alen C.x C.b C.K hP q 1 (cls_c hq) rfl hv hdg (k r hr H locs ls hP hS hl)
theorem pw_gets {w : Wd} {x : Cz} {cc : ByteArray} {own : String} {d pc : Nat} {lv : List (Option Value)} {rest : List Value} {h : Hp} {X : Option Rs} {index : Nat} (C : Ok w x cc own d) (hlink : Cond.fieldLink own index "ToldInKnots" "TENS" "[I" ∈ TBL) (hdg : decode cc pc = .ok (.getstatic index, 3)) (k : PW w x (pc + 3) lv (.ref w.2.2.2.2 :: rest) h X) : PW w x pc lv rest h X := fun r hr H locs ls hP hS hl => va_gets C.x C.b C.st.2.2.1 hS C.own (C.ts _ hlink) (fun _ h9 => h9) hdg (k r hr H locs ls hP hS hl)
theorem pw_tlen {w : Wd} {x : Cz} {cc : ByteArray} {own : String} {d pc : Nat} {lv : List (Option Value)} {rest : List Value} {h : Hp} {X : Option Rs} (C : Ok w x cc own d) (hdg : decode cc pc = .ok (.arraylength, 1)) (k : PW w x (pc + 1) lv (.int 6 :: rest) h X) : PW w x pc lv (.ref w.2.2.2.2 :: rest) h X := fun r hr H locs ls hP hS hl => va_tlen C.x C.b C.st.2.2.2.1 hS rfl hdg (k r hr H locs ls hP hS hl)
theorem pw_tld {w : Wd} {x : Cz} {cc : ByteArray} {own : String} {d pc : Nat} {lv : List (Option Value)} {rest : List Value} {h : Hp} {X : Option Rs} {i : Int32} (C : Ok w x cc own d) (hdg : decode cc pc = .ok (.iaload, 1)) (k : PW w x (pc + 1) lv (.int (10 ^ i.toNatClampNeg) :: rest) h X) : PW w x pc lv (.int i :: .ref w.2.2.2.2 :: rest) h (if 0 ≤ i.toInt ∧ i.toInt < (6 : Nat) then X else none) := fun r hr H locs ls hP hS hl => by
  by_cases hc : 0 ≤ i.toInt ∧ i.toInt < (6 : Nat)
  · rw [if_pos hc] at hr
    exact va_ti C.x C.b C.st.2.2.2.1 hS (vp_in_iff.mpr hc) rfl hdg (k r hr H locs ls hP hS hl)
  · rw [if_neg hc] at hr; cases hr
theorem pw_copy {w : Wd} {x : Cz} {cc : ByteArray} {own : String} {d pc : Nat} {lv : List (Option Value)} {rest : List Value} {h : Hp} {X : Option Rs} {q0 q1 n0 n1 index : Nat} {sp dp n : Int32} (C : Ok w x cc own d) (hq0 : w.2.2.1[q0]? = some (1, n0, [])) (hq1 : w.2.2.1[q1]? = some (1, n1, [])) (hd : 1 ≤ d) (hlink : Cond.methodLink own index arraycopyName ∈ TBL) (hcat : (rest.map fun v => v.category).sum ≤ 8) (hdg : decode cc pc = .ok (.invokestatic index, 3)) (k : PW w x (pc + 3) lv rest (hcpy h q0 q1 sp.toNatClampNeg dp.toNatClampNeg n.toNatClampNeg) X) : PW w x pc lv (.int n :: .int dp :: .ref (w.2.1 q1) :: .int sp :: .ref (w.2.1 q0) :: rest) h (if ((¬ sp < 0 ∧ ¬ dp < 0 ∧ ¬ n < 0) ∧ sp.toNatClampNeg + n.toNatClampNeg ≤ n0 ∧ dp.toNatClampNeg + n.toNatClampNeg ≤ n1) then X else none) := fun r hr H locs ls hP hS hl => by
  by_cases hc : ((¬ sp < 0 ∧ ¬ dp < 0 ∧ ¬ n < 0) ∧ sp.toNatClampNeg + n.toNatClampNeg ≤ n0 ∧ dp.toNatClampNeg + n.toNatClampNeg ≤ n1)
  · rw [if_pos hc] at hr
    obtain ⟨⟨h1, h2, h3⟩, h4, h5⟩ := hc
    have hrm := C.rm
    refine va_copyi C.x C.b (C.ml.trans hl.1.symm) C.own (C.ts _ hlink) (C.ts _ (tbl_in (by decide +kernel) rfl)) (C.ts _ (tbl_in (by decide +kernel) rfl)) (C.ts _ (tbl_in (by decide +kernel) rfl)) C.K hP (C.D h) hS q0 q1 0 0 (cls_i hq0) (cls_i hq1) rfl rfl rfl h1 h2 h3 h4 h5 (fun _ _ => rfl) (by omega) ?_ hdg (fun H1 locs1 hP1 hD1 hS1 => ?_)
    · have : nativeFrameWords "java/lang/System" "arraycopy" 5 + 11 ≤ 32 := by decide +kernel
      omega
    rw [cls_setcp hq1] at hP1
    exact k r hr H1 locs1 ls hP1 hS1 hl
  · rw [if_neg hc] at hr; cases hr
theorem pw_mmax {w : Wd} {x : Cz} {cc : ByteArray} {own : String} {d pc : Nat} {lv : List (Option Value)} {rest : List Value} {h : Hp} {X : Option Rs} {index : Nat} {a b : Int32} (C : Ok w x cc own d) (hd : 1 ≤ d) (hlink : Cond.methodLink own index Lib.Math.max.name ∈ TBL) (hcat : (rest.map fun v => v.category).sum ≤ 8) (hdg : decode cc pc = .ok (.invokestatic index, 3)) (k : PW w x (pc + 3) lv (.int (if a < b then b else a) :: rest) h X) : PW w x pc lv (.int b :: .int a :: rest) h X := fun r hr H locs ls hP hS hl => by
  have hrm := C.rm
  exact va_mmax C.x C.b (C.ml.trans hl.1.symm) C.own (C.ts _ hlink) (C.ts _ (tbl_in (by decide +kernel) rfl)) (C.ts _ (tbl_in (by decide +kernel) rfl)) (C.ts _ (tbl_in (by decide +kernel) rfl)) (by omega) (by omega) hrm.2.2.1 hrm.2.2.2 hdg (k r hr H locs ls hP hS hl)
theorem pw_mmin {w : Wd} {x : Cz} {cc : ByteArray} {own : String} {d pc : Nat} {lv : List (Option Value)} {rest : List Value} {h : Hp} {X : Option Rs} {index : Nat} {a b : Int32} (C : Ok w x cc own d) (hd : 1 ≤ d) (hlink : Cond.methodLink own index Lib.Math.min.name ∈ TBL) (hcat : (rest.map fun v => v.category).sum ≤ 8) (hdg : decode cc pc = .ok (.invokestatic index, 3)) (k : PW w x (pc + 3) lv (.int (if b < a then b else a) :: rest) h X) : PW w x pc lv (.int b :: .int a :: rest) h X := fun r hr H locs ls hP hS hl => by
  have hrm := C.rm
  exact va_mmin C.x C.b (C.ml.trans hl.1.symm) C.own (C.ts _ hlink) (C.ts _ (tbl_in (by decide +kernel) rfl)) (C.ts _ (tbl_in (by decide +kernel) rfl)) (C.ts _ (tbl_in (by decide +kernel) rfl)) (by omega) (by omega) hrm.2.2.1 hrm.2.2.2 hdg (k r hr H locs ls hP hS hl)
theorem pw_mabs {w : Wd} {x : Cz} {cc : ByteArray} {own : String} {d pc : Nat} {lv : List (Option Value)} {rest : List Value} {h : Hp} {X : Option Rs} {index : Nat} {a : Int32} (C : Ok w x cc own d) (hd : 1 ≤ d) (hlink : Cond.methodLink own index Lib.Math.abs.name ∈ TBL) (hcat : (rest.map fun v => v.category).sum ≤ 8) (hdg : decode cc pc = .ok (.invokestatic index, 3)) (k : PW w x (pc + 3) lv (.int (if 0 ≤ a then a else 0 - a) :: rest) h X) : PW w x pc lv (.int a :: rest) h X := fun r hr H locs ls hP hS hl => by
  have hrm := C.rm
  exact va_mabs C.x C.b (C.ml.trans hl.1.symm) C.own (C.ts _ hlink) (C.ts _ (tbl_in (by decide +kernel) rfl)) (C.ts _ (tbl_in (by decide +kernel) rfl)) (C.ts _ (tbl_in (by decide +kernel) rfl)) (by omega) (by omega) hrm.2.2.1 hrm.2.2.2 hdg (k r hr H locs ls hP hS hl)
def CW (y : MethodName) (b : ByteArray) (n : Nat) (ret : Option FieldType) (na : Nat) : Prop := Cond.code y b n ret ∈ TBL ∧ Cond.initialized y.cls ∈ TBL ∧ (y.cls ≠ "java/lang/invoke/MethodHandle" ∧ y.cls ≠ "java/lang/invoke/VarHandle") ∧ (parseMethodDescriptor y.desc).map (fun d => d.parameters.length) = some na
theorem cw_good {y : MethodName} {b : ByteArray} {n : Nat} {ret : Option FieldType} {na : Nat} (h : CW y b n ret na) : GoodIn TBL (.code y b n ret :: TBL) := fun w hw => by
  rcases List.mem_cons.mp hw with e | e
  · subst e; exact ⟨h.1, tbl_good h.1⟩
  · exact ⟨e, tbl_good e⟩
theorem cw_callB {R : Room} {s : State} {args : Array Value} {own : String} {index : Nat} {y : MethodName} {b : ByteArray} {n : Nat} {ret : Option FieldType} {na dc d : Nat} (ht : ∀ w ∈ TBL, w.before args s = true) (h : CW y b n ret na) (hl : Cond.methodLink own index y ∈ TBL) (hd : dc < d ∧ n ≤ 21) (hR : d ≤ R.frames ∧ 40 * d ≤ R.locals) :
    CallB R s args own index y b n ret (.code y b n ret :: TBL) (rmd dc) 0 0 na :=
  callB_of na ht (cw_good h) rfl rfl rfl (ht _ h.2.1) (ht _ hl) ⟨h.2.2.1.1, h.2.2.1.2, h.2.2.2⟩ (by simp only [rmd]; omega)
theorem cw_callN {R : Room} {s : State} {args : Array Value} {own : String} {index : Nat} {y : MethodName} {host : String} {b : ByteArray} {n : Nat} {ret : Option FieldType} {na dc d : Nat} (ht : ∀ w ∈ TBL, w.before args s = true) (h : CW y b n ret na) (hN : NW s) (hl : (own, index, y, host) ∈ nestM) (hd : dc < d ∧ n ≤ 21) (hR : d ≤ R.frames ∧ 40 * d ≤ R.locals) :
    va_CN R s args own index y host b n ret (.code y b n ret :: TBL) (rmd dc) 0 0 na :=
  va_cnB na ht (cw_good h) rfl rfl rfl (hN _ hl) (ht _ h.2.1) ⟨h.2.2.1.1, h.2.2.1.2, h.2.2.2⟩ (by simp only [rmd]; omega)
theorem pre_S {w : Wd} {x : Cz} {cc : ByteArray} {own : String} {d : Nat} {h : Hp} {H : Heap} {locs : List Loc} {as : List Value} (C : Ok w x cc own d) (hP : va_P w.1 vwCl (cls w h) H) (hS : va_S (xA x) (xs x).heap H locs) : PreS (xs x) H (va_Pc as (PreW w (xA x) h)) as :=
  ⟨PreW.blind, fun U hU hW => ⟨rfl, by rw [hU]; exact hP, C.st.at hS hU hW⟩⟩
theorem pre_V {w : Wd} {x : Cz} {cc : ByteArray} {own : String} {d : Nat} {h : Hp} {H : Heap} {locs : List Loc} {as : List Value} {q ci N : Nat} {ks : List Nat} {CN : String} {T : u_T} (C : Ok w x cc own d) (hP : va_P w.1 vwCl (cls w h) H) (hS : va_S (xA x) (xs x).heap H locs) (hq : w.2.2.1[q]? = some (0, ci, ks)) (hc : vwCl[ci]? = some (CN, T, N)) : PreV (xs x) H CN (w.2.1 q) (va_Pc (.ref (w.2.1 q) :: as) (PreW w (xA x) h)) as :=
  ⟨PreW.blind, va_recv C.K hP hc (cls_o hq), fun U hU hW => ⟨rfl, by rw [hU]; exact hP, C.st.at hS hU hW⟩⟩

theorem pw_callSi {w : Wd} {x : Cz} {cc : ByteArray} {own : String} {d pc : Nat} {lv : List (Option Value)} {rest : List Value} {h : Hp}  {y : MethodName} {b : ByteArray} {n na dc index : Nat} {as st0 : List Value} {g : Option Rs} {K : Rs → Option Rs} {rt : FieldType} (C : Ok w x cc own d) (hdg : decode cc pc = .ok (.invokestatic index, 3)) (hl : Cond.methodLink own index y ∈ TBL) (hy : CW y b n (some rt) na) (hst : Cond.static y ∈ TBL) (hd : dc < d ∧ n ≤ 21) (hcon : ConI (xl x) y b n rt dc w (xA x) as h g) (has : as.length = na) (hstk : st0 = as.reverse ++ rest) (hcat : (rest.map fun v => v.category).sum ≤ 8) (k : ∀ (v : Int32) (h2 : Hp), g = some (v, h2) → PW w x (pc + 3) lv (.int v :: rest) h2 (K (v, h2))) : PW w x pc lv st0 h (g.bind K) := fun r hr H locs ls hP hS hl2 => by
  obtain ⟨r0, hg, hK⟩ := Option.bind_eq_some_iff.mp hr
  refine va_calli (va_runS ⟨C.x, C.b, C.ml, C.own, C.ts⟩ (hcon r0 hg) ⟨cw_callB C.ts hy hl hd ⟨C.rm.1, C.rm.2.1⟩, C.ts _ hst⟩ (pre_S C hP hS) rfl has hl2.1 hstk (lv_room hcat) hdg ⟨C.rm.2.2.1, C.rm.2.2.2⟩) hS (fun q _ h => h) (fun q h => h) (fun v u t H1 locs1 ht hvm hp hB hz hk1 hS1 => ?_)
  rw [ht] at hB
  subst hp
  exact k r0.1 r0.2 hg r hK H1 locs1 ls hB hS1 hl2
theorem pw_callSv {w : Wd} {x : Cz} {cc : ByteArray} {own : String} {d pc : Nat} {lv : List (Option Value)} {rest : List Value} {h : Hp}  {y : MethodName} {b : ByteArray} {n na dc index : Nat} {as st0 : List Value} {g : Option Rs} {K : Rs → Option Rs} (C : Ok w x cc own d) (hdg : decode cc pc = .ok (.invokestatic index, 3)) (hl : Cond.methodLink own index y ∈ TBL) (hy : CW y b n none na) (hst : Cond.static y ∈ TBL) (hd : dc < d ∧ n ≤ 21) (hcon : ConV (xl x) y b n dc w (xA x) as h g) (has : as.length = na) (hstk : st0 = as.reverse ++ rest) (hcat : (rest.map fun v => v.category).sum ≤ 8) (k : ∀ (v : Int32) (h2 : Hp), g = some (v, h2) → PW w x (pc + 3) lv rest h2 (K (v, h2))) : PW w x pc lv st0 h (g.bind K) := fun r hr H locs ls hP hS hl2 => by
  obtain ⟨r0, hg, hK⟩ := Option.bind_eq_some_iff.mp hr
  refine va_callv (va_runS ⟨C.x, C.b, C.ml, C.own, C.ts⟩ (hcon r0 hg) ⟨cw_callB C.ts hy hl hd ⟨C.rm.1, C.rm.2.1⟩, C.ts _ hst⟩ (pre_S C hP hS) rfl has hl2.1 hstk (lv_room hcat) hdg ⟨C.rm.2.2.1, C.rm.2.2.2⟩) hS (fun q _ h => h) (fun q h => h) (fun u t H1 locs1 ht hvm hp hB hz hk1 hS1 => ?_)
  rw [ht] at hB
  exact k r0.1 r0.2 hg r hK H1 locs1 ls hB hS1 hl2
theorem pw_callVi {w : Wd} {x : Cz} {cc : ByteArray} {own : String} {d pc : Nat} {lv : List (Option Value)} {rest : List Value} {h : Hp}  {y : MethodName} {b : ByteArray} {n na dc index : Nat} {as st0 : List Value} {g : Option Rs} {K : Rs → Option Rs} {rt : FieldType} {q ci N : Nat} {ks : List Nat} {T : u_T} (C : Ok w x cc own d) (hdg : decode cc pc = .ok (.invokevirtual index, 3)) (hl : Cond.methodLink own index y ∈ TBL) (hy : CW y b n (some rt) na) (hi : Cond.instanceMethod y ∈ TBL) (hsel : Cond.selects y.cls y y ∈ TBL) (hq : w.2.2.1[q]? = some (0, ci, ks)) (hc : vwCl[ci]? = some (y.cls, T, N)) (hd : dc < d ∧ n ≤ 21) (hcon : ConI (xl x) y b n rt dc w (xA x) (.ref (w.2.1 q) :: as) h g) (has : as.length = na) (hstk : st0 = as.reverse ++ .ref (w.2.1 q) :: rest) (hcat : (rest.map fun v => v.category).sum ≤ 8) (k : ∀ (v : Int32) (h2 : Hp), g = some (v, h2) → PW w x (pc + 3) lv (.int v :: rest) h2 (K (v, h2))) : PW w x pc lv st0 h (g.bind K) := fun r hr H locs ls hP hS hl2 => by
  obtain ⟨r0, hg, hK⟩ := Option.bind_eq_some_iff.mp hr
  refine va_calli (va_runV ⟨C.x, C.b, C.ml, C.own, C.ts⟩ (hcon r0 hg) ⟨cw_callB C.ts hy hl hd ⟨C.rm.1, C.rm.2.1⟩, C.ts _ hi, C.ts _ hsel⟩ (pre_V C hP hS hq hc) rfl has hl2.1 hstk (lv_room hcat) hdg ⟨C.rm.2.2.1, C.rm.2.2.2⟩) hS (fun q _ h => h) (fun q h => h) (fun v u t H1 locs1 ht hvm hp hB hz hk1 hS1 => ?_)
  rw [ht] at hB
  subst hp
  exact k r0.1 r0.2 hg r hK H1 locs1 ls hB hS1 hl2
theorem pw_callVv {w : Wd} {x : Cz} {cc : ByteArray} {own : String} {d pc : Nat} {lv : List (Option Value)} {rest : List Value} {h : Hp}  {y : MethodName} {b : ByteArray} {n na dc index : Nat} {as st0 : List Value} {g : Option Rs} {K : Rs → Option Rs} {q ci N : Nat} {ks : List Nat} {T : u_T} (C : Ok w x cc own d) (hdg : decode cc pc = .ok (.invokevirtual index, 3)) (hl : Cond.methodLink own index y ∈ TBL) (hy : CW y b n none na) (hi : Cond.instanceMethod y ∈ TBL) (hsel : Cond.selects y.cls y y ∈ TBL) (hq : w.2.2.1[q]? = some (0, ci, ks)) (hc : vwCl[ci]? = some (y.cls, T, N)) (hd : dc < d ∧ n ≤ 21) (hcon : ConV (xl x) y b n dc w (xA x) (.ref (w.2.1 q) :: as) h g) (has : as.length = na) (hstk : st0 = as.reverse ++ .ref (w.2.1 q) :: rest) (hcat : (rest.map fun v => v.category).sum ≤ 8) (k : ∀ (v : Int32) (h2 : Hp), g = some (v, h2) → PW w x (pc + 3) lv rest h2 (K (v, h2))) : PW w x pc lv st0 h (g.bind K) := fun r hr H locs ls hP hS hl2 => by
  obtain ⟨r0, hg, hK⟩ := Option.bind_eq_some_iff.mp hr
  refine va_callv (va_runV ⟨C.x, C.b, C.ml, C.own, C.ts⟩ (hcon r0 hg) ⟨cw_callB C.ts hy hl hd ⟨C.rm.1, C.rm.2.1⟩, C.ts _ hi, C.ts _ hsel⟩ (pre_V C hP hS hq hc) rfl has hl2.1 hstk (lv_room hcat) hdg ⟨C.rm.2.2.1, C.rm.2.2.2⟩) hS (fun q _ h => h) (fun q h => h) (fun u t H1 locs1 ht hvm hp hB hz hk1 hS1 => ?_)
  rw [ht] at hB
  exact k r0.1 r0.2 hg r hK H1 locs1 ls hB hS1 hl2
theorem pw_callSNi {w : Wd} {x : Cz} {cc : ByteArray} {own : String} {d pc : Nat} {lv : List (Option Value)} {rest : List Value} {h : Hp}  {y : MethodName} {b : ByteArray} {n na dc index : Nat} {as st0 : List Value} {g : Option Rs} {K : Rs → Option Rs} {rt : FieldType} {host : String} (C : Ok w x cc own d) (hdg : decode cc pc = .ok (.invokestatic index, 3)) (hl : (own, index, y, host) ∈ nestM) (hy : CW y b n (some rt) na) (hst : Cond.static y ∈ TBL) (hd : dc < d ∧ n ≤ 21) (hcon : ConI (xl x) y b n rt dc w (xA x) as h g) (has : as.length = na) (hstk : st0 = as.reverse ++ rest) (hcat : (rest.map fun v => v.category).sum ≤ 8) (k : ∀ (v : Int32) (h2 : Hp), g = some (v, h2) → PW w x (pc + 3) lv (.int v :: rest) h2 (K (v, h2))) : PW w x pc lv st0 h (g.bind K) := fun r hr H locs ls hP hS hl2 => by
  obtain ⟨r0, hg, hK⟩ := Option.bind_eq_some_iff.mp hr
  refine va_calli (va_runSN ⟨C.x, C.b, C.ml, C.own, C.ts⟩ (hcon r0 hg) ⟨cw_callN C.ts hy C.st.2.2.2.2.1 hl hd ⟨C.rm.1, C.rm.2.1⟩, C.ts _ hst, trivial⟩ (pre_S C hP hS) rfl has hl2.1 hstk (lv_room hcat) hdg ⟨C.rm.2.2.1, C.rm.2.2.2⟩) hS (fun q _ h => h) (fun q h => h) (fun v u t H1 locs1 ht hvm hp hB hz hk1 hS1 => ?_)
  rw [ht] at hB
  subst hp
  exact k r0.1 r0.2 hg r hK H1 locs1 ls hB hS1 hl2
theorem pw_callSNv {w : Wd} {x : Cz} {cc : ByteArray} {own : String} {d pc : Nat} {lv : List (Option Value)} {rest : List Value} {h : Hp}  {y : MethodName} {b : ByteArray} {n na dc index : Nat} {as st0 : List Value} {g : Option Rs} {K : Rs → Option Rs} {host : String} (C : Ok w x cc own d) (hdg : decode cc pc = .ok (.invokestatic index, 3)) (hl : (own, index, y, host) ∈ nestM) (hy : CW y b n none na) (hst : Cond.static y ∈ TBL) (hd : dc < d ∧ n ≤ 21) (hcon : ConV (xl x) y b n dc w (xA x) as h g) (has : as.length = na) (hstk : st0 = as.reverse ++ rest) (hcat : (rest.map fun v => v.category).sum ≤ 8) (k : ∀ (v : Int32) (h2 : Hp), g = some (v, h2) → PW w x (pc + 3) lv rest h2 (K (v, h2))) : PW w x pc lv st0 h (g.bind K) := fun r hr H locs ls hP hS hl2 => by
  obtain ⟨r0, hg, hK⟩ := Option.bind_eq_some_iff.mp hr
  refine va_callv (va_runSN ⟨C.x, C.b, C.ml, C.own, C.ts⟩ (hcon r0 hg) ⟨cw_callN C.ts hy C.st.2.2.2.2.1 hl hd ⟨C.rm.1, C.rm.2.1⟩, C.ts _ hst, trivial⟩ (pre_S C hP hS) rfl has hl2.1 hstk (lv_room hcat) hdg ⟨C.rm.2.2.1, C.rm.2.2.2⟩) hS (fun q _ h => h) (fun q h => h) (fun u t H1 locs1 ht hvm hp hB hz hk1 hS1 => ?_)
  rw [ht] at hB
  exact k r0.1 r0.2 hg r hK H1 locs1 ls hB hS1 hl2
theorem pw_callVNi {w : Wd} {x : Cz} {cc : ByteArray} {own : String} {d pc : Nat} {lv : List (Option Value)} {rest : List Value} {h : Hp}  {y : MethodName} {b : ByteArray} {n na dc index : Nat} {as st0 : List Value} {g : Option Rs} {K : Rs → Option Rs} {rt : FieldType} {q ci N : Nat} {ks : List Nat} {T : u_T} {host : String} (C : Ok w x cc own d) (hdg : decode cc pc = .ok (.invokevirtual index, 3)) (hl : (own, index, y, host) ∈ nestM) (hy : CW y b n (some rt) na) (hi : Cond.instanceMethod y ∈ TBL) (hsel : Cond.selects y.cls y y ∈ TBL) (hq : w.2.2.1[q]? = some (0, ci, ks)) (hc : vwCl[ci]? = some (y.cls, T, N)) (hd : dc < d ∧ n ≤ 21) (hcon : ConI (xl x) y b n rt dc w (xA x) (.ref (w.2.1 q) :: as) h g) (has : as.length = na) (hstk : st0 = as.reverse ++ .ref (w.2.1 q) :: rest) (hcat : (rest.map fun v => v.category).sum ≤ 8) (k : ∀ (v : Int32) (h2 : Hp), g = some (v, h2) → PW w x (pc + 3) lv (.int v :: rest) h2 (K (v, h2))) : PW w x pc lv st0 h (g.bind K) := fun r hr H locs ls hP hS hl2 => by
  obtain ⟨r0, hg, hK⟩ := Option.bind_eq_some_iff.mp hr
  refine va_calli (va_runVN ⟨C.x, C.b, C.ml, C.own, C.ts⟩ (hcon r0 hg) ⟨cw_callN C.ts hy C.st.2.2.2.2.1 hl hd ⟨C.rm.1, C.rm.2.1⟩, C.ts _ hi, C.ts _ hsel⟩ (pre_V C hP hS hq hc) rfl has hl2.1 hstk (lv_room hcat) hdg ⟨C.rm.2.2.1, C.rm.2.2.2⟩) hS (fun q _ h => h) (fun q h => h) (fun v u t H1 locs1 ht hvm hp hB hz hk1 hS1 => ?_)
  rw [ht] at hB
  subst hp
  exact k r0.1 r0.2 hg r hK H1 locs1 ls hB hS1 hl2
theorem pw_callVNv {w : Wd} {x : Cz} {cc : ByteArray} {own : String} {d pc : Nat} {lv : List (Option Value)} {rest : List Value} {h : Hp}  {y : MethodName} {b : ByteArray} {n na dc index : Nat} {as st0 : List Value} {g : Option Rs} {K : Rs → Option Rs} {q ci N : Nat} {ks : List Nat} {T : u_T} {host : String} (C : Ok w x cc own d) (hdg : decode cc pc = .ok (.invokevirtual index, 3)) (hl : (own, index, y, host) ∈ nestM) (hy : CW y b n none na) (hi : Cond.instanceMethod y ∈ TBL) (hsel : Cond.selects y.cls y y ∈ TBL) (hq : w.2.2.1[q]? = some (0, ci, ks)) (hc : vwCl[ci]? = some (y.cls, T, N)) (hd : dc < d ∧ n ≤ 21) (hcon : ConV (xl x) y b n dc w (xA x) (.ref (w.2.1 q) :: as) h g) (has : as.length = na) (hstk : st0 = as.reverse ++ .ref (w.2.1 q) :: rest) (hcat : (rest.map fun v => v.category).sum ≤ 8) (k : ∀ (v : Int32) (h2 : Hp), g = some (v, h2) → PW w x (pc + 3) lv rest h2 (K (v, h2))) : PW w x pc lv st0 h (g.bind K) := fun r hr H locs ls hP hS hl2 => by
  obtain ⟨r0, hg, hK⟩ := Option.bind_eq_some_iff.mp hr
  refine va_callv (va_runVN ⟨C.x, C.b, C.ml, C.own, C.ts⟩ (hcon r0 hg) ⟨cw_callN C.ts hy C.st.2.2.2.2.1 hl hd ⟨C.rm.1, C.rm.2.1⟩, C.ts _ hi, C.ts _ hsel⟩ (pre_V C hP hS hq hc) rfl has hl2.1 hstk (lv_room hcat) hdg ⟨C.rm.2.2.1, C.rm.2.2.2⟩) hS (fun q _ h => h) (fun q h => h) (fun u t H1 locs1 ht hvm hp hB hz hk1 hS1 => ?_)
  rw [ht] at hB
  exact k r0.1 r0.2 hg r hK H1 locs1 ls hB hS1 hl2
theorem pw_callSp {w : Wd} {x : Cz} {cc : ByteArray} {own : String} {d pc : Nat} {lv : List (Option Value)} {rest : List Value} {h : Hp}  {y : MethodName} {b : ByteArray} {n na dc index : Nat} {as st0 : List Value}  {rt : FieldType} {g : Option Int32} {K : Int32 → Option Rs} (C : Ok w x cc own d) (hdg : decode cc pc = .ok (.invokestatic index, 3)) (hl : Cond.methodLink own index y ∈ TBL) (hy : CW y b n (some rt) na) (hst : Cond.static y ∈ TBL) (hd : dc < d ∧ n ≤ 21) (hcon : ConI (xl x) y b n rt dc w (xA x) as h (g.map (fun v => (v, h)))) (has : as.length = na) (hstk : st0 = as.reverse ++ rest) (hcat : (rest.map fun v => v.category).sum ≤ 8) (k : ∀ v : Int32, PW w x (pc + 3) lv (.int v :: rest) h (K v)) : PW w x pc lv st0 h (g.bind K) := by
  intro r hr
  obtain ⟨v0, hg, hK⟩ := Option.bind_eq_some_iff.mp hr
  subst hg
  exact pw_callSi (g := some (v0, h)) (K := fun _ => K v0) C hdg hl hy hst hd hcon has hstk hcat (fun v h2 e => by cases e; exact k v0) r hK
theorem pw_callSt {w : Wd} {x : Cz} {cc : ByteArray} {own : String} {d pc : Nat} {lv : List (Option Value)} {rest : List Value} {h : Hp}  {y : MethodName} {b : ByteArray} {n na dc index : Nat} {as st0 : List Value}  {rt : FieldType} {g : Int32} {X : Option Rs} (C : Ok w x cc own d) (hdg : decode cc pc = .ok (.invokestatic index, 3)) (hl : Cond.methodLink own index y ∈ TBL) (hy : CW y b n (some rt) na) (hst : Cond.static y ∈ TBL) (hd : dc < d ∧ n ≤ 21) (hcon : ConI (xl x) y b n rt dc w (xA x) as h (some (g, h))) (has : as.length = na) (hstk : st0 = as.reverse ++ rest) (hcat : (rest.map fun v => v.category).sum ≤ 8) (k : PW w x (pc + 3) lv (.int g :: rest) h X) : PW w x pc lv st0 h X := by
  intro r hr
  exact pw_callSi (g := some (g, h)) (K := fun _ => X) C hdg hl hy hst hd hcon has hstk hcat (fun v h2 e => by cases e; exact k) r hr
theorem pw_callVp {w : Wd} {x : Cz} {cc : ByteArray} {own : String} {d pc : Nat} {lv : List (Option Value)} {rest : List Value} {h : Hp}  {y : MethodName} {b : ByteArray} {n na dc index : Nat} {as st0 : List Value}  {rt : FieldType} {q ci N : Nat} {ks : List Nat} {T : u_T} {g : Option Int32} {K : Int32 → Option Rs} (C : Ok w x cc own d) (hdg : decode cc pc = .ok (.invokevirtual index, 3)) (hl : Cond.methodLink own index y ∈ TBL) (hy : CW y b n (some rt) na) (hi : Cond.instanceMethod y ∈ TBL) (hsel : Cond.selects y.cls y y ∈ TBL) (hq : w.2.2.1[q]? = some (0, ci, ks)) (hc : vwCl[ci]? = some (y.cls, T, N)) (hd : dc < d ∧ n ≤ 21) (hcon : ConI (xl x) y b n rt dc w (xA x) (.ref (w.2.1 q) :: as) h (g.map (fun v => (v, h)))) (has : as.length = na) (hstk : st0 = as.reverse ++ .ref (w.2.1 q) :: rest) (hcat : (rest.map fun v => v.category).sum ≤ 8) (k : ∀ v : Int32, PW w x (pc + 3) lv (.int v :: rest) h (K v)) : PW w x pc lv st0 h (g.bind K) := by
  intro r hr
  obtain ⟨v0, hg, hK⟩ := Option.bind_eq_some_iff.mp hr
  subst hg
  exact pw_callVi (g := some (v0, h)) (K := fun _ => K v0) C hdg hl hy hi hsel hq hc hd hcon has hstk hcat (fun v h2 e => by cases e; exact k v0) r hK
theorem pw_callVt {w : Wd} {x : Cz} {cc : ByteArray} {own : String} {d pc : Nat} {lv : List (Option Value)} {rest : List Value} {h : Hp}  {y : MethodName} {b : ByteArray} {n na dc index : Nat} {as st0 : List Value}  {rt : FieldType} {q ci N : Nat} {ks : List Nat} {T : u_T} {g : Int32} {X : Option Rs} (C : Ok w x cc own d) (hdg : decode cc pc = .ok (.invokevirtual index, 3)) (hl : Cond.methodLink own index y ∈ TBL) (hy : CW y b n (some rt) na) (hi : Cond.instanceMethod y ∈ TBL) (hsel : Cond.selects y.cls y y ∈ TBL) (hq : w.2.2.1[q]? = some (0, ci, ks)) (hc : vwCl[ci]? = some (y.cls, T, N)) (hd : dc < d ∧ n ≤ 21) (hcon : ConI (xl x) y b n rt dc w (xA x) (.ref (w.2.1 q) :: as) h (some (g, h))) (has : as.length = na) (hstk : st0 = as.reverse ++ .ref (w.2.1 q) :: rest) (hcat : (rest.map fun v => v.category).sum ≤ 8) (k : PW w x (pc + 3) lv (.int g :: rest) h X) : PW w x pc lv st0 h X := by
  intro r hr
  exact pw_callVi (g := some (g, h)) (K := fun _ => X) C hdg hl hy hi hsel hq hc hd hcon has hstk hcat (fun v h2 e => by cases e; exact k) r hr
theorem pw_callSNp {w : Wd} {x : Cz} {cc : ByteArray} {own : String} {d pc : Nat} {lv : List (Option Value)} {rest : List Value} {h : Hp}  {y : MethodName} {b : ByteArray} {n na dc index : Nat} {as st0 : List Value}  {rt : FieldType} {host : String} {g : Option Int32} {K : Int32 → Option Rs} (C : Ok w x cc own d) (hdg : decode cc pc = .ok (.invokestatic index, 3)) (hl : (own, index, y, host) ∈ nestM) (hy : CW y b n (some rt) na) (hst : Cond.static y ∈ TBL) (hd : dc < d ∧ n ≤ 21) (hcon : ConI (xl x) y b n rt dc w (xA x) as h (g.map (fun v => (v, h)))) (has : as.length = na) (hstk : st0 = as.reverse ++ rest) (hcat : (rest.map fun v => v.category).sum ≤ 8) (k : ∀ v : Int32, PW w x (pc + 3) lv (.int v :: rest) h (K v)) : PW w x pc lv st0 h (g.bind K) := by
  intro r hr
  obtain ⟨v0, hg, hK⟩ := Option.bind_eq_some_iff.mp hr
  subst hg
  exact pw_callSNi (g := some (v0, h)) (K := fun _ => K v0) C hdg hl hy hst hd hcon has hstk hcat (fun v h2 e => by cases e; exact k v0) r hK
theorem pw_callSNt {w : Wd} {x : Cz} {cc : ByteArray} {own : String} {d pc : Nat} {lv : List (Option Value)} {rest : List Value} {h : Hp}  {y : MethodName} {b : ByteArray} {n na dc index : Nat} {as st0 : List Value}  {rt : FieldType} {host : String} {g : Int32} {X : Option Rs} (C : Ok w x cc own d) (hdg : decode cc pc = .ok (.invokestatic index, 3)) (hl : (own, index, y, host) ∈ nestM) (hy : CW y b n (some rt) na) (hst : Cond.static y ∈ TBL) (hd : dc < d ∧ n ≤ 21) (hcon : ConI (xl x) y b n rt dc w (xA x) as h (some (g, h))) (has : as.length = na) (hstk : st0 = as.reverse ++ rest) (hcat : (rest.map fun v => v.category).sum ≤ 8) (k : PW w x (pc + 3) lv (.int g :: rest) h X) : PW w x pc lv st0 h X := by
  intro r hr
  exact pw_callSNi (g := some (g, h)) (K := fun _ => X) C hdg hl hy hst hd hcon has hstk hcat (fun v h2 e => by cases e; exact k) r hr
theorem pw_callVNp {w : Wd} {x : Cz} {cc : ByteArray} {own : String} {d pc : Nat} {lv : List (Option Value)} {rest : List Value} {h : Hp}  {y : MethodName} {b : ByteArray} {n na dc index : Nat} {as st0 : List Value}  {rt : FieldType} {q ci N : Nat} {ks : List Nat} {T : u_T} {host : String} {g : Option Int32} {K : Int32 → Option Rs} (C : Ok w x cc own d) (hdg : decode cc pc = .ok (.invokevirtual index, 3)) (hl : (own, index, y, host) ∈ nestM) (hy : CW y b n (some rt) na) (hi : Cond.instanceMethod y ∈ TBL) (hsel : Cond.selects y.cls y y ∈ TBL) (hq : w.2.2.1[q]? = some (0, ci, ks)) (hc : vwCl[ci]? = some (y.cls, T, N)) (hd : dc < d ∧ n ≤ 21) (hcon : ConI (xl x) y b n rt dc w (xA x) (.ref (w.2.1 q) :: as) h (g.map (fun v => (v, h)))) (has : as.length = na) (hstk : st0 = as.reverse ++ .ref (w.2.1 q) :: rest) (hcat : (rest.map fun v => v.category).sum ≤ 8) (k : ∀ v : Int32, PW w x (pc + 3) lv (.int v :: rest) h (K v)) : PW w x pc lv st0 h (g.bind K) := by
  intro r hr
  obtain ⟨v0, hg, hK⟩ := Option.bind_eq_some_iff.mp hr
  subst hg
  exact pw_callVNi (g := some (v0, h)) (K := fun _ => K v0) C hdg hl hy hi hsel hq hc hd hcon has hstk hcat (fun v h2 e => by cases e; exact k v0) r hK
theorem pw_callVNt {w : Wd} {x : Cz} {cc : ByteArray} {own : String} {d pc : Nat} {lv : List (Option Value)} {rest : List Value} {h : Hp}  {y : MethodName} {b : ByteArray} {n na dc index : Nat} {as st0 : List Value}  {rt : FieldType} {q ci N : Nat} {ks : List Nat} {T : u_T} {host : String} {g : Int32} {X : Option Rs} (C : Ok w x cc own d) (hdg : decode cc pc = .ok (.invokevirtual index, 3)) (hl : (own, index, y, host) ∈ nestM) (hy : CW y b n (some rt) na) (hi : Cond.instanceMethod y ∈ TBL) (hsel : Cond.selects y.cls y y ∈ TBL) (hq : w.2.2.1[q]? = some (0, ci, ks)) (hc : vwCl[ci]? = some (y.cls, T, N)) (hd : dc < d ∧ n ≤ 21) (hcon : ConI (xl x) y b n rt dc w (xA x) (.ref (w.2.1 q) :: as) h (some (g, h))) (has : as.length = na) (hstk : st0 = as.reverse ++ .ref (w.2.1 q) :: rest) (hcat : (rest.map fun v => v.category).sum ≤ 8) (k : PW w x (pc + 3) lv (.int g :: rest) h X) : PW w x pc lv st0 h X := by
  intro r hr
  exact pw_callVNi (g := some (g, h)) (K := fun _ => X) C hdg hl hy hi hsel hq hc hd hcon has hstk hcat (fun v h2 e => by cases e; exact k) r hr
theorem pw_callSw {w : Wd} {x : Cz} {cc : ByteArray} {own : String} {d pc : Nat} {lv : List (Option Value)} {rest : List Value} {h : Hp}  {y : MethodName} {b : ByteArray} {n na dc index : Nat} {as st0 : List Value}  {h2 : Hp} {X : Option Rs} (C : Ok w x cc own d) (hdg : decode cc pc = .ok (.invokestatic index, 3)) (hl : Cond.methodLink own index y ∈ TBL) (hy : CW y b n none na) (hst : Cond.static y ∈ TBL) (hd : dc < d ∧ n ≤ 21) (hcon : ConV (xl x) y b n dc w (xA x) as h (some (0, h2))) (has : as.length = na) (hstk : st0 = as.reverse ++ rest) (hcat : (rest.map fun v => v.category).sum ≤ 8) (k : PW w x (pc + 3) lv rest h2 X) : PW w x pc lv st0 h X := by
  intro r hr
  exact pw_callSv (g := some (0, h2)) (K := fun _ => X) C hdg hl hy hst hd hcon has hstk hcat (fun v h3 e => by cases e; exact k) r hr
theorem pw_callVw {w : Wd} {x : Cz} {cc : ByteArray} {own : String} {d pc : Nat} {lv : List (Option Value)} {rest : List Value} {h : Hp}  {y : MethodName} {b : ByteArray} {n na dc index : Nat} {as st0 : List Value}  {q ci N : Nat} {ks : List Nat} {T : u_T} {h2 : Hp} {X : Option Rs} (C : Ok w x cc own d) (hdg : decode cc pc = .ok (.invokevirtual index, 3)) (hl : Cond.methodLink own index y ∈ TBL) (hy : CW y b n none na) (hi : Cond.instanceMethod y ∈ TBL) (hsel : Cond.selects y.cls y y ∈ TBL) (hq : w.2.2.1[q]? = some (0, ci, ks)) (hc : vwCl[ci]? = some (y.cls, T, N)) (hd : dc < d ∧ n ≤ 21) (hcon : ConV (xl x) y b n dc w (xA x) (.ref (w.2.1 q) :: as) h (some (0, h2))) (has : as.length = na) (hstk : st0 = as.reverse ++ .ref (w.2.1 q) :: rest) (hcat : (rest.map fun v => v.category).sum ≤ 8) (k : PW w x (pc + 3) lv rest h2 X) : PW w x pc lv st0 h X := by
  intro r hr
  exact pw_callVv (g := some (0, h2)) (K := fun _ => X) C hdg hl hy hi hsel hq hc hd hcon has hstk hcat (fun v h3 e => by cases e; exact k) r hr
theorem pw_callSNw {w : Wd} {x : Cz} {cc : ByteArray} {own : String} {d pc : Nat} {lv : List (Option Value)} {rest : List Value} {h : Hp}  {y : MethodName} {b : ByteArray} {n na dc index : Nat} {as st0 : List Value}  {host : String} {h2 : Hp} {X : Option Rs} (C : Ok w x cc own d) (hdg : decode cc pc = .ok (.invokestatic index, 3)) (hl : (own, index, y, host) ∈ nestM) (hy : CW y b n none na) (hst : Cond.static y ∈ TBL) (hd : dc < d ∧ n ≤ 21) (hcon : ConV (xl x) y b n dc w (xA x) as h (some (0, h2))) (has : as.length = na) (hstk : st0 = as.reverse ++ rest) (hcat : (rest.map fun v => v.category).sum ≤ 8) (k : PW w x (pc + 3) lv rest h2 X) : PW w x pc lv st0 h X := by
  intro r hr
  exact pw_callSNv (g := some (0, h2)) (K := fun _ => X) C hdg hl hy hst hd hcon has hstk hcat (fun v h3 e => by cases e; exact k) r hr
theorem pw_callVNw {w : Wd} {x : Cz} {cc : ByteArray} {own : String} {d pc : Nat} {lv : List (Option Value)} {rest : List Value} {h : Hp}  {y : MethodName} {b : ByteArray} {n na dc index : Nat} {as st0 : List Value}  {q ci N : Nat} {ks : List Nat} {T : u_T} {host : String} {h2 : Hp} {X : Option Rs} (C : Ok w x cc own d) (hdg : decode cc pc = .ok (.invokevirtual index, 3)) (hl : (own, index, y, host) ∈ nestM) (hy : CW y b n none na) (hi : Cond.instanceMethod y ∈ TBL) (hsel : Cond.selects y.cls y y ∈ TBL) (hq : w.2.2.1[q]? = some (0, ci, ks)) (hc : vwCl[ci]? = some (y.cls, T, N)) (hd : dc < d ∧ n ≤ 21) (hcon : ConV (xl x) y b n dc w (xA x) (.ref (w.2.1 q) :: as) h (some (0, h2))) (has : as.length = na) (hstk : st0 = as.reverse ++ .ref (w.2.1 q) :: rest) (hcat : (rest.map fun v => v.category).sum ≤ 8) (k : PW w x (pc + 3) lv rest h2 X) : PW w x pc lv st0 h X := by
  intro r hr
  exact pw_callVNv (g := some (0, h2)) (K := fun _ => X) C hdg hl hy hi hsel hq hc hd hcon has hstk hcat (fun v h3 e => by cases e; exact k) r hr
theorem pw_iret {w : Wd} {x : Cz} {cc : ByteArray} {own : String} {d pc : Nat} {lv : List (Option Value)} {h : Hp} {v : Int32} (C : Ok w x cc own d) (hR : OkI w x .int) (hdg : decode cc pc = .ok (.ireturn, 1)) : PW w x pc lv [.int v] h (some (v, h)) := fun r hr H locs ls hP hS hl => by
  cases hr
  rw [hR.2]
  exact W.iret C.x C.b hR.1 (fun t ht hW => ⟨⟨v, (), rfl, rfl, by show va_P _ _ _ t.heap; rw [ht]; exact hP⟩, hS.F ht⟩) hS.2.2 hdg C.lk
theorem pw_zret {w : Wd} {x : Cz} {cc : ByteArray} {own : String} {d pc : Nat} {lv : List (Option Value)} {h : Hp} {v : Int32} (C : Ok w x cc own d) (hR : OkI w x .boolean) (hdg : decode cc pc = .ok (.ireturn, 1)) : PW w x pc lv [.int v] h (if v = 0 ∨ v = 1 then some (v, h) else none) := fun r hr H locs ls hP hS hl => by
  by_cases hc : v = 0 ∨ v = 1
  · rw [if_pos hc] at hr
    cases hr
    rw [hR.2]
    exact W.zret C.x C.b hR.1 (by rcases hc with e | e <;> subst e <;> rfl) (fun t ht hW => ⟨⟨v, (), rfl, rfl, by show va_P _ _ _ t.heap; rw [ht]; exact hP⟩, hS.F ht⟩) hS.2.2 hdg C.lk
  · rw [if_neg hc] at hr; cases hr
theorem pw_zret' {w : Wd} {x : Cz} {cc : ByteArray} {own : String} {d pc : Nat} {lv : List (Option Value)} {h : Hp} {v : Int32} (C : Ok w x cc own d) (hR : OkI w x .boolean) (hdg : decode cc pc = .ok (.ireturn, 1)) (hv : v = 0 ∨ v = 1) : PW w x pc lv [.int v] h (some (v, h)) := by
  have := pw_zret (lv := lv) (h := h) (v := v) C hR hdg
  rwa [if_pos hv] at this
theorem pw_vret {w : Wd} {x : Cz} {cc : ByteArray} {own : String} {d pc : Nat} {lv : List (Option Value)} {h : Hp} (C : Ok w x cc own d) (hR : OkV w x) (hdg : decode cc pc = .ok (.return_, 1)) : PW w x pc lv [] h (some (0, h)) := fun r hr H locs ls hP hS hl => by
  cases hr
  rw [hR.2]
  exact W.vret C.x C.b hR.1 (fun t ht hW => ⟨⟨(), rfl, trivial, by show va_P _ _ _ t.heap; rw [ht]; exact hP⟩, hS.F ht⟩) hS.2.2 hdg C.lk
theorem ConI.of {l : Launch} {y : MethodName} {b : ByteArray} {n : Nat} {rt : FieldType} {d : Nat} {w : Wd} {A : Nat → Prop} {as : List Value} {h : Hp} {res : Option Rs} {lv0 : List (Option Value)} (hpl : plainName y.cls = true) (hn : (lg_sl as).length ≤ n) (hlv : lv_args 0 as = asc 0 lv0) (k : ∀ x : Cz, Ok w x b y.cls d → OkI w x rt → xN x = n → PW w x 0 lv0 [] h res) : ConI l y b n rt d w A as h res := by
  intro r hr
  refine Met.ofW (cc := b) (maxL := n) (ret := some rt) hpl rfl ?_
  intro p e s m args below meth c s₁ B hml hv
  obtain ⟨rfl, hP, hSt⟩ := hv
  have hts := atoms_spec (ws := .code y b n (some rt) :: TBL) B.pre
  have C : Ok w (p, l, e, (headSpec (.code y b n (some rt) :: TBL) (rmd d)).room, s, m, as.toArray, below, meth, c, A, n, 0, 0, fun r => MQ below (va_Qi (fun v (_ : Unit) => v = r.1) (fun _ t => va_P w.1 vwCl (cls w r.2) t.heap) A) as.toArray s 0 0 A) b y.cls d :=
    ⟨B.exec, B.bytes, hml, findClass_of_methodNamed B.named, fun w hw => hts w (List.mem_cons_of_mem _ hw), B.notSynchronized, ⟨Nat.le_refl _, Nat.le_refl _, Nat.zero_le _, Nat.zero_le _⟩, hSt⟩
  have hl := lv_entry as hn
  rw [lg_entry_eq]
  exact k _ C ⟨B.returns, rfl⟩ rfl r hr s.heap [] _ hP va_S.rf (by rw [← hlv]; exact hl)
theorem ConV.of {l : Launch} {y : MethodName} {b : ByteArray} {n : Nat} {d : Nat} {w : Wd} {A : Nat → Prop} {as : List Value} {h : Hp} {res : Option Rs} {lv0 : List (Option Value)} (hpl : plainName y.cls = true) (hn : (lg_sl as).length ≤ n) (hlv : lv_args 0 as = asc 0 lv0) (k : ∀ x : Cz, Ok w x b y.cls d → OkV w x → xN x = n → PW w x 0 lv0 [] h res) : ConV l y b n d w A as h res := by
  intro r hr
  refine Met.ofW (cc := b) (maxL := n) (ret := none) hpl rfl ?_
  intro p e s m args below meth c s₁ B hml hv
  obtain ⟨rfl, hP, hSt⟩ := hv
  have hts := atoms_spec (ws := .code y b n none :: TBL) B.pre
  have C : Ok w (p, l, e, (headSpec (.code y b n none :: TBL) (rmd d)).room, s, m, as.toArray, below, meth, c, A, n, 0, 0, fun r => MQ below (va_Qv (fun (_ : Unit) => True) (fun _ t => va_P w.1 vwCl (cls w r.2) t.heap) A) as.toArray s 0 0 A) b y.cls d :=
    ⟨B.exec, B.bytes, hml, findClass_of_methodNamed B.named, fun w hw => hts w (List.mem_cons_of_mem _ hw), B.notSynchronized, ⟨Nat.le_refl _, Nat.le_refl _, Nat.zero_le _, Nat.zero_le _⟩, hSt⟩
  have hl := lv_entry as hn
  rw [lg_entry_eq]
  exact k _ C ⟨B.returns, rfl⟩ rfl r hr s.heap [] _ hP va_S.rf (by rw [← hlv]; exact hl)
theorem PW.eq {w : Wd} {x : Cz} {pc : Nat} {lv : List (Option Value)} {st : List Value} {h : Hp} {X Y : Option Rs} (e : X = Y) (k : PW w x pc lv st h Y) : PW w x pc lv st h X := e ▸ k

end
end
