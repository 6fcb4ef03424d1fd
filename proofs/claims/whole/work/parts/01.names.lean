-- ===== PART A: goes FIRST, ahead of the names: the tables' words, and 'selects' of the private methods out of them =====
/-- a private method of a class that the tables say can be made, by its rows of tables_1 -/
def lw_okq (q : MethodName × Nat) : Prop := (q.1.cls ≠ "java/lang/invoke/MethodHandle" ∧ q.1.cls ≠ "java/lang/invoke/VarHandle") ∧ Cond.instantiable q.1.cls q.2 ∈ tables_1 ∧ Cond.privateMethod q.1 ∈ tables_1 ∧ Cond.instanceMethod q.1 ∈ tables_1
theorem lw_p0 : lw_okq (⟨"ToldInKnots$Reader", "takes", "(C)Z"⟩, 5) := ⟨⟨by decide +kernel, by decide +kernel⟩, List.mem_of_getElem? (i := 24) (by decide +kernel), List.mem_of_getElem? (i := 183) (by decide +kernel), List.mem_of_getElem? (i := 184) (by decide +kernel)⟩
theorem lw_p1 : lw_okq (⟨"ToldInKnots$Reader", "opensGroup", "()Z"⟩, 5) := ⟨⟨by decide +kernel, by decide +kernel⟩, List.mem_of_getElem? (i := 24) (by decide +kernel), List.mem_of_getElem? (i := 187) (by decide +kernel), List.mem_of_getElem? (i := 188) (by decide +kernel)⟩
theorem lw_p2 : lw_okq (⟨"ToldInKnots$Reader", "opensCord", "(C)Z"⟩, 5) := ⟨⟨by decide +kernel, by decide +kernel⟩, List.mem_of_getElem? (i := 24) (by decide +kernel), List.mem_of_getElem? (i := 206) (by decide +kernel), List.mem_of_getElem? (i := 207) (by decide +kernel)⟩
theorem lw_p3 : lw_okq (⟨"ToldInKnots$Reader", "opensCluster", "(C)Z"⟩, 5) := ⟨⟨by decide +kernel, by decide +kernel⟩, List.mem_of_getElem? (i := 24) (by decide +kernel), List.mem_of_getElem? (i := 223) (by decide +kernel), List.mem_of_getElem? (i := 224) (by decide +kernel)⟩
theorem lw_p4 : lw_okq (⟨"ToldInKnots$Reader", "endsCluster", "(II)Z"⟩, 5) := ⟨⟨by decide +kernel, by decide +kernel⟩, List.mem_of_getElem? (i := 24) (by decide +kernel), List.mem_of_getElem? (i := 231) (by decide +kernel), List.mem_of_getElem? (i := 232) (by decide +kernel)⟩
theorem lw_p5 : lw_okq (⟨"ToldInKnots$Reader", "opensHanging", "(C)Z"⟩, 5) := ⟨⟨by decide +kernel, by decide +kernel⟩, List.mem_of_getElem? (i := 24) (by decide +kernel), List.mem_of_getElem? (i := 242) (by decide +kernel), List.mem_of_getElem? (i := 243) (by decide +kernel)⟩
theorem lw_p6 : lw_okq (⟨"ToldInKnots$Reader", "comesBehindCord", "(C)Z"⟩, 5) := ⟨⟨by decide +kernel, by decide +kernel⟩, List.mem_of_getElem? (i := 24) (by decide +kernel), List.mem_of_getElem? (i := 246) (by decide +kernel), List.mem_of_getElem? (i := 247) (by decide +kernel)⟩
theorem lw_p7 : lw_okq (⟨"ToldInKnots", "measureRoom", "(I)V"⟩, 11) := ⟨⟨by decide +kernel, by decide +kernel⟩, List.mem_of_getElem? (i := 16) (by decide +kernel), List.mem_of_getElem? (i := 524) (by decide +kernel), List.mem_of_getElem? (i := 525) (by decide +kernel)⟩
theorem lw_p8 : lw_okq (⟨"ToldInKnots", "slipAt", "(III)I"⟩, 11) := ⟨⟨by decide +kernel, by decide +kernel⟩, List.mem_of_getElem? (i := 16) (by decide +kernel), List.mem_of_getElem? (i := 548) (by decide +kernel), List.mem_of_getElem? (i := 549) (by decide +kernel)⟩
theorem lw_p9 : lw_okq (⟨"ToldInKnots$Sets", "spreadLow", "(I)V"⟩, 9) := ⟨⟨by decide +kernel, by decide +kernel⟩, List.mem_of_getElem? (i := 82) (by decide +kernel), List.mem_of_getElem? (i := 596) (by decide +kernel), List.mem_of_getElem? (i := 597) (by decide +kernel)⟩
theorem lw_p10 : lw_okq (⟨"ToldInKnots$Sets", "mergeWith", "(I)V"⟩, 9) := ⟨⟨by decide +kernel, by decide +kernel⟩, List.mem_of_getElem? (i := 82) (by decide +kernel), List.mem_of_getElem? (i := 601) (by decide +kernel), List.mem_of_getElem? (i := 602) (by decide +kernel)⟩
theorem lw_p11 : lw_okq (⟨"ToldInKnots$Sets", "spreadHigh", "()I"⟩, 9) := ⟨⟨by decide +kernel, by decide +kernel⟩, List.mem_of_getElem? (i := 82) (by decide +kernel), List.mem_of_getElem? (i := 605) (by decide +kernel), List.mem_of_getElem? (i := 606) (by decide +kernel)⟩
theorem lw_p12 : lw_okq (⟨"ToldInKnots$Sets", "firstFrom", "(I)I"⟩, 9) := ⟨⟨by decide +kernel, by decide +kernel⟩, List.mem_of_getElem? (i := 82) (by decide +kernel), List.mem_of_getElem? (i := 609) (by decide +kernel), List.mem_of_getElem? (i := 610) (by decide +kernel)⟩
theorem lw_p13 : lw_okq (⟨"ToldInKnots$Sets", "sumAt", "(I)I"⟩, 9) := ⟨⟨by decide +kernel, by decide +kernel⟩, List.mem_of_getElem? (i := 82) (by decide +kernel), List.mem_of_getElem? (i := 613) (by decide +kernel), List.mem_of_getElem? (i := 614) (by decide +kernel)⟩
theorem lw_p14 : lw_okq (⟨"ToldInKnots$Sets", "better", "(IIIII)I"⟩, 9) := ⟨⟨by decide +kernel, by decide +kernel⟩, List.mem_of_getElem? (i := 82) (by decide +kernel), List.mem_of_getElem? (i := 617) (by decide +kernel), List.mem_of_getElem? (i := 618) (by decide +kernel)⟩
theorem lw_p15 : lw_okq (⟨"ToldInKnots$Sets", "bitsAt", "(I)I"⟩, 9) := ⟨⟨by decide +kernel, by decide +kernel⟩, List.mem_of_getElem? (i := 82) (by decide +kernel), List.mem_of_getElem? (i := 622) (by decide +kernel), List.mem_of_getElem? (i := 623) (by decide +kernel)⟩
def lw_privs_1 : List (MethodName × Nat) := [(⟨"ToldInKnots$Reader", "takes", "(C)Z"⟩, 5), (⟨"ToldInKnots$Reader", "opensGroup", "()Z"⟩, 5), (⟨"ToldInKnots$Reader", "opensCord", "(C)Z"⟩, 5), (⟨"ToldInKnots$Reader", "opensCluster", "(C)Z"⟩, 5), (⟨"ToldInKnots$Reader", "endsCluster", "(II)Z"⟩, 5), (⟨"ToldInKnots$Reader", "opensHanging", "(C)Z"⟩, 5), (⟨"ToldInKnots$Reader", "comesBehindCord", "(C)Z"⟩, 5), (⟨"ToldInKnots", "measureRoom", "(I)V"⟩, 11), (⟨"ToldInKnots", "slipAt", "(III)I"⟩, 11), (⟨"ToldInKnots$Sets", "spreadLow", "(I)V"⟩, 9), (⟨"ToldInKnots$Sets", "mergeWith", "(I)V"⟩, 9), (⟨"ToldInKnots$Sets", "spreadHigh", "()I"⟩, 9), (⟨"ToldInKnots$Sets", "firstFrom", "(I)I"⟩, 9), (⟨"ToldInKnots$Sets", "sumAt", "(I)I"⟩, 9), (⟨"ToldInKnots$Sets", "better", "(IIIII)I"⟩, 9), (⟨"ToldInKnots$Sets", "bitsAt", "(I)I"⟩, 9)]
theorem lw_r1 : ∀ q ∈ lw_privs_1, lw_okq q := List.forall_mem_cons.mpr ⟨lw_p0, List.forall_mem_cons.mpr ⟨lw_p1, List.forall_mem_cons.mpr ⟨lw_p2, List.forall_mem_cons.mpr ⟨lw_p3, List.forall_mem_cons.mpr ⟨lw_p4, List.forall_mem_cons.mpr ⟨lw_p5, List.forall_mem_cons.mpr ⟨lw_p6, List.forall_mem_cons.mpr ⟨lw_p7, List.forall_mem_cons.mpr ⟨lw_p8, List.forall_mem_cons.mpr ⟨lw_p9, List.forall_mem_cons.mpr ⟨lw_p10, List.forall_mem_cons.mpr ⟨lw_p11, List.forall_mem_cons.mpr ⟨lw_p12, List.forall_mem_cons.mpr ⟨lw_p13, List.forall_mem_cons.mpr ⟨lw_p14, List.forall_mem_cons.mpr ⟨lw_p15, fun _ h => absurd h List.not_mem_nil⟩⟩⟩⟩⟩⟩⟩⟩⟩⟩⟩⟩⟩⟩⟩⟩
theorem lw_p16 : lw_okq (⟨"ToldInKnots$Sets", "asCords", "(I)I"⟩, 9) := ⟨⟨by decide +kernel, by decide +kernel⟩, List.mem_of_getElem? (i := 82) (by decide +kernel), List.mem_of_getElem? (i := 626) (by decide +kernel), List.mem_of_getElem? (i := 627) (by decide +kernel)⟩
theorem lw_p17 : lw_okq (⟨"ToldInKnotsModel", "first", "(IIIIII)V"⟩, 17) := ⟨⟨by decide +kernel, by decide +kernel⟩, List.mem_of_getElem? (i := 706) (by decide +kernel), List.mem_of_getElem? (i := 712) (by decide +kernel), List.mem_of_getElem? (i := 713) (by decide +kernel)⟩
theorem lw_p18 : lw_okq (⟨"ToldInKnotsModel", "knots", "(IIIII)V"⟩, 17) := ⟨⟨by decide +kernel, by decide +kernel⟩, List.mem_of_getElem? (i := 706) (by decide +kernel), List.mem_of_getElem? (i := 716) (by decide +kernel), List.mem_of_getElem? (i := 717) (by decide +kernel)⟩
theorem lw_p19 : lw_okq (⟨"ToldInKnotsModel", "begins", "()V"⟩, 17) := ⟨⟨by decide +kernel, by decide +kernel⟩, List.mem_of_getElem? (i := 706) (by decide +kernel), List.mem_of_getElem? (i := 720) (by decide +kernel), List.mem_of_getElem? (i := 721) (by decide +kernel)⟩
theorem lw_p20 : lw_okq (⟨"ToldInKnotsModel", "takes", "(I)Z"⟩, 17) := ⟨⟨by decide +kernel, by decide +kernel⟩, List.mem_of_getElem? (i := 706) (by decide +kernel), List.mem_of_getElem? (i := 796) (by decide +kernel), List.mem_of_getElem? (i := 797) (by decide +kernel)⟩
theorem lw_p21 : lw_okq (⟨"ToldInKnotsModel", "takesGroup", "(I)Z"⟩, 17) := ⟨⟨by decide +kernel, by decide +kernel⟩, List.mem_of_getElem? (i := 706) (by decide +kernel), List.mem_of_getElem? (i := 800) (by decide +kernel), List.mem_of_getElem? (i := 801) (by decide +kernel)⟩
theorem lw_p22 : lw_okq (⟨"ToldInKnotsModel", "goesTo", "(I)Z"⟩, 17) := ⟨⟨by decide +kernel, by decide +kernel⟩, List.mem_of_getElem? (i := 706) (by decide +kernel), List.mem_of_getElem? (i := 804) (by decide +kernel), List.mem_of_getElem? (i := 805) (by decide +kernel)⟩
theorem lw_p23 : lw_okq (⟨"ToldInKnotsModel", "hasRoom", "()Z"⟩, 17) := ⟨⟨by decide +kernel, by decide +kernel⟩, List.mem_of_getElem? (i := 706) (by decide +kernel), List.mem_of_getElem? (i := 810) (by decide +kernel), List.mem_of_getElem? (i := 811) (by decide +kernel)⟩
theorem lw_p24 : lw_okq (⟨"ToldInKnotsModel", "takesColour", "(I)Z"⟩, 17) := ⟨⟨by decide +kernel, by decide +kernel⟩, List.mem_of_getElem? (i := 706) (by decide +kernel), List.mem_of_getElem? (i := 814) (by decide +kernel), List.mem_of_getElem? (i := 815) (by decide +kernel)⟩
theorem lw_p25 : lw_okq (⟨"ToldInKnotsModel", "takesKnots", "(I)Z"⟩, 17) := ⟨⟨by decide +kernel, by decide +kernel⟩, List.mem_of_getElem? (i := 706) (by decide +kernel), List.mem_of_getElem? (i := 818) (by decide +kernel), List.mem_of_getElem? (i := 819) (by decide +kernel)⟩
theorem lw_p26 : lw_okq (⟨"ToldInKnotsModel", "newest", "()I"⟩, 17) := ⟨⟨by decide +kernel, by decide +kernel⟩, List.mem_of_getElem? (i := 706) (by decide +kernel), List.mem_of_getElem? (i := 822) (by decide +kernel), List.mem_of_getElem? (i := 823) (by decide +kernel)⟩
theorem lw_p27 : lw_okq (⟨"ToldInKnotsModel", "takesCluster", "(I)Z"⟩, 17) := ⟨⟨by decide +kernel, by decide +kernel⟩, List.mem_of_getElem? (i := 706) (by decide +kernel), List.mem_of_getElem? (i := 826) (by decide +kernel), List.mem_of_getElem? (i := 827) (by decide +kernel)⟩
theorem lw_p28 : lw_okq (⟨"ToldInKnotsModel", "takesBehind", "(I)Z"⟩, 17) := ⟨⟨by decide +kernel, by decide +kernel⟩, List.mem_of_getElem? (i := 706) (by decide +kernel), List.mem_of_getElem? (i := 832) (by decide +kernel), List.mem_of_getElem? (i := 833) (by decide +kernel)⟩
theorem lw_p29 : lw_okq (⟨"ToldInKnotsModel", "isCord", "(I)Z"⟩, 17) := ⟨⟨by decide +kernel, by decide +kernel⟩, List.mem_of_getElem? (i := 706) (by decide +kernel), List.mem_of_getElem? (i := 847) (by decide +kernel), List.mem_of_getElem? (i := 848) (by decide +kernel)⟩
theorem lw_p30 : lw_okq (⟨"ToldInKnotsModel", "isPendant", "(I)Z"⟩, 17) := ⟨⟨by decide +kernel, by decide +kernel⟩, List.mem_of_getElem? (i := 706) (by decide +kernel), List.mem_of_getElem? (i := 851) (by decide +kernel), List.mem_of_getElem? (i := 852) (by decide +kernel)⟩
theorem lw_p31 : lw_okq (⟨"ToldInKnotsModel", "depthOf", "(I)I"⟩, 17) := ⟨⟨by decide +kernel, by decide +kernel⟩, List.mem_of_getElem? (i := 706) (by decide +kernel), List.mem_of_getElem? (i := 855) (by decide +kernel), List.mem_of_getElem? (i := 856) (by decide +kernel)⟩
def lw_privs_2 : List (MethodName × Nat) := [(⟨"ToldInKnots$Sets", "asCords", "(I)I"⟩, 9), (⟨"ToldInKnotsModel", "first", "(IIIIII)V"⟩, 17), (⟨"ToldInKnotsModel", "knots", "(IIIII)V"⟩, 17), (⟨"ToldInKnotsModel", "begins", "()V"⟩, 17), (⟨"ToldInKnotsModel", "takes", "(I)Z"⟩, 17), (⟨"ToldInKnotsModel", "takesGroup", "(I)Z"⟩, 17), (⟨"ToldInKnotsModel", "goesTo", "(I)Z"⟩, 17), (⟨"ToldInKnotsModel", "hasRoom", "()Z"⟩, 17), (⟨"ToldInKnotsModel", "takesColour", "(I)Z"⟩, 17), (⟨"ToldInKnotsModel", "takesKnots", "(I)Z"⟩, 17), (⟨"ToldInKnotsModel", "newest", "()I"⟩, 17), (⟨"ToldInKnotsModel", "takesCluster", "(I)Z"⟩, 17), (⟨"ToldInKnotsModel", "takesBehind", "(I)Z"⟩, 17), (⟨"ToldInKnotsModel", "isCord", "(I)Z"⟩, 17), (⟨"ToldInKnotsModel", "isPendant", "(I)Z"⟩, 17), (⟨"ToldInKnotsModel", "depthOf", "(I)I"⟩, 17)]
theorem lw_r2 : ∀ q ∈ lw_privs_2, lw_okq q := List.forall_mem_cons.mpr ⟨lw_p16, List.forall_mem_cons.mpr ⟨lw_p17, List.forall_mem_cons.mpr ⟨lw_p18, List.forall_mem_cons.mpr ⟨lw_p19, List.forall_mem_cons.mpr ⟨lw_p20, List.forall_mem_cons.mpr ⟨lw_p21, List.forall_mem_cons.mpr ⟨lw_p22, List.forall_mem_cons.mpr ⟨lw_p23, List.forall_mem_cons.mpr ⟨lw_p24, List.forall_mem_cons.mpr ⟨lw_p25, List.forall_mem_cons.mpr ⟨lw_p26, List.forall_mem_cons.mpr ⟨lw_p27, List.forall_mem_cons.mpr ⟨lw_p28, List.forall_mem_cons.mpr ⟨lw_p29, List.forall_mem_cons.mpr ⟨lw_p30, List.forall_mem_cons.mpr ⟨lw_p31, fun _ h => absurd h List.not_mem_nil⟩⟩⟩⟩⟩⟩⟩⟩⟩⟩⟩⟩⟩⟩⟩⟩
theorem lw_p32 : lw_okq (⟨"ToldInKnotsModel", "hanging", "(I)I"⟩, 17) := ⟨⟨by decide +kernel, by decide +kernel⟩, List.mem_of_getElem? (i := 706) (by decide +kernel), List.mem_of_getElem? (i := 859) (by decide +kernel), List.mem_of_getElem? (i := 860) (by decide +kernel)⟩
theorem lw_p33 : lw_okq (⟨"ToldInKnotsModel", "value", "(I)I"⟩, 17) := ⟨⟨by decide +kernel, by decide +kernel⟩, List.mem_of_getElem? (i := 706) (by decide +kernel), List.mem_of_getElem? (i := 863) (by decide +kernel), List.mem_of_getElem? (i := 864) (by decide +kernel)⟩
theorem lw_p34 : lw_okq (⟨"ToldInKnotsModel", "told", "(IZ)I"⟩, 17) := ⟨⟨by decide +kernel, by decide +kernel⟩, List.mem_of_getElem? (i := 706) (by decide +kernel), List.mem_of_getElem? (i := 867) (by decide +kernel), List.mem_of_getElem? (i := 868) (by decide +kernel)⟩
theorem lw_p35 : lw_okq (⟨"ToldInKnotsModel", "knot0", "(II)I"⟩, 17) := ⟨⟨by decide +kernel, by decide +kernel⟩, List.mem_of_getElem? (i := 706) (by decide +kernel), List.mem_of_getElem? (i := 871) (by decide +kernel), List.mem_of_getElem? (i := 872) (by decide +kernel)⟩
theorem lw_p36 : lw_okq (⟨"ToldInKnotsModel", "whole", "(I)I"⟩, 17) := ⟨⟨by decide +kernel, by decide +kernel⟩, List.mem_of_getElem? (i := 706) (by decide +kernel), List.mem_of_getElem? (i := 875) (by decide +kernel), List.mem_of_getElem? (i := 876) (by decide +kernel)⟩
theorem lw_p37 : lw_okq (⟨"ToldInKnotsModel", "beneath", "(I)I"⟩, 17) := ⟨⟨by decide +kernel, by decide +kernel⟩, List.mem_of_getElem? (i := 706) (by decide +kernel), List.mem_of_getElem? (i := 879) (by decide +kernel), List.mem_of_getElem? (i := 880) (by decide +kernel)⟩
theorem lw_p38 : lw_okq (⟨"ToldInKnotsModel", "isUnder", "(II)Z"⟩, 17) := ⟨⟨by decide +kernel, by decide +kernel⟩, List.mem_of_getElem? (i := 706) (by decide +kernel), List.mem_of_getElem? (i := 883) (by decide +kernel), List.mem_of_getElem? (i := 884) (by decide +kernel)⟩
theorem lw_p39 : lw_okq (⟨"ToldInKnotsModel", "knots", "(I)I"⟩, 17) := ⟨⟨by decide +kernel, by decide +kernel⟩, List.mem_of_getElem? (i := 706) (by decide +kernel), List.mem_of_getElem? (i := 887) (by decide +kernel), List.mem_of_getElem? (i := 888) (by decide +kernel)⟩
theorem lw_p40 : lw_okq (⟨"ToldInKnotsModel", "isGroup", "(I)Z"⟩, 17) := ⟨⟨by decide +kernel, by decide +kernel⟩, List.mem_of_getElem? (i := 706) (by decide +kernel), List.mem_of_getElem? (i := 902) (by decide +kernel), List.mem_of_getElem? (i := 903) (by decide +kernel)⟩
theorem lw_p41 : lw_okq (⟨"ToldInKnotsModel", "manyOf", "(I)I"⟩, 17) := ⟨⟨by decide +kernel, by decide +kernel⟩, List.mem_of_getElem? (i := 706) (by decide +kernel), List.mem_of_getElem? (i := 906) (by decide +kernel), List.mem_of_getElem? (i := 907) (by decide +kernel)⟩
theorem lw_p42 : lw_okq (⟨"ToldInKnotsModel", "isOf", "(II)Z"⟩, 17) := ⟨⟨by decide +kernel, by decide +kernel⟩, List.mem_of_getElem? (i := 706) (by decide +kernel), List.mem_of_getElem? (i := 910) (by decide +kernel), List.mem_of_getElem? (i := 911) (by decide +kernel)⟩
theorem lw_p43 : lw_okq (⟨"ToldInKnotsModel", "isPlain", "(I)Z"⟩, 17) := ⟨⟨by decide +kernel, by decide +kernel⟩, List.mem_of_getElem? (i := 706) (by decide +kernel), List.mem_of_getElem? (i := 914) (by decide +kernel), List.mem_of_getElem? (i := 915) (by decide +kernel)⟩
theorem lw_p44 : lw_okq (⟨"ToldInKnotsModel", "topOf", "(I)I"⟩, 17) := ⟨⟨by decide +kernel, by decide +kernel⟩, List.mem_of_getElem? (i := 706) (by decide +kernel), List.mem_of_getElem? (i := 918) (by decide +kernel), List.mem_of_getElem? (i := 919) (by decide +kernel)⟩
theorem lw_p45 : lw_okq (⟨"ToldInKnotsModel", "sumOf", "(I)I"⟩, 17) := ⟨⟨by decide +kernel, by decide +kernel⟩, List.mem_of_getElem? (i := 706) (by decide +kernel), List.mem_of_getElem? (i := 922) (by decide +kernel), List.mem_of_getElem? (i := 923) (by decide +kernel)⟩
theorem lw_p46 : lw_okq (⟨"ToldInKnotsModel", "wrongBy", "(I)I"⟩, 17) := ⟨⟨by decide +kernel, by decide +kernel⟩, List.mem_of_getElem? (i := 706) (by decide +kernel), List.mem_of_getElem? (i := 926) (by decide +kernel), List.mem_of_getElem? (i := 927) (by decide +kernel)⟩
theorem lw_p47 : lw_okq (⟨"ToldInKnotsModel", "pendantAt", "(II)I"⟩, 17) := ⟨⟨by decide +kernel, by decide +kernel⟩, List.mem_of_getElem? (i := 706) (by decide +kernel), List.mem_of_getElem? (i := 935) (by decide +kernel), List.mem_of_getElem? (i := 936) (by decide +kernel)⟩
def lw_privs_3 : List (MethodName × Nat) := [(⟨"ToldInKnotsModel", "hanging", "(I)I"⟩, 17), (⟨"ToldInKnotsModel", "value", "(I)I"⟩, 17), (⟨"ToldInKnotsModel", "told", "(IZ)I"⟩, 17), (⟨"ToldInKnotsModel", "knot0", "(II)I"⟩, 17), (⟨"ToldInKnotsModel", "whole", "(I)I"⟩, 17), (⟨"ToldInKnotsModel", "beneath", "(I)I"⟩, 17), (⟨"ToldInKnotsModel", "isUnder", "(II)Z"⟩, 17), (⟨"ToldInKnotsModel", "knots", "(I)I"⟩, 17), (⟨"ToldInKnotsModel", "isGroup", "(I)Z"⟩, 17), (⟨"ToldInKnotsModel", "manyOf", "(I)I"⟩, 17), (⟨"ToldInKnotsModel", "isOf", "(II)Z"⟩, 17), (⟨"ToldInKnotsModel", "isPlain", "(I)Z"⟩, 17), (⟨"ToldInKnotsModel", "topOf", "(I)I"⟩, 17), (⟨"ToldInKnotsModel", "sumOf", "(I)I"⟩, 17), (⟨"ToldInKnotsModel", "wrongBy", "(I)I"⟩, 17), (⟨"ToldInKnotsModel", "pendantAt", "(II)I"⟩, 17)]
theorem lw_r3 : ∀ q ∈ lw_privs_3, lw_okq q := List.forall_mem_cons.mpr ⟨lw_p32, List.forall_mem_cons.mpr ⟨lw_p33, List.forall_mem_cons.mpr ⟨lw_p34, List.forall_mem_cons.mpr ⟨lw_p35, List.forall_mem_cons.mpr ⟨lw_p36, List.forall_mem_cons.mpr ⟨lw_p37, List.forall_mem_cons.mpr ⟨lw_p38, List.forall_mem_cons.mpr ⟨lw_p39, List.forall_mem_cons.mpr ⟨lw_p40, List.forall_mem_cons.mpr ⟨lw_p41, List.forall_mem_cons.mpr ⟨lw_p42, List.forall_mem_cons.mpr ⟨lw_p43, List.forall_mem_cons.mpr ⟨lw_p44, List.forall_mem_cons.mpr ⟨lw_p45, List.forall_mem_cons.mpr ⟨lw_p46, List.forall_mem_cons.mpr ⟨lw_p47, fun _ h => absurd h List.not_mem_nil⟩⟩⟩⟩⟩⟩⟩⟩⟩⟩⟩⟩⟩⟩⟩⟩
theorem lw_p48 : lw_okq (⟨"ToldInKnotsModel", "workFor", "(II)I"⟩, 17) := ⟨⟨by decide +kernel, by decide +kernel⟩, List.mem_of_getElem? (i := 706) (by decide +kernel), List.mem_of_getElem? (i := 946) (by decide +kernel), List.mem_of_getElem? (i := 947) (by decide +kernel)⟩
theorem lw_p49 : lw_okq (⟨"ToldInKnotsModel", "ties", "(II)V"⟩, 17) := ⟨⟨by decide +kernel, by decide +kernel⟩, List.mem_of_getElem? (i := 706) (by decide +kernel), List.mem_of_getElem? (i := 953) (by decide +kernel), List.mem_of_getElem? (i := 954) (by decide +kernel)⟩
theorem lw_p50 : lw_okq (⟨"ToldInKnotsModel", "remember", "()V"⟩, 17) := ⟨⟨by decide +kernel, by decide +kernel⟩, List.mem_of_getElem? (i := 706) (by decide +kernel), List.mem_of_getElem? (i := 957) (by decide +kernel), List.mem_of_getElem? (i := 958) (by decide +kernel)⟩
theorem lw_p51 : lw_okq (⟨"ToldInKnotsModel", "layRoom", "(I)V"⟩, 17) := ⟨⟨by decide +kernel, by decide +kernel⟩, List.mem_of_getElem? (i := 706) (by decide +kernel), List.mem_of_getElem? (i := 996) (by decide +kernel), List.mem_of_getElem? (i := 997) (by decide +kernel)⟩
theorem lw_p52 : lw_okq (⟨"ToldInKnotsModel", "layValues", "()V"⟩, 17) := ⟨⟨by decide +kernel, by decide +kernel⟩, List.mem_of_getElem? (i := 706) (by decide +kernel), List.mem_of_getElem? (i := 1028) (by decide +kernel), List.mem_of_getElem? (i := 1029) (by decide +kernel)⟩
theorem lw_p53 : lw_okq (⟨"ToldInKnotsModel", "tellOf", "(I)I"⟩, 17) := ⟨⟨by decide +kernel, by decide +kernel⟩, List.mem_of_getElem? (i := 706) (by decide +kernel), List.mem_of_getElem? (i := 1032) (by decide +kernel), List.mem_of_getElem? (i := 1033) (by decide +kernel)⟩
theorem lw_p54 : lw_okq (⟨"ToldInKnotsModel", "areAlike", "(II)Z"⟩, 17) := ⟨⟨by decide +kernel, by decide +kernel⟩, List.mem_of_getElem? (i := 706) (by decide +kernel), List.mem_of_getElem? (i := 1055) (by decide +kernel), List.mem_of_getElem? (i := 1056) (by decide +kernel)⟩
theorem lw_p55 : lw_okq (⟨"ToldInKnotsModel", "hangingAt", "(II)I"⟩, 17) := ⟨⟨by decide +kernel, by decide +kernel⟩, List.mem_of_getElem? (i := 706) (by decide +kernel), List.mem_of_getElem? (i := 1059) (by decide +kernel), List.mem_of_getElem? (i := 1060) (by decide +kernel)⟩
theorem lw_p56 : lw_okq (⟨"ToldInKnotsModel", "areAlikeBelow", "(II)Z"⟩, 17) := ⟨⟨by decide +kernel, by decide +kernel⟩, List.mem_of_getElem? (i := 706) (by decide +kernel), List.mem_of_getElem? (i := 1063) (by decide +kernel), List.mem_of_getElem? (i := 1064) (by decide +kernel)⟩
def lw_privs_4 : List (MethodName × Nat) := [(⟨"ToldInKnotsModel", "workFor", "(II)I"⟩, 17), (⟨"ToldInKnotsModel", "ties", "(II)V"⟩, 17), (⟨"ToldInKnotsModel", "remember", "()V"⟩, 17), (⟨"ToldInKnotsModel", "layRoom", "(I)V"⟩, 17), (⟨"ToldInKnotsModel", "layValues", "()V"⟩, 17), (⟨"ToldInKnotsModel", "tellOf", "(I)I"⟩, 17), (⟨"ToldInKnotsModel", "areAlike", "(II)Z"⟩, 17), (⟨"ToldInKnotsModel", "hangingAt", "(II)I"⟩, 17), (⟨"ToldInKnotsModel", "areAlikeBelow", "(II)Z"⟩, 17)]
theorem lw_r4 : ∀ q ∈ lw_privs_4, lw_okq q := List.forall_mem_cons.mpr ⟨lw_p48, List.forall_mem_cons.mpr ⟨lw_p49, List.forall_mem_cons.mpr ⟨lw_p50, List.forall_mem_cons.mpr ⟨lw_p51, List.forall_mem_cons.mpr ⟨lw_p52, List.forall_mem_cons.mpr ⟨lw_p53, List.forall_mem_cons.mpr ⟨lw_p54, List.forall_mem_cons.mpr ⟨lw_p55, List.forall_mem_cons.mpr ⟨lw_p56, fun _ h => absurd h List.not_mem_nil⟩⟩⟩⟩⟩⟩⟩⟩⟩
def lw_privs : List (MethodName × Nat) := lw_privs_1 ++ (lw_privs_2 ++ (lw_privs_3 ++ (lw_privs_4)))
def lw_tbl : List Cond := k2_sels lw_privs ++ tables_1
theorem lw_privs_ok : ∀ q ∈ lw_privs, lw_okq q := by
  show ∀ q ∈ lw_privs_1 ++ (lw_privs_2 ++ (lw_privs_3 ++ (lw_privs_4))), lw_okq q
  exact List.forall_mem_append.mpr ⟨lw_r1, List.forall_mem_append.mpr ⟨lw_r2, List.forall_mem_append.mpr ⟨lw_r3, lw_r4⟩⟩⟩
def RX0 : String := "ToldInKnots$Bundle"
def TX0 : u_T := fun k => match k with
  | _ => ("ToldInKnots$Bundle", "row", "[I", true)
def tyX0 : Nat → FieldType := fun k => match k with
  | _ => .array .int
abbrev wsX00 : List Cond := u_ws RX0 TX0 1
theorem nmX0 : ∀ a, a < 1 → ∀ b, b < 1 → a ≠ b → (TX0 a).2.1 ≠ (TX0 b).2.1 := by decide +kernel
theorem tyX0_ok : ∀ k, k < 1 → parseFieldDescriptor (TX0 k).2.2.1 = some (tyX0 k) := by decide +kernel
abbrev cX0_init : ByteArray := prog_2_method_1_code
def yX0_init : MethodName := ⟨RX0, "<init>", "()V"⟩
abbrev cX0_becomeAs : ByteArray := prog_2_method_2_code
def yX0_becomeAs : MethodName := ⟨RX0, "becomeAs", "([I)V"⟩
abbrev cX0_clear : ByteArray := prog_2_method_3_code
def yX0_clear : MethodName := ⟨RX0, "clear", "()V"⟩
abbrev cX0_cords : ByteArray := prog_2_method_4_code
def yX0_cords : MethodName := ⟨RX0, "cords", "()I"⟩
abbrev cX0_groups : ByteArray := prog_2_method_5_code
def yX0_groups : MethodName := ⟨RX0, "groups", "()I"⟩
abbrev cX0_hasCord : ByteArray := prog_2_method_6_code
def yX0_hasCord : MethodName := ⟨RX0, "hasCord", "(I)Z"⟩
abbrev cX0_hasCluster : ByteArray := prog_2_method_7_code
def yX0_hasCluster : MethodName := ⟨RX0, "hasCluster", "(II)Z"⟩
abbrev cX0_hasGroup : ByteArray := prog_2_method_8_code
def yX0_hasGroup : MethodName := ⟨RX0, "hasGroup", "(I)Z"⟩
abbrev cX0_colourOf : ByteArray := prog_2_method_9_code
def yX0_colourOf : MethodName := ⟨RX0, "colourOf", "(I)I"⟩
abbrev cX0_setColour : ByteArray := prog_2_method_10_code
def yX0_setColour : MethodName := ⟨RX0, "setColour", "(II)V"⟩
abbrev cX0_sizeOf : ByteArray := prog_2_method_11_code
def yX0_sizeOf : MethodName := ⟨RX0, "sizeOf", "(I)I"⟩
abbrev cX0_codeOf : ByteArray := prog_2_method_12_code
def yX0_codeOf : MethodName := ⟨RX0, "codeOf", "(II)I"⟩
abbrev cX0_setCode : ByteArray := prog_2_method_13_code
def yX0_setCode : MethodName := ⟨RX0, "setCode", "(III)V"⟩
abbrev cX0_valueOf : ByteArray := prog_2_method_14_code
def yX0_valueOf : MethodName := ⟨RX0, "valueOf", "(I)I"⟩
abbrev cX0_valueFromOtherEnd : ByteArray := prog_2_method_15_code
def yX0_valueFromOtherEnd : MethodName := ⟨RX0, "valueFromOtherEnd", "(I)I"⟩
abbrev cX0_told : ByteArray := prog_2_method_16_code
def yX0_told : MethodName := ⟨RX0, "told", "(I)I"⟩
abbrev cX0_mostOn : ByteArray := prog_2_method_17_code
def yX0_mostOn : MethodName := ⟨RX0, "mostOn", "(I)I"⟩
abbrev cX0_knotsOf : ByteArray := prog_2_method_18_code
def yX0_knotsOf : MethodName := ⟨RX0, "knotsOf", "(I)I"⟩
abbrev cX0_workToTell : ByteArray := prog_2_method_19_code
def yX0_workToTell : MethodName := ⟨RX0, "workToTell", "(II)I"⟩
abbrev cX0_tell : ByteArray := prog_2_method_20_code
def yX0_tell : MethodName := ⟨RX0, "tell", "(II)V"⟩
abbrev cX0_looksLike : ByteArray := prog_2_method_21_code
def yX0_looksLike : MethodName := ⟨RX0, "looksLike", "(II)Z"⟩
abbrev cX0_holderOf : ByteArray := prog_2_method_22_code
def yX0_holderOf : MethodName := ⟨RX0, "holderOf", "(I)I"⟩
abbrev cX0_depthOf : ByteArray := prog_2_method_23_code
def yX0_depthOf : MethodName := ⟨RX0, "depthOf", "(I)I"⟩
abbrev cX0_groupOf : ByteArray := prog_2_method_24_code
def yX0_groupOf : MethodName := ⟨RX0, "groupOf", "(I)I"⟩
abbrev cX0_isTop : ByteArray := prog_2_method_25_code
def yX0_isTop : MethodName := ⟨RX0, "isTop", "(I)Z"⟩
abbrev cX0_isPlainPendant : ByteArray := prog_2_method_26_code
def yX0_isPlainPendant : MethodName := ⟨RX0, "isPlainPendant", "(I)Z"⟩
abbrev cX0_isIn : ByteArray := prog_2_method_27_code
def yX0_isIn : MethodName := ⟨RX0, "isIn", "(II)Z"⟩
abbrev cX0_isFrom : ByteArray := prog_2_method_28_code
def yX0_isFrom : MethodName := ⟨RX0, "isFrom", "(II)Z"⟩
abbrev cX0_pendantAbove : ByteArray := prog_2_method_29_code
def yX0_pendantAbove : MethodName := ⟨RX0, "pendantAbove", "(I)I"⟩
abbrev cX0_hangingFrom : ByteArray := prog_2_method_30_code
def yX0_hangingFrom : MethodName := ⟨RX0, "hangingFrom", "(I)I"⟩
abbrev cX0_cordsFrom : ByteArray := prog_2_method_31_code
def yX0_cordsFrom : MethodName := ⟨RX0, "cordsFrom", "(I)I"⟩
abbrev cX0_wholeOf : ByteArray := prog_2_method_32_code
def yX0_wholeOf : MethodName := ⟨RX0, "wholeOf", "(I)I"⟩
abbrev cX0_pendantsIn : ByteArray := prog_2_method_33_code
def yX0_pendantsIn : MethodName := ⟨RX0, "pendantsIn", "(I)I"⟩
abbrev cX0_pendantAt : ByteArray := prog_2_method_34_code
def yX0_pendantAt : MethodName := ⟨RX0, "pendantAt", "(II)I"⟩
abbrev cX0_moveBehind : ByteArray := prog_2_method_35_code
def yX0_moveBehind : MethodName := ⟨RX0, "moveBehind", "(II)V"⟩
abbrev cX0_topOf : ByteArray := prog_2_method_36_code
def yX0_topOf : MethodName := ⟨RX0, "topOf", "(I)I"⟩
abbrev cX0_sumOf : ByteArray := prog_2_method_37_code
def yX0_sumOf : MethodName := ⟨RX0, "sumOf", "(I)I"⟩
abbrev cX0_canBeCompared : ByteArray := prog_2_method_38_code
def yX0_canBeCompared : MethodName := ⟨RX0, "canBeCompared", "(I)Z"⟩
abbrev cX0_excessOf : ByteArray := prog_2_method_39_code
def yX0_excessOf : MethodName := ⟨RX0, "excessOf", "(I)I"⟩
abbrev cX0_tops : ByteArray := prog_2_method_40_code
def yX0_tops : MethodName := ⟨RX0, "tops", "()I"⟩
abbrev cX0_wellKnotted : ByteArray := prog_2_method_41_code
def yX0_wellKnotted : MethodName := ⟨RX0, "wellKnotted", "()I"⟩
abbrev cX0_allKnots : ByteArray := prog_2_method_42_code
def yX0_allKnots : MethodName := ⟨RX0, "allKnots", "()I"⟩
abbrev cX0_addGroup : ByteArray := prog_2_method_43_code
def yX0_addGroup : MethodName := ⟨RX0, "addGroup", "()V"⟩
abbrev cX0_addCord : ByteArray := prog_2_method_44_code
def yX0_addCord : MethodName := ⟨RX0, "addCord", "(IIIZ)V"⟩
abbrev cX0_addCluster : ByteArray := prog_2_method_45_code
def yX0_addCluster : MethodName := ⟨RX0, "addCluster", "(I)V"⟩
def RX1 : String := "ToldInKnots$Reader"
def TX1 : u_T := fun k => match k with
  | 0 => ("ToldInKnots$Reader", "draft", "LToldInKnots$Bundle;", true)
  | 1 => ("ToldInKnots$Reader", "latest", "[I", true)
  | 2 => ("ToldInKnots$Reader", "state", "I", false)
  | 3 => ("ToldInKnots$Reader", "depth", "I", false)
  | _ => ("ToldInKnots$Reader", "inTop", "Z", false)
def tyX1 : Nat → FieldType := fun k => match k with
  | 0 => .object "ToldInKnots$Bundle"
  | 1 => .array .int
  | 2 => .int
  | 3 => .int
  | _ => .boolean
abbrev wsX10 : List Cond := u_ws RX1 TX1 5
theorem nmX1 : ∀ a, a < 5 → ∀ b, b < 5 → a ≠ b → (TX1 a).2.1 ≠ (TX1 b).2.1 := by decide +kernel
theorem tyX1_ok : ∀ k, k < 5 → parseFieldDescriptor (TX1 k).2.2.1 = some (tyX1 k) := by decide +kernel
abbrev cX1_init : ByteArray := prog_3_method_1_code
def yX1_init : MethodName := ⟨RX1, "<init>", "()V"⟩
abbrev cX1_read : ByteArray := prog_3_method_2_code
def yX1_read : MethodName := ⟨RX1, "read", "([CI)I"⟩
abbrev cX1_takes : ByteArray := prog_3_method_3_code
def yX1_takes : MethodName := ⟨RX1, "takes", "(C)Z"⟩
abbrev cX1_opensGroup : ByteArray := prog_3_method_4_code
def yX1_opensGroup : MethodName := ⟨RX1, "opensGroup", "()Z"⟩
abbrev cX1_opensCord : ByteArray := prog_3_method_5_code
def yX1_opensCord : MethodName := ⟨RX1, "opensCord", "(C)Z"⟩
abbrev cX1_opensCluster : ByteArray := prog_3_method_6_code
def yX1_opensCluster : MethodName := ⟨RX1, "opensCluster", "(C)Z"⟩
abbrev cX1_endsCluster : ByteArray := prog_3_method_7_code
def yX1_endsCluster : MethodName := ⟨RX1, "endsCluster", "(II)Z"⟩
abbrev cX1_opensHanging : ByteArray := prog_3_method_8_code
def yX1_opensHanging : MethodName := ⟨RX1, "opensHanging", "(C)Z"⟩
abbrev cX1_comesBehindCord : ByteArray := prog_3_method_9_code
def yX1_comesBehindCord : MethodName := ⟨RX1, "comesBehindCord", "(C)Z"⟩
def RX2 : String := "ToldInKnots$Sets"
def TX2 : u_T := fun k => match k with
  | 0 => ("ToldInKnots$Sets", "member", "[I", true)
  | 1 => ("ToldInKnots$Sets", "value", "[I", true)
  | 2 => ("ToldInKnots$Sets", "highSums", "[I", true)
  | 3 => ("ToldInKnots$Sets", "keys", "[I", false)
  | 4 => ("ToldInKnots$Sets", "spare", "[I", false)
  | 5 => ("ToldInKnots$Sets", "members", "I", false)
  | 6 => ("ToldInKnots$Sets", "keyCount", "I", false)
  | 7 => ("ToldInKnots$Sets", "found", "I", false)
  | _ => ("ToldInKnots$Sets", "unlike", "I", false)
def tyX2 : Nat → FieldType := fun k => match k with
  | 0 => .array .int
  | 1 => .array .int
  | 2 => .array .int
  | 3 => .array .int
  | 4 => .array .int
  | 5 => .int
  | 6 => .int
  | 7 => .int
  | _ => .int
abbrev wsX20 : List Cond := u_ws RX2 TX2 9
theorem nmX2 : ∀ a, a < 9 → ∀ b, b < 9 → a ≠ b → (TX2 a).2.1 ≠ (TX2 b).2.1 := by decide +kernel
theorem tyX2_ok : ∀ k, k < 9 → parseFieldDescriptor (TX2 k).2.2.1 = some (tyX2 k) := by decide +kernel
abbrev cX2_init : ByteArray := prog_4_method_1_code
def yX2_init : MethodName := ⟨RX2, "<init>", "()V"⟩
abbrev cX2_clear : ByteArray := prog_4_method_2_code
def yX2_clear : MethodName := ⟨RX2, "clear", "()V"⟩
abbrev cX2_add : ByteArray := prog_4_method_3_code
def yX2_add : MethodName := ⟨RX2, "add", "(II)V"⟩
abbrev cX2_findEvenest : ByteArray := prog_4_method_4_code
def yX2_findEvenest : MethodName := ⟨RX2, "findEvenest", "()V"⟩
abbrev cX2_better : ByteArray := prog_4_method_5_code
def yX2_better : MethodName := ⟨RX2, "better", "(IIIII)I"⟩
abbrev cX2_findFewest : ByteArray := prog_4_method_6_code
def yX2_findFewest : MethodName := ⟨RX2, "findFewest", "(I)V"⟩
abbrev cX2_spreadLow : ByteArray := prog_4_method_7_code
def yX2_spreadLow : MethodName := ⟨RX2, "spreadLow", "(I)V"⟩
abbrev cX2_mergeWith : ByteArray := prog_4_method_8_code
def yX2_mergeWith : MethodName := ⟨RX2, "mergeWith", "(I)V"⟩
abbrev cX2_spreadHigh : ByteArray := prog_4_method_9_code
def yX2_spreadHigh : MethodName := ⟨RX2, "spreadHigh", "()I"⟩
abbrev cX2_firstFrom : ByteArray := prog_4_method_10_code
def yX2_firstFrom : MethodName := ⟨RX2, "firstFrom", "(I)I"⟩
abbrev cX2_sumAt : ByteArray := prog_4_method_11_code
def yX2_sumAt : MethodName := ⟨RX2, "sumAt", "(I)I"⟩
abbrev cX2_bitsAt : ByteArray := prog_4_method_12_code
def yX2_bitsAt : MethodName := ⟨RX2, "bitsAt", "(I)I"⟩
abbrev cX2_asCords : ByteArray := prog_4_method_13_code
def yX2_asCords : MethodName := ⟨RX2, "asCords", "(I)I"⟩
def RX3 : String := "ToldInKnots$Shelf"
def TX3 : u_T := fun k => match k with
  | 0 => ("ToldInKnots$Shelf", "places", "I", true)
  | 1 => ("ToldInKnots$Shelf", "slots", "[I", true)
  | _ => ("ToldInKnots$Shelf", "used", "I", false)
def tyX3 : Nat → FieldType := fun k => match k with
  | 0 => .int
  | 1 => .array .int
  | _ => .int
abbrev wsX30 : List Cond := u_ws RX3 TX3 3
theorem nmX3 : ∀ a, a < 3 → ∀ b, b < 3 → a ≠ b → (TX3 a).2.1 ≠ (TX3 b).2.1 := by decide +kernel
theorem tyX3_ok : ∀ k, k < 3 → parseFieldDescriptor (TX3 k).2.2.1 = some (tyX3 k) := by decide +kernel
abbrev cX3_init : ByteArray := prog_5_method_1_code
def yX3_init : MethodName := ⟨RX3, "<init>", "(I)V"⟩
abbrev cX3_clear : ByteArray := prog_5_method_2_code
def yX3_clear : MethodName := ⟨RX3, "clear", "()V"⟩
abbrev cX3_add : ByteArray := prog_5_method_3_code
def yX3_add : MethodName := ⟨RX3, "add", "([I)V"⟩
abbrev cX3_takeInto : ByteArray := prog_5_method_4_code
def yX3_takeInto : MethodName := ⟨RX3, "takeInto", "([I)V"⟩
def RX4 : String := "ToldInKnots"
def TX4 : u_T := fun k => match k with
  | 0 => ("ToldInKnots", "letters", "[C", true)
  | 1 => ("ToldInKnots", "length", "I", false)
  | 2 => ("ToldInKnots", "reader", "LToldInKnots$Reader;", true)
  | 3 => ("ToldInKnots", "bundle", "LToldInKnots$Bundle;", true)
  | 4 => ("ToldInKnots", "undone", "LToldInKnots$Shelf;", true)
  | 5 => ("ToldInKnots", "kept", "LToldInKnots$Shelf;", true)
  | 6 => ("ToldInKnots", "sets", "LToldInKnots$Sets;", true)
  | 7 => ("ToldInKnots", "up", "[I", true)
  | 8 => ("ToldInKnots", "down", "[I", true)
  | 9 => ("ToldInKnots", "lined", "[I", true)
  | _ => ("ToldInKnots", "runs", "[I", true)
def tyX4 : Nat → FieldType := fun k => match k with
  | 0 => .array .char
  | 1 => .int
  | 2 => .object "ToldInKnots$Reader"
  | 3 => .object "ToldInKnots$Bundle"
  | 4 => .object "ToldInKnots$Shelf"
  | 5 => .object "ToldInKnots$Shelf"
  | 6 => .object "ToldInKnots$Sets"
  | 7 => .array .int
  | 8 => .array .int
  | 9 => .array .int
  | _ => .array .int
abbrev wsX40 : List Cond := u_ws RX4 TX4 11
theorem nmX4 : ∀ a, a < 11 → ∀ b, b < 11 → a ≠ b → (TX4 a).2.1 ≠ (TX4 b).2.1 := by decide +kernel
theorem tyX4_ok : ∀ k, k < 11 → parseFieldDescriptor (TX4 k).2.2.1 = some (tyX4 k) := by decide +kernel
abbrev cX4_init : ByteArray := prog_1_method_1_code
def yX4_init : MethodName := ⟨RX4, "<init>", "()V"⟩
abbrev cX4_write : ByteArray := prog_1_method_2_code
def yX4_write : MethodName := ⟨RX4, "write", "(I)I"⟩
abbrev cX4_wipe : ByteArray := prog_1_method_3_code
def yX4_wipe : MethodName := ⟨RX4, "wipe", "()I"⟩
abbrev cX4_fault : ByteArray := prog_1_method_4_code
def yX4_fault : MethodName := ⟨RX4, "fault", "()I"⟩
abbrev cX4_lay : ByteArray := prog_1_method_5_code
def yX4_lay : MethodName := ⟨RX4, "lay", "()I"⟩
abbrev cX4_cord : ByteArray := prog_1_method_6_code
def yX4_cord : MethodName := ⟨RX4, "cord", "(II)I"⟩
abbrev cX4_cluster : ByteArray := prog_1_method_7_code
def yX4_cluster : MethodName := ⟨RX4, "cluster", "(II)I"⟩
abbrev cX4_group : ByteArray := prog_1_method_8_code
def yX4_group : MethodName := ⟨RX4, "group", "(II)I"⟩
abbrev cX4_pendant : ByteArray := prog_1_method_9_code
def yX4_pendant : MethodName := ⟨RX4, "pendant", "(II)I"⟩
abbrev cX4_tie : ByteArray := prog_1_method_10_code
def yX4_tie : MethodName := ⟨RX4, "tie", "(II)I"⟩
abbrev cX4_more : ByteArray := prog_1_method_11_code
def yX4_more : MethodName := ⟨RX4, "more", "(II)I"⟩
abbrev cX4_knot : ByteArray := prog_1_method_12_code
def yX4_knot : MethodName := ⟨RX4, "knot", "(IIII)I"⟩
abbrev cX4_dye : ByteArray := prog_1_method_13_code
def yX4_dye : MethodName := ⟨RX4, "dye", "(II)I"⟩
abbrev cX4_hang : ByteArray := prog_1_method_14_code
def yX4_hang : MethodName := ⟨RX4, "hang", "(II)I"⟩
abbrev cX4_undo : ByteArray := prog_1_method_15_code
def yX4_undo : MethodName := ⟨RX4, "undo", "()I"⟩
abbrev cX4_wrong : ByteArray := prog_1_method_16_code
def yX4_wrong : MethodName := ⟨RX4, "wrong", "(I)I"⟩
abbrev cX4_mend : ByteArray := prog_1_method_17_code
def yX4_mend : MethodName := ⟨RX4, "mend", "(I)I"⟩
abbrev cX4_slip : ByteArray := prog_1_method_18_code
def yX4_slip : MethodName := ⟨RX4, "slip", "(II)I"⟩
abbrev cX4_lost : ByteArray := prog_1_method_19_code
def yX4_lost : MethodName := ⟨RX4, "lost", "(I)I"⟩
abbrev cX4_closed : ByteArray := prog_1_method_20_code
def yX4_closed : MethodName := ⟨RX4, "closed", "(III)I"⟩
abbrev cX4_order : ByteArray := prog_1_method_21_code
def yX4_order : MethodName := ⟨RX4, "order", "(I)I"⟩
abbrev cX4_share : ByteArray := prog_1_method_22_code
def yX4_share : MethodName := ⟨RX4, "share", "(II)I"⟩
abbrev cX4_make : ByteArray := prog_1_method_23_code
def yX4_make : MethodName := ⟨RX4, "make", "(I)I"⟩
abbrev cX4_colours : ByteArray := prog_1_method_24_code
def yX4_colours : MethodName := ⟨RX4, "colours", "(II)I"⟩
abbrev cX4_path : ByteArray := prog_1_method_25_code
def yX4_path : MethodName := ⟨RX4, "path", "(II)I"⟩
abbrev cX4_same : ByteArray := prog_1_method_26_code
def yX4_same : MethodName := ⟨RX4, "same", "(II)I"⟩
abbrev cX4_year : ByteArray := prog_1_method_27_code
def yX4_year : MethodName := ⟨RX4, "year", "(II)I"⟩
abbrev cX4_keep : ByteArray := prog_1_method_28_code
def yX4_keep : MethodName := ⟨RX4, "keep", "()I"⟩
abbrev cX4_back : ByteArray := prog_1_method_29_code
def yX4_back : MethodName := ⟨RX4, "back", "()I"⟩
abbrev cX4_count : ByteArray := prog_1_method_30_code
def yX4_count : MethodName := ⟨RX4, "count", "(I)I"⟩
abbrev cX4_measureRoom : ByteArray := prog_1_method_31_code
def yX4_measureRoom : MethodName := ⟨RX4, "measureRoom", "(I)V"⟩
abbrev cX4_leastMoves : ByteArray := prog_1_method_32_code
def yX4_leastMoves : MethodName := ⟨RX4, "leastMoves", "([I[III)I"⟩
abbrev cX4_slipAt : ByteArray := prog_1_method_33_code
def yX4_slipAt : MethodName := ⟨RX4, "slipAt", "(III)I"⟩
abbrev cX4_drawn : ByteArray := prog_1_method_34_code
def yX4_drawn : MethodName := ⟨RX4, "drawn", "(II)I"⟩
abbrev cX4_choices : ByteArray := prog_1_method_35_code
def yX4_choices : MethodName := ⟨RX4, "choices", "(II)I"⟩
abbrev cX4_isColour : ByteArray := prog_1_method_36_code
def yX4_isColour : MethodName := ⟨RX4, "isColour", "(I)Z"⟩
abbrev cX4_canCount : ByteArray := prog_1_method_37_code
def yX4_canCount : MethodName := ⟨RX4, "canCount", "(II)Z"⟩
abbrev cX4_kindOf : ByteArray := prog_1_method_38_code
def yX4_kindOf : MethodName := ⟨RX4, "kindOf", "(I)I"⟩
abbrev cX4_countOf : ByteArray := prog_1_method_39_code
def yX4_countOf : MethodName := ⟨RX4, "countOf", "(I)I"⟩
abbrev cX4_knotsIn : ByteArray := prog_1_method_40_code
def yX4_knotsIn : MethodName := ⟨RX4, "knotsIn", "(I)I"⟩
abbrev cX4_codeToTell : ByteArray := prog_1_method_41_code
def yX4_codeToTell : MethodName := ⟨RX4, "codeToTell", "(II)I"⟩
abbrev cX4_isWellPlaced : ByteArray := prog_1_method_42_code
def yX4_isWellPlaced : MethodName := ⟨RX4, "isWellPlaced", "(II)Z"⟩
abbrev cX4_tens : ByteArray := prog_1_method_43_code
def yX4_tens : MethodName := ⟨RX4, "tens", "(I)I"⟩
abbrev cX4_at : ByteArray := prog_1_method_44_code
def yX4_at : MethodName := ⟨RX4, "at", "([II)I"⟩
abbrev cX4_put : ByteArray := prog_1_method_45_code
def yX4_put : MethodName := ⟨RX4, "put", "([III)V"⟩
abbrev cX4_copyRow : ByteArray := prog_1_method_46_code
def yX4_copyRow : MethodName := ⟨RX4, "copyRow", "([II[II)V"⟩
def RX5 : String := "ToldInKnotsModel"
def TX5 : u_T := fun k => match k with
  | 0 => ("ToldInKnotsModel", "now", "[I", true)
  | 1 => ("ToldInKnotsModel", "past", "[I", true)
  | 2 => ("ToldInKnotsModel", "undos", "I", false)
  | 3 => ("ToldInKnotsModel", "kept", "[I", true)
  | 4 => ("ToldInKnotsModel", "keptMany", "I", false)
  | 5 => ("ToldInKnotsModel", "text", "[I", true)
  | 6 => ("ToldInKnotsModel", "size", "I", false)
  | 7 => ("ToldInKnotsModel", "read", "[I", true)
  | 8 => ("ToldInKnotsModel", "state", "I", false)
  | 9 => ("ToldInKnotsModel", "depth", "I", false)
  | 10 => ("ToldInKnotsModel", "isTop", "Z", false)
  | 11 => ("ToldInKnotsModel", "over", "[I", true)
  | 12 => ("ToldInKnotsModel", "up", "[I", true)
  | 13 => ("ToldInKnotsModel", "down", "[I", true)
  | 14 => ("ToldInKnotsModel", "knotted", "[I", true)
  | 15 => ("ToldInKnotsModel", "row", "[I", true)
  | _ => ("ToldInKnotsModel", "longest", "[I", true)
def tyX5 : Nat → FieldType := fun k => match k with
  | 0 => .array .int
  | 1 => .array .int
  | 2 => .int
  | 3 => .array .int
  | 4 => .int
  | 5 => .array .int
  | 6 => .int
  | 7 => .array .int
  | 8 => .int
  | 9 => .int
  | 10 => .boolean
  | 11 => .array .int
  | 12 => .array .int
  | 13 => .array .int
  | 14 => .array .int
  | 15 => .array .int
  | _ => .array .int
abbrev wsX50 : List Cond := u_ws RX5 TX5 17
theorem nmX5 : ∀ a, a < 17 → ∀ b, b < 17 → a ≠ b → (TX5 a).2.1 ≠ (TX5 b).2.1 := by decide +kernel
theorem tyX5_ok : ∀ k, k < 17 → parseFieldDescriptor (TX5 k).2.2.1 = some (tyX5 k) := by decide +kernel
abbrev cX5_init : ByteArray := prog_7_method_1_code
def yX5_init : MethodName := ⟨RX5, "<init>", "()V"⟩
abbrev cX5_first : ByteArray := prog_7_method_3_code
def yX5_first : MethodName := ⟨RX5, "first", "(IIIIII)V"⟩
abbrev cX5_knots : ByteArray := prog_7_method_4_code
def yX5_knots : MethodName := ⟨RX5, "knots", "(IIIII)V"⟩
abbrev cX5_in : ByteArray := prog_7_method_5_code
def yX5_in : MethodName := ⟨RX5, "in", "(JJJ)Z"⟩
abbrev cX5_isTwo : ByteArray := prog_7_method_6_code
def yX5_isTwo : MethodName := ⟨RX5, "isTwo", "(I)Z"⟩
abbrev cX5_write : ByteArray := prog_7_method_7_code
def yX5_write : MethodName := ⟨RX5, "write", "(I)I"⟩
abbrev cX5_wipe : ByteArray := prog_7_method_8_code
def yX5_wipe : MethodName := ⟨RX5, "wipe", "()I"⟩
abbrev cX5_newest : ByteArray := prog_7_method_9_code
def yX5_newest : MethodName := ⟨RX5, "newest", "()I"⟩
abbrev cX5_hasRoom : ByteArray := prog_7_method_10_code
def yX5_hasRoom : MethodName := ⟨RX5, "hasRoom", "()Z"⟩
abbrev cX5_goesTo : ByteArray := prog_7_method_11_code
def yX5_goesTo : MethodName := ⟨RX5, "goesTo", "(I)Z"⟩
abbrev cX5_takesColour : ByteArray := prog_7_method_12_code
def yX5_takesColour : MethodName := ⟨RX5, "takesColour", "(I)Z"⟩
abbrev cX5_takesCluster : ByteArray := prog_7_method_13_code
def yX5_takesCluster : MethodName := ⟨RX5, "takesCluster", "(I)Z"⟩
abbrev cX5_takesKnots : ByteArray := prog_7_method_14_code
def yX5_takesKnots : MethodName := ⟨RX5, "takesKnots", "(I)Z"⟩
abbrev cX5_takesBehind : ByteArray := prog_7_method_15_code
def yX5_takesBehind : MethodName := ⟨RX5, "takesBehind", "(I)Z"⟩
abbrev cX5_takesGroup : ByteArray := prog_7_method_16_code
def yX5_takesGroup : MethodName := ⟨RX5, "takesGroup", "(I)Z"⟩
abbrev cX5_takes : ByteArray := prog_7_method_17_code
def yX5_takes : MethodName := ⟨RX5, "takes", "(I)Z"⟩
abbrev cX5_fault : ByteArray := prog_7_method_18_code
def yX5_fault : MethodName := ⟨RX5, "fault", "()I"⟩
abbrev cX5_copies : ByteArray := prog_7_method_19_code
def yX5_copies : MethodName := ⟨RX5, "copies", "([II[II)V"⟩
abbrev cX5_begins : ByteArray := prog_7_method_20_code
def yX5_begins : MethodName := ⟨RX5, "begins", "()V"⟩
abbrev cX5_lay : ByteArray := prog_7_method_21_code
def yX5_lay : MethodName := ⟨RX5, "lay", "()I"⟩
abbrev cX5_isCord : ByteArray := prog_7_method_22_code
def yX5_isCord : MethodName := ⟨RX5, "isCord", "(I)Z"⟩
abbrev cX5_isGroup : ByteArray := prog_7_method_23_code
def yX5_isGroup : MethodName := ⟨RX5, "isGroup", "(I)Z"⟩
abbrev cX5_isPendant : ByteArray := prog_7_method_24_code
def yX5_isPendant : MethodName := ⟨RX5, "isPendant", "(I)Z"⟩
abbrev cX5_isPlain : ByteArray := prog_7_method_25_code
def yX5_isPlain : MethodName := ⟨RX5, "isPlain", "(I)Z"⟩
abbrev cX5_knot0 : ByteArray := prog_7_method_26_code
def yX5_knot0 : MethodName := ⟨RX5, "knot0", "(II)I"⟩
abbrev cX5_told : ByteArray := prog_7_method_27_code
def yX5_told : MethodName := ⟨RX5, "told", "(IZ)I"⟩
abbrev cX5_value : ByteArray := prog_7_method_28_code
def yX5_value : MethodName := ⟨RX5, "value", "(I)I"⟩
abbrev cX5_isUnder : ByteArray := prog_7_method_29_code
def yX5_isUnder : MethodName := ⟨RX5, "isUnder", "(II)Z"⟩
abbrev cX5_beneath : ByteArray := prog_7_method_30_code
def yX5_beneath : MethodName := ⟨RX5, "beneath", "(I)I"⟩
abbrev cX5_whole : ByteArray := prog_7_method_31_code
def yX5_whole : MethodName := ⟨RX5, "whole", "(I)I"⟩
abbrev cX5_knotsOf : ByteArray := prog_7_method_32_code
def yX5_knotsOf : MethodName := ⟨RX5, "knotsOf", "(I)I"⟩
abbrev cX5_knots_ : ByteArray := prog_7_method_33_code
def yX5_knots_ : MethodName := ⟨RX5, "knots", "(I)I"⟩
abbrev cX5_hanging : ByteArray := prog_7_method_34_code
def yX5_hanging : MethodName := ⟨RX5, "hanging", "(I)I"⟩
abbrev cX5_depthOf : ByteArray := prog_7_method_35_code
def yX5_depthOf : MethodName := ⟨RX5, "depthOf", "(I)I"⟩
abbrev cX5_cord : ByteArray := prog_7_method_36_code
def yX5_cord : MethodName := ⟨RX5, "cord", "(II)I"⟩
abbrev cX5_cluster : ByteArray := prog_7_method_37_code
def yX5_cluster : MethodName := ⟨RX5, "cluster", "(II)I"⟩
abbrev cX5_topOf : ByteArray := prog_7_method_38_code
def yX5_topOf : MethodName := ⟨RX5, "topOf", "(I)I"⟩
abbrev cX5_isOf : ByteArray := prog_7_method_39_code
def yX5_isOf : MethodName := ⟨RX5, "isOf", "(II)Z"⟩
abbrev cX5_manyOf : ByteArray := prog_7_method_40_code
def yX5_manyOf : MethodName := ⟨RX5, "manyOf", "(I)I"⟩
abbrev cX5_sumOf : ByteArray := prog_7_method_41_code
def yX5_sumOf : MethodName := ⟨RX5, "sumOf", "(I)I"⟩
abbrev cX5_wrongBy : ByteArray := prog_7_method_42_code
def yX5_wrongBy : MethodName := ⟨RX5, "wrongBy", "(I)I"⟩
abbrev cX5_group : ByteArray := prog_7_method_43_code
def yX5_group : MethodName := ⟨RX5, "group", "(II)I"⟩
abbrev cX5_pendantAt : ByteArray := prog_7_method_44_code
def yX5_pendantAt : MethodName := ⟨RX5, "pendantAt", "(II)I"⟩
abbrev cX5_pendant : ByteArray := prog_7_method_45_code
def yX5_pendant : MethodName := ⟨RX5, "pendant", "(II)I"⟩
abbrev cX5_remember : ByteArray := prog_7_method_46_code
def yX5_remember : MethodName := ⟨RX5, "remember", "()V"⟩
abbrev cX5_power : ByteArray := prog_7_method_47_code
def yX5_power : MethodName := ⟨RX5, "power", "(I)I"⟩
abbrev cX5_clusterFor : ByteArray := prog_7_method_48_code
def yX5_clusterFor : MethodName := ⟨RX5, "clusterFor", "(II)I"⟩
abbrev cX5_workFor : ByteArray := prog_7_method_49_code
def yX5_workFor : MethodName := ⟨RX5, "workFor", "(II)I"⟩
abbrev cX5_ties : ByteArray := prog_7_method_50_code
def yX5_ties : MethodName := ⟨RX5, "ties", "(II)V"⟩
abbrev cX5_tie : ByteArray := prog_7_method_51_code
def yX5_tie : MethodName := ⟨RX5, "tie", "(II)I"⟩
abbrev cX5_more : ByteArray := prog_7_method_52_code
def yX5_more : MethodName := ⟨RX5, "more", "(II)I"⟩
abbrev cX5_isKnot : ByteArray := prog_7_method_53_code
def yX5_isKnot : MethodName := ⟨RX5, "isKnot", "(II)Z"⟩
abbrev cX5_knot : ByteArray := prog_7_method_54_code
def yX5_knot : MethodName := ⟨RX5, "knot", "(IIII)I"⟩
abbrev cX5_dye : ByteArray := prog_7_method_55_code
def yX5_dye : MethodName := ⟨RX5, "dye", "(II)I"⟩
abbrev cX5_hang : ByteArray := prog_7_method_56_code
def yX5_hang : MethodName := ⟨RX5, "hang", "(II)I"⟩
abbrev cX5_undo : ByteArray := prog_7_method_57_code
def yX5_undo : MethodName := ⟨RX5, "undo", "()I"⟩
abbrev cX5_wrong : ByteArray := prog_7_method_58_code
def yX5_wrong : MethodName := ⟨RX5, "wrong", "(I)I"⟩
abbrev cX5_layRoom : ByteArray := prog_7_method_59_code
def yX5_layRoom : MethodName := ⟨RX5, "layRoom", "(I)V"⟩
abbrev cX5_plain : ByteArray := prog_7_method_60_code
def yX5_plain : MethodName := ⟨RX5, "plain", "(I)I"⟩
abbrev cX5_mend : ByteArray := prog_7_method_61_code
def yX5_mend : MethodName := ⟨RX5, "mend", "(I)I"⟩
abbrev cX5_slip : ByteArray := prog_7_method_62_code
def yX5_slip : MethodName := ⟨RX5, "slip", "(II)I"⟩
abbrev cX5_lost : ByteArray := prog_7_method_63_code
def yX5_lost : MethodName := ⟨RX5, "lost", "(I)I"⟩
abbrev cX5_closed : ByteArray := prog_7_method_64_code
def yX5_closed : MethodName := ⟨RX5, "closed", "(III)I"⟩
abbrev cX5_order : ByteArray := prog_7_method_65_code
def yX5_order : MethodName := ⟨RX5, "order", "(I)I"⟩
abbrev cX5_bits : ByteArray := prog_7_method_66_code
def yX5_bits : MethodName := ⟨RX5, "bits", "(I)I"⟩
abbrev cX5_tellOf : ByteArray := prog_7_method_67_code
def yX5_tellOf : MethodName := ⟨RX5, "tellOf", "(I)I"⟩
abbrev cX5_layValues : ByteArray := prog_7_method_68_code
def yX5_layValues : MethodName := ⟨RX5, "layValues", "()V"⟩
abbrev cX5_share : ByteArray := prog_7_method_69_code
def yX5_share : MethodName := ⟨RX5, "share", "(II)I"⟩
abbrev cX5_make : ByteArray := prog_7_method_70_code
def yX5_make : MethodName := ⟨RX5, "make", "(I)I"⟩
abbrev cX5_colours : ByteArray := prog_7_method_71_code
def yX5_colours : MethodName := ⟨RX5, "colours", "(II)I"⟩
abbrev cX5_path : ByteArray := prog_7_method_72_code
def yX5_path : MethodName := ⟨RX5, "path", "(II)I"⟩
abbrev cX5_hangingAt : ByteArray := prog_7_method_73_code
def yX5_hangingAt : MethodName := ⟨RX5, "hangingAt", "(II)I"⟩
abbrev cX5_areAlike : ByteArray := prog_7_method_74_code
def yX5_areAlike : MethodName := ⟨RX5, "areAlike", "(II)Z"⟩
abbrev cX5_areAlikeBelow : ByteArray := prog_7_method_75_code
def yX5_areAlikeBelow : MethodName := ⟨RX5, "areAlikeBelow", "(II)Z"⟩
abbrev cX5_same : ByteArray := prog_7_method_76_code
def yX5_same : MethodName := ⟨RX5, "same", "(II)I"⟩
abbrev cX5_year : ByteArray := prog_7_method_77_code
def yX5_year : MethodName := ⟨RX5, "year", "(II)I"⟩
abbrev cX5_keep : ByteArray := prog_7_method_78_code
def yX5_keep : MethodName := ⟨RX5, "keep", "()I"⟩
abbrev cX5_back : ByteArray := prog_7_method_79_code
def yX5_back : MethodName := ⟨RX5, "back", "()I"⟩
abbrev cX5_count : ByteArray := prog_7_method_80_code
def yX5_count : MethodName := ⟨RX5, "count", "(I)I"⟩
def RJ6 : String := "java/lang/Integer"
def TJ6 : u_T := fun k => match k with
  | _ => ("", "", "", false)
def tyJ6 : Nat → FieldType := fun k => match k with
  | _ => .int
abbrev wsJ60 : List Cond := u_ws RJ6 TJ6 0
theorem nmJ6 : ∀ a, a < 0 → ∀ b, b < 0 → a ≠ b → (TJ6 a).2.1 ≠ (TJ6 b).2.1 := by decide +kernel
theorem tyJ6_ok : ∀ k, k < 0 → parseFieldDescriptor (TJ6 k).2.2.1 = some (tyJ6 k) := by decide +kernel
abbrev cJ6_bitCount_0f7a4 : ByteArray := prog_8_method_49_code
def yJ6_bitCount_0f7a4 : MethodName := ⟨RJ6, "bitCount", "(I)I"⟩
def RJ9 : String := "java/lang/Math"
def TJ9 : u_T := fun k => match k with
  | _ => ("", "", "", false)
def tyJ9 : Nat → FieldType := fun k => match k with
  | _ => .int
abbrev wsJ90 : List Cond := u_ws RJ9 TJ9 0
theorem nmJ9 : ∀ a, a < 0 → ∀ b, b < 0 → a ≠ b → (TJ9 a).2.1 ≠ (TJ9 b).2.1 := by decide +kernel
theorem tyJ9_ok : ∀ k, k < 0 → parseFieldDescriptor (TJ9 k).2.2.1 = some (tyJ9 k) := by decide +kernel
abbrev cJ9_floorMod_7cf53 : ByteArray := prog_9_method_50_code
def yJ9_floorMod_7cf53 : MethodName := ⟨RJ9, "floorMod", "(II)I"⟩
abbrev cJ9_abs_0f7a4 : ByteArray := prog_9_method_59_code
def yJ9_abs_0f7a4 : MethodName := ⟨RJ9, "abs", "(I)I"⟩
abbrev cJ9_max_7cf53 : ByteArray := prog_9_method_65_code
def yJ9_max_7cf53 : MethodName := ⟨RJ9, "max", "(II)I"⟩
abbrev cJ9_min_7cf53 : ByteArray := prog_9_method_69_code
def yJ9_min_7cf53 : MethodName := ⟨RJ9, "min", "(II)I"⟩
def RJ0 : String := "java/lang/String"
def TJ0 : u_T := fun k => match k with
  | _ => ("", "", "", false)
def tyJ0 : Nat → FieldType := fun k => match k with
  | _ => .int
abbrev wsJ00 : List Cond := u_ws RJ0 TJ0 0
theorem nmJ0 : ∀ a, a < 0 → ∀ b, b < 0 → a ≠ b → (TJ0 a).2.1 ≠ (TJ0 b).2.1 := by decide +kernel
theorem tyJ0_ok : ∀ k, k < 0 → parseFieldDescriptor (TJ0 k).2.2.1 = some (tyJ0 k) := by decide +kernel
abbrev cJ0_length_8abf5 : ByteArray := prog_10_method_54_code
def yJ0_length_8abf5 : MethodName := ⟨RJ0, "length", "()I"⟩
abbrev cJ0_toCharArray_70df3 : ByteArray := prog_10_method_129_code
def yJ0_toCharArray_70df3 : MethodName := ⟨RJ0, "toCharArray", "()[C"⟩
abbrev cJ0_coder_7d493 : ByteArray := prog_10_method_152_code
def yJ0_coder_7d493 : MethodName := ⟨RJ0, "coder", "()B"⟩
abbrev cJ0_isLatin1_aae02 : ByteArray := prog_10_method_154_code
def yJ0_isLatin1_aae02 : MethodName := ⟨RJ0, "isLatin1", "()Z"⟩
abbrev cJ0_checkBoundsOffCount_cabcc : ByteArray := prog_10_method_157_code
def yJ0_checkBoundsOffCount_cabcc : MethodName := ⟨RJ0, "checkBoundsOffCount", "(III)I"⟩
def RJ1 : String := "java/lang/StringLatin1"
def TJ1 : u_T := fun k => match k with
  | _ => ("", "", "", false)
def tyJ1 : Nat → FieldType := fun k => match k with
  | _ => .int
abbrev wsJ10 : List Cond := u_ws RJ1 TJ1 0
theorem nmJ1 : ∀ a, a < 0 → ∀ b, b < 0 → a ≠ b → (TJ1 a).2.1 ≠ (TJ1 b).2.1 := by decide +kernel
theorem tyJ1_ok : ∀ k, k < 0 → parseFieldDescriptor (TJ1 k).2.2.1 = some (tyJ1 k) := by decide +kernel
abbrev cJ1_toChars_9d188 : ByteArray := prog_11_method_9_code
def yJ1_toChars_9d188 : MethodName := ⟨RJ1, "toChars", "([B)[C"⟩
abbrev cJ1_inflate_03870 : ByteArray := prog_11_method_49_code
def yJ1_inflate_03870 : MethodName := ⟨RJ1, "inflate", "([BI[CII)V"⟩
def RJ2 : String := "java/lang/StringUTF16"
def TJ2 : u_T := fun k => match k with
  | _ => ("", "", "", false)
def tyJ2 : Nat → FieldType := fun k => match k with
  | _ => .int
abbrev wsJ20 : List Cond := u_ws RJ2 TJ2 0
theorem nmJ2 : ∀ a, a < 0 → ∀ b, b < 0 → a ≠ b → (TJ2 a).2.1 ≠ (TJ2 b).2.1 := by decide +kernel
theorem tyJ2_ok : ∀ k, k < 0 → parseFieldDescriptor (TJ2 k).2.2.1 = some (tyJ2 k) := by decide +kernel
abbrev cJ2_getChar_3b067 : ByteArray := prog_12_method_5_code
def yJ2_getChar_3b067 : MethodName := ⟨RJ2, "getChar", "([BI)C"⟩
abbrev cJ2_length_9d52b : ByteArray := prog_12_method_6_code
def yJ2_length_9d52b : MethodName := ⟨RJ2, "length", "([B)I"⟩
abbrev cJ2_toChars_9d188 : ByteArray := prog_12_method_13_code
def yJ2_toChars_9d188 : MethodName := ⟨RJ2, "toChars", "([B)[C"⟩
abbrev cJ2_getChars_a1a8b : ByteArray := prog_12_method_26_code
def yJ2_getChars_a1a8b : MethodName := ⟨RJ2, "getChars", "([BII[CI)V"⟩
abbrev cJ2_checkBoundsOffCount_d044e : ByteArray := prog_12_method_94_code
def yJ2_checkBoundsOffCount_d044e : MethodName := ⟨RJ2, "checkBoundsOffCount", "(II[B)V"⟩
def RJ10 : String := "java/lang/System"
def TJ10 : u_T := fun k => match k with
  | _ => ("", "", "", false)
def tyJ10 : Nat → FieldType := fun k => match k with
  | _ => .int
abbrev wsJ100 : List Cond := u_ws RJ10 TJ10 0
theorem nmJ10 : ∀ a, a < 0 → ∀ b, b < 0 → a ≠ b → (TJ10 a).2.1 ≠ (TJ10 b).2.1 := by decide +kernel
theorem tyJ10_ok : ∀ k, k < 0 → parseFieldDescriptor (TJ10 k).2.2.1 = some (tyJ10 k) := by decide +kernel
def RJ7 : String := "java/util/Arrays"
def TJ7 : u_T := fun k => match k with
  | _ => ("", "", "", false)
def tyJ7 : Nat → FieldType := fun k => match k with
  | _ => .int
abbrev wsJ70 : List Cond := u_ws RJ7 TJ7 0
theorem nmJ7 : ∀ a, a < 0 → ∀ b, b < 0 → a ≠ b → (TJ7 a).2.1 ≠ (TJ7 b).2.1 := by decide +kernel
theorem tyJ7_ok : ∀ k, k < 0 → parseFieldDescriptor (TJ7 k).2.2.1 = some (tyJ7 k) := by decide +kernel
abbrev cJ7_fill_53178 : ByteArray := prog_14_method_103_code
def yJ7_fill_53178 : MethodName := ⟨RJ7, "fill", "([II)V"⟩
def RJ3 : String := "jdk/internal/util/Preconditions"
def TJ3 : u_T := fun k => match k with
  | _ => ("", "", "", false)
def tyJ3 : Nat → FieldType := fun k => match k with
  | _ => .int
abbrev wsJ30 : List Cond := u_ws RJ3 TJ3 0
theorem nmJ3 : ∀ a, a < 0 → ∀ b, b < 0 → a ≠ b → (TJ3 a).2.1 ≠ (TJ3 b).2.1 := by decide +kernel
theorem tyJ3_ok : ∀ k, k < 0 → parseFieldDescriptor (TJ3 k).2.2.1 = some (tyJ3 k) := by decide +kernel
abbrev cJ3_checkFromIndexSize_8c36e : ByteArray := prog_15_method_13_code
def yJ3_checkFromIndexSize_8c36e : MethodName := ⟨RJ3, "checkFromIndexSize", "(IIILjava/util/function/BiFunction;)I"⟩
def RL : String := "ToldInKnotsLaw"
abbrev cL_law : ByteArray := code
def yL_law : MethodName := ⟨RL, "law", "([I)Z"⟩
abbrev vwCl : List vw_C := [(RX0, TX0, 1), (RX1, TX1, 5), (RX2, TX2, 9), (RX3, TX3, 3), (RX4, TX4, 11), (RX5, TX5, 17)]
