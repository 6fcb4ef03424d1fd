theorem dX0_init_0 : decode cX0_init 0 = .ok (.aload_n 0, 1) := by decide +kernel
theorem dX0_init_1 : decode cX0_init 1 = .ok (.invokespecial 5, 3) := by decide +kernel
theorem dX0_init_4 : decode cX0_init 4 = .ok (.aload_n 0, 1) := by decide +kernel
theorem dX0_init_5 : decode cX0_init 5 = .ok (.sipush 179, 3) := by decide +kernel
theorem dX0_init_8 : decode cX0_init 8 = .ok (.newarray .int, 2) := by decide +kernel
theorem dX0_init_10 : decode cX0_init 10 = .ok (.putfield 11, 3) := by decide +kernel
theorem dX0_init_13 : decode cX0_init 13 = .ok (.return_, 1) := by decide +kernel
theorem dX0_becomeAs_0 : decode cX0_becomeAs 0 = .ok (.aload_n 1, 1) := by decide +kernel
theorem dX0_becomeAs_1 : decode cX0_becomeAs 1 = .ok (.iconst 0, 1) := by decide +kernel
theorem dX0_becomeAs_2 : decode cX0_becomeAs 2 = .ok (.aload_n 0, 1) := by decide +kernel
theorem dX0_becomeAs_3 : decode cX0_becomeAs 3 = .ok (.getfield 11, 3) := by decide +kernel
theorem dX0_becomeAs_6 : decode cX0_becomeAs 6 = .ok (.iconst 0, 1) := by decide +kernel
theorem dX0_becomeAs_7 : decode cX0_becomeAs 7 = .ok (.invokestatic 15, 3) := by decide +kernel
theorem dX0_becomeAs_10 : decode cX0_becomeAs 10 = .ok (.return_, 1) := by decide +kernel
theorem dX0_clear_0 : decode cX0_clear 0 = .ok (.aload_n 0, 1) := by decide +kernel
theorem dX0_clear_1 : decode cX0_clear 1 = .ok (.getfield 11, 3) := by decide +kernel
theorem dX0_clear_4 : decode cX0_clear 4 = .ok (.iconst 0, 1) := by decide +kernel
theorem dX0_clear_5 : decode cX0_clear 5 = .ok (.invokestatic 19, 3) := by decide +kernel
theorem dX0_clear_8 : decode cX0_clear 8 = .ok (.return_, 1) := by decide +kernel
theorem dX0_cords_0 : decode cX0_cords 0 = .ok (.aload_n 0, 1) := by decide +kernel
theorem dX0_cords_1 : decode cX0_cords 1 = .ok (.getfield 11, 3) := by decide +kernel
theorem dX0_cords_4 : decode cX0_cords 4 = .ok (.sipush 176, 3) := by decide +kernel
theorem dX0_cords_7 : decode cX0_cords 7 = .ok (.invokestatic 25, 3) := by decide +kernel
theorem dX0_cords_10 : decode cX0_cords 10 = .ok (.ireturn, 1) := by decide +kernel
theorem dX0_groups_0 : decode cX0_groups 0 = .ok (.aload_n 0, 1) := by decide +kernel
theorem dX0_groups_1 : decode cX0_groups 1 = .ok (.getfield 11, 3) := by decide +kernel
theorem dX0_groups_4 : decode cX0_groups 4 = .ok (.sipush 177, 3) := by decide +kernel
theorem dX0_groups_7 : decode cX0_groups 7 = .ok (.invokestatic 25, 3) := by decide +kernel
theorem dX0_groups_10 : decode cX0_groups 10 = .ok (.ireturn, 1) := by decide +kernel
theorem dX0_hasCord_0 : decode cX0_hasCord 0 = .ok (.iload_n 1, 1) := by decide +kernel
theorem dX0_hasCord_1 : decode cX0_hasCord 1 = .ok (.ifCond .lt 15, 3) := by decide +kernel
theorem dX0_hasCord_4 : decode cX0_hasCord 4 = .ok (.iload_n 1, 1) := by decide +kernel
theorem dX0_hasCord_5 : decode cX0_hasCord 5 = .ok (.aload_n 0, 1) := by decide +kernel
theorem dX0_hasCord_6 : decode cX0_hasCord 6 = .ok (.invokevirtual 29, 3) := by decide +kernel
theorem dX0_hasCord_9 : decode cX0_hasCord 9 = .ok (.if_icmp .ge 7, 3) := by decide +kernel
theorem dX0_hasCord_12 : decode cX0_hasCord 12 = .ok (.iconst 1, 1) := by decide +kernel
theorem dX0_hasCord_13 : decode cX0_hasCord 13 = .ok (.goto 4, 3) := by decide +kernel
theorem dX0_hasCord_16 : decode cX0_hasCord 16 = .ok (.iconst 0, 1) := by decide +kernel
theorem dX0_hasCord_17 : decode cX0_hasCord 17 = .ok (.ireturn, 1) := by decide +kernel
theorem dX0_hasCluster_0 : decode cX0_hasCluster 0 = .ok (.aload_n 0, 1) := by decide +kernel
theorem dX0_hasCluster_1 : decode cX0_hasCluster 1 = .ok (.iload_n 1, 1) := by decide +kernel
theorem dX0_hasCluster_2 : decode cX0_hasCluster 2 = .ok (.invokevirtual 33, 3) := by decide +kernel
theorem dX0_hasCluster_5 : decode cX0_hasCluster 5 = .ok (.ifCond .eq 20, 3) := by decide +kernel
theorem dX0_hasCluster_8 : decode cX0_hasCluster 8 = .ok (.iload_n 2, 1) := by decide +kernel
theorem dX0_hasCluster_9 : decode cX0_hasCluster 9 = .ok (.ifCond .lt 16, 3) := by decide +kernel
theorem dX0_hasCluster_12 : decode cX0_hasCluster 12 = .ok (.iload_n 2, 1) := by decide +kernel
theorem dX0_hasCluster_13 : decode cX0_hasCluster 13 = .ok (.aload_n 0, 1) := by decide +kernel
theorem dX0_hasCluster_14 : decode cX0_hasCluster 14 = .ok (.iload_n 1, 1) := by decide +kernel
theorem dX0_hasCluster_15 : decode cX0_hasCluster 15 = .ok (.invokevirtual 37, 3) := by decide +kernel
theorem dX0_hasCluster_18 : decode cX0_hasCluster 18 = .ok (.if_icmp .ge 7, 3) := by decide +kernel
theorem dX0_hasCluster_21 : decode cX0_hasCluster 21 = .ok (.iconst 1, 1) := by decide +kernel
theorem dX0_hasCluster_22 : decode cX0_hasCluster 22 = .ok (.goto 4, 3) := by decide +kernel
theorem dX0_hasCluster_25 : decode cX0_hasCluster 25 = .ok (.iconst 0, 1) := by decide +kernel
theorem dX0_hasCluster_26 : decode cX0_hasCluster 26 = .ok (.ireturn, 1) := by decide +kernel
theorem dX0_hasGroup_0 : decode cX0_hasGroup 0 = .ok (.iload_n 1, 1) := by decide +kernel
theorem dX0_hasGroup_1 : decode cX0_hasGroup 1 = .ok (.ifCond .lt 15, 3) := by decide +kernel
theorem dX0_hasGroup_4 : decode cX0_hasGroup 4 = .ok (.iload_n 1, 1) := by decide +kernel
theorem dX0_hasGroup_5 : decode cX0_hasGroup 5 = .ok (.aload_n 0, 1) := by decide +kernel
theorem dX0_hasGroup_6 : decode cX0_hasGroup 6 = .ok (.invokevirtual 41, 3) := by decide +kernel
theorem dX0_hasGroup_9 : decode cX0_hasGroup 9 = .ok (.if_icmp .ge 7, 3) := by decide +kernel
theorem dX0_hasGroup_12 : decode cX0_hasGroup 12 = .ok (.iconst 1, 1) := by decide +kernel
theorem dX0_hasGroup_13 : decode cX0_hasGroup 13 = .ok (.goto 4, 3) := by decide +kernel
theorem dX0_hasGroup_16 : decode cX0_hasGroup 16 = .ok (.iconst 0, 1) := by decide +kernel
theorem dX0_hasGroup_17 : decode cX0_hasGroup 17 = .ok (.ireturn, 1) := by decide +kernel
theorem dX0_colourOf_0 : decode cX0_colourOf 0 = .ok (.aload_n 0, 1) := by decide +kernel
theorem dX0_colourOf_1 : decode cX0_colourOf 1 = .ok (.getfield 11, 3) := by decide +kernel
theorem dX0_colourOf_4 : decode cX0_colourOf 4 = .ok (.iconst 0, 1) := by decide +kernel
theorem dX0_colourOf_5 : decode cX0_colourOf 5 = .ok (.iload_n 1, 1) := by decide +kernel
theorem dX0_colourOf_6 : decode cX0_colourOf 6 = .ok (.iadd, 1) := by decide +kernel
theorem dX0_colourOf_7 : decode cX0_colourOf 7 = .ok (.invokestatic 25, 3) := by decide +kernel
theorem dX0_colourOf_10 : decode cX0_colourOf 10 = .ok (.ireturn, 1) := by decide +kernel
theorem dX0_setColour_0 : decode cX0_setColour 0 = .ok (.aload_n 0, 1) := by decide +kernel
theorem dX0_setColour_1 : decode cX0_setColour 1 = .ok (.getfield 11, 3) := by decide +kernel
theorem dX0_setColour_4 : decode cX0_setColour 4 = .ok (.iconst 0, 1) := by decide +kernel
theorem dX0_setColour_5 : decode cX0_setColour 5 = .ok (.iload_n 1, 1) := by decide +kernel
theorem dX0_setColour_6 : decode cX0_setColour 6 = .ok (.iadd, 1) := by decide +kernel
theorem dX0_setColour_7 : decode cX0_setColour 7 = .ok (.iload_n 2, 1) := by decide +kernel
theorem dX0_setColour_8 : decode cX0_setColour 8 = .ok (.invokestatic 44, 3) := by decide +kernel
theorem dX0_setColour_11 : decode cX0_setColour 11 = .ok (.return_, 1) := by decide +kernel
theorem dX0_sizeOf_0 : decode cX0_sizeOf 0 = .ok (.aload_n 0, 1) := by decide +kernel
theorem dX0_sizeOf_1 : decode cX0_sizeOf 1 = .ok (.getfield 11, 3) := by decide +kernel
theorem dX0_sizeOf_4 : decode cX0_sizeOf 4 = .ok (.bipush 16, 2) := by decide +kernel
theorem dX0_sizeOf_6 : decode cX0_sizeOf 6 = .ok (.iload_n 1, 1) := by decide +kernel
theorem dX0_sizeOf_7 : decode cX0_sizeOf 7 = .ok (.iadd, 1) := by decide +kernel
theorem dX0_sizeOf_8 : decode cX0_sizeOf 8 = .ok (.invokestatic 25, 3) := by decide +kernel
theorem dX0_sizeOf_11 : decode cX0_sizeOf 11 = .ok (.ireturn, 1) := by decide +kernel
theorem dX0_codeOf_0 : decode cX0_codeOf 0 = .ok (.aload_n 0, 1) := by decide +kernel
theorem dX0_codeOf_1 : decode cX0_codeOf 1 = .ok (.getfield 11, 3) := by decide +kernel
theorem dX0_codeOf_4 : decode cX0_codeOf 4 = .ok (.bipush 112, 2) := by decide +kernel
theorem dX0_codeOf_6 : decode cX0_codeOf 6 = .ok (.iconst 4, 1) := by decide +kernel
theorem dX0_codeOf_7 : decode cX0_codeOf 7 = .ok (.iload_n 1, 1) := by decide +kernel
theorem dX0_codeOf_8 : decode cX0_codeOf 8 = .ok (.imul, 1) := by decide +kernel
theorem dX0_codeOf_9 : decode cX0_codeOf 9 = .ok (.iadd, 1) := by decide +kernel
theorem dX0_codeOf_10 : decode cX0_codeOf 10 = .ok (.iload_n 2, 1) := by decide +kernel
theorem dX0_codeOf_11 : decode cX0_codeOf 11 = .ok (.iadd, 1) := by decide +kernel
theorem dX0_codeOf_12 : decode cX0_codeOf 12 = .ok (.invokestatic 25, 3) := by decide +kernel
theorem dX0_codeOf_15 : decode cX0_codeOf 15 = .ok (.ireturn, 1) := by decide +kernel
theorem dX0_setCode_0 : decode cX0_setCode 0 = .ok (.aload_n 0, 1) := by decide +kernel
theorem dX0_setCode_1 : decode cX0_setCode 1 = .ok (.getfield 11, 3) := by decide +kernel
theorem dX0_setCode_4 : decode cX0_setCode 4 = .ok (.bipush 112, 2) := by decide +kernel
theorem dX0_setCode_6 : decode cX0_setCode 6 = .ok (.iconst 4, 1) := by decide +kernel
theorem dX0_setCode_7 : decode cX0_setCode 7 = .ok (.iload_n 1, 1) := by decide +kernel
theorem dX0_setCode_8 : decode cX0_setCode 8 = .ok (.imul, 1) := by decide +kernel
theorem dX0_setCode_9 : decode cX0_setCode 9 = .ok (.iadd, 1) := by decide +kernel
theorem dX0_setCode_10 : decode cX0_setCode 10 = .ok (.iload_n 2, 1) := by decide +kernel
theorem dX0_setCode_11 : decode cX0_setCode 11 = .ok (.iadd, 1) := by decide +kernel
theorem dX0_setCode_12 : decode cX0_setCode 12 = .ok (.iload_n 3, 1) := by decide +kernel
theorem dX0_setCode_13 : decode cX0_setCode 13 = .ok (.invokestatic 44, 3) := by decide +kernel
theorem dX0_setCode_16 : decode cX0_setCode 16 = .ok (.return_, 1) := by decide +kernel
theorem dX0_valueOf_0 : decode cX0_valueOf 0 = .ok (.iconst 0, 1) := by decide +kernel
theorem dX0_valueOf_1 : decode cX0_valueOf 1 = .ok (.istore_n 2, 1) := by decide +kernel
theorem dX0_valueOf_2 : decode cX0_valueOf 2 = .ok (.iconst 0, 1) := by decide +kernel
theorem dX0_valueOf_3 : decode cX0_valueOf 3 = .ok (.istore_n 3, 1) := by decide +kernel
theorem dX0_valueOf_4 : decode cX0_valueOf 4 = .ok (.iload_n 3, 1) := by decide +kernel
theorem dX0_valueOf_5 : decode cX0_valueOf 5 = .ok (.aload_n 0, 1) := by decide +kernel
theorem dX0_valueOf_6 : decode cX0_valueOf 6 = .ok (.iload_n 1, 1) := by decide +kernel
theorem dX0_valueOf_7 : decode cX0_valueOf 7 = .ok (.invokevirtual 37, 3) := by decide +kernel
theorem dX0_valueOf_10 : decode cX0_valueOf 10 = .ok (.if_icmp .ge 42, 3) := by decide +kernel
theorem dX0_valueOf_13 : decode cX0_valueOf 13 = .ok (.aload_n 0, 1) := by decide +kernel
theorem dX0_valueOf_14 : decode cX0_valueOf 14 = .ok (.iload_n 1, 1) := by decide +kernel
theorem dX0_valueOf_15 : decode cX0_valueOf 15 = .ok (.iload_n 3, 1) := by decide +kernel
theorem dX0_valueOf_16 : decode cX0_valueOf 16 = .ok (.invokevirtual 48, 3) := by decide +kernel
theorem dX0_valueOf_19 : decode cX0_valueOf 19 = .ok (.istore 4, 2) := by decide +kernel
theorem dX0_valueOf_21 : decode cX0_valueOf 21 = .ok (.iload 4, 2) := by decide +kernel
theorem dX0_valueOf_23 : decode cX0_valueOf 23 = .ok (.iload_n 3, 1) := by decide +kernel
theorem dX0_valueOf_24 : decode cX0_valueOf 24 = .ok (.invokestatic 52, 3) := by decide +kernel
theorem dX0_valueOf_27 : decode cX0_valueOf 27 = .ok (.ifCond .ne 6, 3) := by decide +kernel
theorem dX0_valueOf_30 : decode cX0_valueOf 30 = .ok (.bipush (-4), 2) := by decide +kernel
theorem dX0_valueOf_32 : decode cX0_valueOf 32 = .ok (.ireturn, 1) := by decide +kernel
theorem dX0_valueOf_33 : decode cX0_valueOf 33 = .ok (.iload_n 2, 1) := by decide +kernel
theorem dX0_valueOf_34 : decode cX0_valueOf 34 = .ok (.iload 4, 2) := by decide +kernel
theorem dX0_valueOf_36 : decode cX0_valueOf 36 = .ok (.invokestatic 56, 3) := by decide +kernel
theorem dX0_valueOf_39 : decode cX0_valueOf 39 = .ok (.iload_n 3, 1) := by decide +kernel
theorem dX0_valueOf_40 : decode cX0_valueOf 40 = .ok (.invokestatic 59, 3) := by decide +kernel
theorem dX0_valueOf_43 : decode cX0_valueOf 43 = .ok (.imul, 1) := by decide +kernel
theorem dX0_valueOf_44 : decode cX0_valueOf 44 = .ok (.iadd, 1) := by decide +kernel
theorem dX0_valueOf_45 : decode cX0_valueOf 45 = .ok (.istore_n 2, 1) := by decide +kernel
theorem dX0_valueOf_46 : decode cX0_valueOf 46 = .ok (.iinc 3 1, 3) := by decide +kernel
theorem dX0_valueOf_49 : decode cX0_valueOf 49 = .ok (.goto (-45), 3) := by decide +kernel
theorem dX0_valueOf_52 : decode cX0_valueOf 52 = .ok (.iload_n 2, 1) := by decide +kernel
theorem dX0_valueOf_53 : decode cX0_valueOf 53 = .ok (.ireturn, 1) := by decide +kernel
theorem dX0_valueFromOtherEnd_0 : decode cX0_valueFromOtherEnd 0 = .ok (.iconst 0, 1) := by decide +kernel
theorem dX0_valueFromOtherEnd_1 : decode cX0_valueFromOtherEnd 1 = .ok (.istore_n 2, 1) := by decide +kernel
theorem dX0_valueFromOtherEnd_2 : decode cX0_valueFromOtherEnd 2 = .ok (.aload_n 0, 1) := by decide +kernel
theorem dX0_valueFromOtherEnd_3 : decode cX0_valueFromOtherEnd 3 = .ok (.iload_n 1, 1) := by decide +kernel
theorem dX0_valueFromOtherEnd_4 : decode cX0_valueFromOtherEnd 4 = .ok (.invokevirtual 37, 3) := by decide +kernel
theorem dX0_valueFromOtherEnd_7 : decode cX0_valueFromOtherEnd 7 = .ok (.istore_n 3, 1) := by decide +kernel
theorem dX0_valueFromOtherEnd_8 : decode cX0_valueFromOtherEnd 8 = .ok (.iconst 0, 1) := by decide +kernel
theorem dX0_valueFromOtherEnd_9 : decode cX0_valueFromOtherEnd 9 = .ok (.istore 4, 2) := by decide +kernel
theorem dX0_valueFromOtherEnd_11 : decode cX0_valueFromOtherEnd 11 = .ok (.iload 4, 2) := by decide +kernel
theorem dX0_valueFromOtherEnd_13 : decode cX0_valueFromOtherEnd 13 = .ok (.iload_n 3, 1) := by decide +kernel
theorem dX0_valueFromOtherEnd_14 : decode cX0_valueFromOtherEnd 14 = .ok (.if_icmp .ge 49, 3) := by decide +kernel
theorem dX0_valueFromOtherEnd_17 : decode cX0_valueFromOtherEnd 17 = .ok (.aload_n 0, 1) := by decide +kernel
theorem dX0_valueFromOtherEnd_18 : decode cX0_valueFromOtherEnd 18 = .ok (.iload_n 1, 1) := by decide +kernel
theorem dX0_valueFromOtherEnd_19 : decode cX0_valueFromOtherEnd 19 = .ok (.iload_n 3, 1) := by decide +kernel
theorem dX0_valueFromOtherEnd_20 : decode cX0_valueFromOtherEnd 20 = .ok (.iconst 1, 1) := by decide +kernel
theorem dX0_valueFromOtherEnd_21 : decode cX0_valueFromOtherEnd 21 = .ok (.isub, 1) := by decide +kernel
theorem dX0_valueFromOtherEnd_22 : decode cX0_valueFromOtherEnd 22 = .ok (.iload 4, 2) := by decide +kernel
theorem dX0_valueFromOtherEnd_24 : decode cX0_valueFromOtherEnd 24 = .ok (.isub, 1) := by decide +kernel
theorem dX0_valueFromOtherEnd_25 : decode cX0_valueFromOtherEnd 25 = .ok (.invokevirtual 48, 3) := by decide +kernel
theorem dX0_valueFromOtherEnd_28 : decode cX0_valueFromOtherEnd 28 = .ok (.istore 5, 2) := by decide +kernel
theorem dX0_valueFromOtherEnd_30 : decode cX0_valueFromOtherEnd 30 = .ok (.iload 5, 2) := by decide +kernel
theorem dX0_valueFromOtherEnd_32 : decode cX0_valueFromOtherEnd 32 = .ok (.iload 4, 2) := by decide +kernel
theorem dX0_valueFromOtherEnd_34 : decode cX0_valueFromOtherEnd 34 = .ok (.invokestatic 52, 3) := by decide +kernel
theorem dX0_valueFromOtherEnd_37 : decode cX0_valueFromOtherEnd 37 = .ok (.ifCond .ne 6, 3) := by decide +kernel
theorem dX0_valueFromOtherEnd_40 : decode cX0_valueFromOtherEnd 40 = .ok (.bipush (-4), 2) := by decide +kernel
theorem dX0_valueFromOtherEnd_42 : decode cX0_valueFromOtherEnd 42 = .ok (.ireturn, 1) := by decide +kernel
theorem dX0_valueFromOtherEnd_43 : decode cX0_valueFromOtherEnd 43 = .ok (.iload_n 2, 1) := by decide +kernel
theorem dX0_valueFromOtherEnd_44 : decode cX0_valueFromOtherEnd 44 = .ok (.iload 5, 2) := by decide +kernel
theorem dX0_valueFromOtherEnd_46 : decode cX0_valueFromOtherEnd 46 = .ok (.invokestatic 56, 3) := by decide +kernel
theorem dX0_valueFromOtherEnd_49 : decode cX0_valueFromOtherEnd 49 = .ok (.iload 4, 2) := by decide +kernel
theorem dX0_valueFromOtherEnd_51 : decode cX0_valueFromOtherEnd 51 = .ok (.invokestatic 59, 3) := by decide +kernel
theorem dX0_valueFromOtherEnd_54 : decode cX0_valueFromOtherEnd 54 = .ok (.imul, 1) := by decide +kernel
theorem dX0_valueFromOtherEnd_55 : decode cX0_valueFromOtherEnd 55 = .ok (.iadd, 1) := by decide +kernel
theorem dX0_valueFromOtherEnd_56 : decode cX0_valueFromOtherEnd 56 = .ok (.istore_n 2, 1) := by decide +kernel
theorem dX0_valueFromOtherEnd_57 : decode cX0_valueFromOtherEnd 57 = .ok (.iinc 4 1, 3) := by decide +kernel
theorem dX0_valueFromOtherEnd_60 : decode cX0_valueFromOtherEnd 60 = .ok (.goto (-49), 3) := by decide +kernel
theorem dX0_valueFromOtherEnd_63 : decode cX0_valueFromOtherEnd 63 = .ok (.iload_n 2, 1) := by decide +kernel
theorem dX0_valueFromOtherEnd_64 : decode cX0_valueFromOtherEnd 64 = .ok (.ireturn, 1) := by decide +kernel
theorem dX0_told_0 : decode cX0_told 0 = .ok (.aload_n 0, 1) := by decide +kernel
theorem dX0_told_1 : decode cX0_told 1 = .ok (.iload_n 1, 1) := by decide +kernel
theorem dX0_told_2 : decode cX0_told 2 = .ok (.invokevirtual 62, 3) := by decide +kernel
theorem dX0_told_5 : decode cX0_told 5 = .ok (.iconst 0, 1) := by decide +kernel
theorem dX0_told_6 : decode cX0_told 6 = .ok (.invokestatic 65, 3) := by decide +kernel
theorem dX0_told_9 : decode cX0_told 9 = .ok (.ireturn, 1) := by decide +kernel
theorem dX0_mostOn_0 : decode cX0_mostOn 0 = .ok (.aload_n 0, 1) := by decide +kernel
theorem dX0_mostOn_1 : decode cX0_mostOn 1 = .ok (.iload_n 1, 1) := by decide +kernel
theorem dX0_mostOn_2 : decode cX0_mostOn 2 = .ok (.invokevirtual 37, 3) := by decide +kernel
theorem dX0_mostOn_5 : decode cX0_mostOn 5 = .ok (.invokestatic 59, 3) := by decide +kernel
theorem dX0_mostOn_8 : decode cX0_mostOn 8 = .ok (.iconst 1, 1) := by decide +kernel
theorem dX0_mostOn_9 : decode cX0_mostOn 9 = .ok (.isub, 1) := by decide +kernel
theorem dX0_mostOn_10 : decode cX0_mostOn 10 = .ok (.ireturn, 1) := by decide +kernel
theorem dX0_knotsOf_0 : decode cX0_knotsOf 0 = .ok (.iconst 0, 1) := by decide +kernel
theorem dX0_knotsOf_1 : decode cX0_knotsOf 1 = .ok (.istore_n 2, 1) := by decide +kernel
theorem dX0_knotsOf_2 : decode cX0_knotsOf 2 = .ok (.iconst 0, 1) := by decide +kernel
theorem dX0_knotsOf_3 : decode cX0_knotsOf 3 = .ok (.istore_n 3, 1) := by decide +kernel
theorem dX0_knotsOf_4 : decode cX0_knotsOf 4 = .ok (.iload_n 3, 1) := by decide +kernel
theorem dX0_knotsOf_5 : decode cX0_knotsOf 5 = .ok (.aload_n 0, 1) := by decide +kernel
theorem dX0_knotsOf_6 : decode cX0_knotsOf 6 = .ok (.iload_n 1, 1) := by decide +kernel
theorem dX0_knotsOf_7 : decode cX0_knotsOf 7 = .ok (.invokevirtual 37, 3) := by decide +kernel
theorem dX0_knotsOf_10 : decode cX0_knotsOf 10 = .ok (.if_icmp .ge 21, 3) := by decide +kernel
theorem dX0_knotsOf_13 : decode cX0_knotsOf 13 = .ok (.iload_n 2, 1) := by decide +kernel
theorem dX0_knotsOf_14 : decode cX0_knotsOf 14 = .ok (.aload_n 0, 1) := by decide +kernel
theorem dX0_knotsOf_15 : decode cX0_knotsOf 15 = .ok (.iload_n 1, 1) := by decide +kernel
theorem dX0_knotsOf_16 : decode cX0_knotsOf 16 = .ok (.iload_n 3, 1) := by decide +kernel
theorem dX0_knotsOf_17 : decode cX0_knotsOf 17 = .ok (.invokevirtual 48, 3) := by decide +kernel
theorem dX0_knotsOf_20 : decode cX0_knotsOf 20 = .ok (.invokestatic 70, 3) := by decide +kernel
theorem dX0_knotsOf_23 : decode cX0_knotsOf 23 = .ok (.iadd, 1) := by decide +kernel
theorem dX0_knotsOf_24 : decode cX0_knotsOf 24 = .ok (.istore_n 2, 1) := by decide +kernel
theorem dX0_knotsOf_25 : decode cX0_knotsOf 25 = .ok (.iinc 3 1, 3) := by decide +kernel
theorem dX0_knotsOf_28 : decode cX0_knotsOf 28 = .ok (.goto (-24), 3) := by decide +kernel
theorem dX0_knotsOf_31 : decode cX0_knotsOf 31 = .ok (.iload_n 2, 1) := by decide +kernel
theorem dX0_knotsOf_32 : decode cX0_knotsOf 32 = .ok (.ireturn, 1) := by decide +kernel
theorem dX0_workToTell_0 : decode cX0_workToTell 0 = .ok (.iconst 0, 1) := by decide +kernel
theorem dX0_workToTell_1 : decode cX0_workToTell 1 = .ok (.istore_n 3, 1) := by decide +kernel
theorem dX0_workToTell_2 : decode cX0_workToTell 2 = .ok (.iload_n 2, 1) := by decide +kernel
theorem dX0_workToTell_3 : decode cX0_workToTell 3 = .ok (.istore 4, 2) := by decide +kernel
theorem dX0_workToTell_5 : decode cX0_workToTell 5 = .ok (.iconst 0, 1) := by decide +kernel
theorem dX0_workToTell_6 : decode cX0_workToTell 6 = .ok (.istore 5, 2) := by decide +kernel
theorem dX0_workToTell_8 : decode cX0_workToTell 8 = .ok (.iload 5, 2) := by decide +kernel
theorem dX0_workToTell_10 : decode cX0_workToTell 10 = .ok (.aload_n 0, 1) := by decide +kernel
theorem dX0_workToTell_11 : decode cX0_workToTell 11 = .ok (.iload_n 1, 1) := by decide +kernel
theorem dX0_workToTell_12 : decode cX0_workToTell 12 = .ok (.invokevirtual 37, 3) := by decide +kernel
theorem dX0_workToTell_15 : decode cX0_workToTell 15 = .ok (.if_icmp .ge 62, 3) := by decide +kernel
theorem dX0_workToTell_18 : decode cX0_workToTell 18 = .ok (.aload_n 0, 1) := by decide +kernel
theorem dX0_workToTell_19 : decode cX0_workToTell 19 = .ok (.iload_n 1, 1) := by decide +kernel
theorem dX0_workToTell_20 : decode cX0_workToTell 20 = .ok (.iload 5, 2) := by decide +kernel
theorem dX0_workToTell_22 : decode cX0_workToTell 22 = .ok (.invokevirtual 48, 3) := by decide +kernel
theorem dX0_workToTell_25 : decode cX0_workToTell 25 = .ok (.istore 6, 2) := by decide +kernel
theorem dX0_workToTell_27 : decode cX0_workToTell 27 = .ok (.iload 4, 2) := by decide +kernel
theorem dX0_workToTell_29 : decode cX0_workToTell 29 = .ok (.bipush 10, 2) := by decide +kernel
theorem dX0_workToTell_31 : decode cX0_workToTell 31 = .ok (.irem, 1) := by decide +kernel
theorem dX0_workToTell_32 : decode cX0_workToTell 32 = .ok (.iload 5, 2) := by decide +kernel
theorem dX0_workToTell_34 : decode cX0_workToTell 34 = .ok (.invokestatic 73, 3) := by decide +kernel
theorem dX0_workToTell_37 : decode cX0_workToTell 37 = .ok (.istore 7, 2) := by decide +kernel
theorem dX0_workToTell_39 : decode cX0_workToTell 39 = .ok (.iload_n 3, 1) := by decide +kernel
theorem dX0_workToTell_40 : decode cX0_workToTell 40 = .ok (.iload 6, 2) := by decide +kernel
theorem dX0_workToTell_42 : decode cX0_workToTell 42 = .ok (.iload 7, 2) := by decide +kernel
theorem dX0_workToTell_44 : decode cX0_workToTell 44 = .ok (.if_icmp .ne 7, 3) := by decide +kernel
theorem dX0_workToTell_47 : decode cX0_workToTell 47 = .ok (.iconst 0, 1) := by decide +kernel
theorem dX0_workToTell_48 : decode cX0_workToTell 48 = .ok (.goto 14, 3) := by decide +kernel
theorem dX0_workToTell_51 : decode cX0_workToTell 51 = .ok (.iload 6, 2) := by decide +kernel
theorem dX0_workToTell_53 : decode cX0_workToTell 53 = .ok (.invokestatic 70, 3) := by decide +kernel
theorem dX0_workToTell_56 : decode cX0_workToTell 56 = .ok (.iload 7, 2) := by decide +kernel
theorem dX0_workToTell_58 : decode cX0_workToTell 58 = .ok (.invokestatic 70, 3) := by decide +kernel
theorem dX0_workToTell_61 : decode cX0_workToTell 61 = .ok (.iadd, 1) := by decide +kernel
theorem dX0_workToTell_62 : decode cX0_workToTell 62 = .ok (.iadd, 1) := by decide +kernel
theorem dX0_workToTell_63 : decode cX0_workToTell 63 = .ok (.istore_n 3, 1) := by decide +kernel
theorem dX0_workToTell_64 : decode cX0_workToTell 64 = .ok (.iload 4, 2) := by decide +kernel
theorem dX0_workToTell_66 : decode cX0_workToTell 66 = .ok (.bipush 10, 2) := by decide +kernel
theorem dX0_workToTell_68 : decode cX0_workToTell 68 = .ok (.idiv, 1) := by decide +kernel
theorem dX0_workToTell_69 : decode cX0_workToTell 69 = .ok (.istore 4, 2) := by decide +kernel
theorem dX0_workToTell_71 : decode cX0_workToTell 71 = .ok (.iinc 5 1, 3) := by decide +kernel
theorem dX0_workToTell_74 : decode cX0_workToTell 74 = .ok (.goto (-66), 3) := by decide +kernel
theorem dX0_workToTell_77 : decode cX0_workToTell 77 = .ok (.iload_n 3, 1) := by decide +kernel
theorem dX0_workToTell_78 : decode cX0_workToTell 78 = .ok (.ireturn, 1) := by decide +kernel
theorem dX0_tell_0 : decode cX0_tell 0 = .ok (.iload_n 2, 1) := by decide +kernel
theorem dX0_tell_1 : decode cX0_tell 1 = .ok (.istore_n 3, 1) := by decide +kernel
theorem dX0_tell_2 : decode cX0_tell 2 = .ok (.iconst 0, 1) := by decide +kernel
theorem dX0_tell_3 : decode cX0_tell 3 = .ok (.istore 4, 2) := by decide +kernel
theorem dX0_tell_5 : decode cX0_tell 5 = .ok (.iload 4, 2) := by decide +kernel
theorem dX0_tell_7 : decode cX0_tell 7 = .ok (.aload_n 0, 1) := by decide +kernel
theorem dX0_tell_8 : decode cX0_tell 8 = .ok (.iload_n 1, 1) := by decide +kernel
theorem dX0_tell_9 : decode cX0_tell 9 = .ok (.invokevirtual 37, 3) := by decide +kernel
theorem dX0_tell_12 : decode cX0_tell 12 = .ok (.if_icmp .ge 30, 3) := by decide +kernel
theorem dX0_tell_15 : decode cX0_tell 15 = .ok (.aload_n 0, 1) := by decide +kernel
theorem dX0_tell_16 : decode cX0_tell 16 = .ok (.iload_n 1, 1) := by decide +kernel
theorem dX0_tell_17 : decode cX0_tell 17 = .ok (.iload 4, 2) := by decide +kernel
theorem dX0_tell_19 : decode cX0_tell 19 = .ok (.iload_n 3, 1) := by decide +kernel
theorem dX0_tell_20 : decode cX0_tell 20 = .ok (.bipush 10, 2) := by decide +kernel
theorem dX0_tell_22 : decode cX0_tell 22 = .ok (.irem, 1) := by decide +kernel
theorem dX0_tell_23 : decode cX0_tell 23 = .ok (.iload 4, 2) := by decide +kernel
theorem dX0_tell_25 : decode cX0_tell 25 = .ok (.invokestatic 73, 3) := by decide +kernel
theorem dX0_tell_28 : decode cX0_tell 28 = .ok (.invokevirtual 76, 3) := by decide +kernel
theorem dX0_tell_31 : decode cX0_tell 31 = .ok (.iload_n 3, 1) := by decide +kernel
theorem dX0_tell_32 : decode cX0_tell 32 = .ok (.bipush 10, 2) := by decide +kernel
theorem dX0_tell_34 : decode cX0_tell 34 = .ok (.idiv, 1) := by decide +kernel
theorem dX0_tell_35 : decode cX0_tell 35 = .ok (.istore_n 3, 1) := by decide +kernel
theorem dX0_tell_36 : decode cX0_tell 36 = .ok (.iinc 4 1, 3) := by decide +kernel
theorem dX0_tell_39 : decode cX0_tell 39 = .ok (.goto (-34), 3) := by decide +kernel
theorem dX0_tell_42 : decode cX0_tell 42 = .ok (.return_, 1) := by decide +kernel
theorem dX0_looksLike_0 : decode cX0_looksLike 0 = .ok (.aload_n 0, 1) := by decide +kernel
theorem dX0_looksLike_1 : decode cX0_looksLike 1 = .ok (.iload_n 1, 1) := by decide +kernel
theorem dX0_looksLike_2 : decode cX0_looksLike 2 = .ok (.invokevirtual 80, 3) := by decide +kernel
theorem dX0_looksLike_5 : decode cX0_looksLike 5 = .ok (.aload_n 0, 1) := by decide +kernel
theorem dX0_looksLike_6 : decode cX0_looksLike 6 = .ok (.iload_n 2, 1) := by decide +kernel
theorem dX0_looksLike_7 : decode cX0_looksLike 7 = .ok (.invokevirtual 80, 3) := by decide +kernel
theorem dX0_looksLike_10 : decode cX0_looksLike 10 = .ok (.if_icmp .ne 20, 3) := by decide +kernel
theorem dX0_looksLike_13 : decode cX0_looksLike 13 = .ok (.aload_n 0, 1) := by decide +kernel
theorem dX0_looksLike_14 : decode cX0_looksLike 14 = .ok (.iload_n 1, 1) := by decide +kernel
theorem dX0_looksLike_15 : decode cX0_looksLike 15 = .ok (.invokevirtual 37, 3) := by decide +kernel
theorem dX0_looksLike_18 : decode cX0_looksLike 18 = .ok (.aload_n 0, 1) := by decide +kernel
theorem dX0_looksLike_19 : decode cX0_looksLike 19 = .ok (.iload_n 2, 1) := by decide +kernel
theorem dX0_looksLike_20 : decode cX0_looksLike 20 = .ok (.invokevirtual 37, 3) := by decide +kernel
theorem dX0_looksLike_23 : decode cX0_looksLike 23 = .ok (.if_icmp .ne 7, 3) := by decide +kernel
theorem dX0_looksLike_26 : decode cX0_looksLike 26 = .ok (.iconst 1, 1) := by decide +kernel
theorem dX0_looksLike_27 : decode cX0_looksLike 27 = .ok (.goto 4, 3) := by decide +kernel
theorem dX0_looksLike_30 : decode cX0_looksLike 30 = .ok (.iconst 0, 1) := by decide +kernel
theorem dX0_looksLike_31 : decode cX0_looksLike 31 = .ok (.istore_n 3, 1) := by decide +kernel
theorem dX0_looksLike_32 : decode cX0_looksLike 32 = .ok (.iconst 0, 1) := by decide +kernel
theorem dX0_looksLike_33 : decode cX0_looksLike 33 = .ok (.istore 4, 2) := by decide +kernel
theorem dX0_looksLike_35 : decode cX0_looksLike 35 = .ok (.iload_n 3, 1) := by decide +kernel
theorem dX0_looksLike_36 : decode cX0_looksLike 36 = .ok (.ifCond .eq 42, 3) := by decide +kernel
theorem dX0_looksLike_39 : decode cX0_looksLike 39 = .ok (.iload 4, 2) := by decide +kernel
theorem dX0_looksLike_41 : decode cX0_looksLike 41 = .ok (.aload_n 0, 1) := by decide +kernel
theorem dX0_looksLike_42 : decode cX0_looksLike 42 = .ok (.iload_n 1, 1) := by decide +kernel
theorem dX0_looksLike_43 : decode cX0_looksLike 43 = .ok (.invokevirtual 37, 3) := by decide +kernel
theorem dX0_looksLike_46 : decode cX0_looksLike 46 = .ok (.if_icmp .ge 32, 3) := by decide +kernel
theorem dX0_looksLike_49 : decode cX0_looksLike 49 = .ok (.aload_n 0, 1) := by decide +kernel
theorem dX0_looksLike_50 : decode cX0_looksLike 50 = .ok (.iload_n 1, 1) := by decide +kernel
theorem dX0_looksLike_51 : decode cX0_looksLike 51 = .ok (.iload 4, 2) := by decide +kernel
theorem dX0_looksLike_53 : decode cX0_looksLike 53 = .ok (.invokevirtual 48, 3) := by decide +kernel
theorem dX0_looksLike_56 : decode cX0_looksLike 56 = .ok (.aload_n 0, 1) := by decide +kernel
theorem dX0_looksLike_57 : decode cX0_looksLike 57 = .ok (.iload_n 2, 1) := by decide +kernel
theorem dX0_looksLike_58 : decode cX0_looksLike 58 = .ok (.iload 4, 2) := by decide +kernel
theorem dX0_looksLike_60 : decode cX0_looksLike 60 = .ok (.invokevirtual 48, 3) := by decide +kernel
theorem dX0_looksLike_63 : decode cX0_looksLike 63 = .ok (.if_icmp .ne 7, 3) := by decide +kernel
theorem dX0_looksLike_66 : decode cX0_looksLike 66 = .ok (.iconst 1, 1) := by decide +kernel
theorem dX0_looksLike_67 : decode cX0_looksLike 67 = .ok (.goto 4, 3) := by decide +kernel
theorem dX0_looksLike_70 : decode cX0_looksLike 70 = .ok (.iconst 0, 1) := by decide +kernel
theorem dX0_looksLike_71 : decode cX0_looksLike 71 = .ok (.istore_n 3, 1) := by decide +kernel
theorem dX0_looksLike_72 : decode cX0_looksLike 72 = .ok (.iinc 4 1, 3) := by decide +kernel
theorem dX0_looksLike_75 : decode cX0_looksLike 75 = .ok (.goto (-40), 3) := by decide +kernel
theorem dX0_looksLike_78 : decode cX0_looksLike 78 = .ok (.iload_n 3, 1) := by decide +kernel
theorem dX0_looksLike_79 : decode cX0_looksLike 79 = .ok (.ireturn, 1) := by decide +kernel
theorem dX0_holderOf_0 : decode cX0_holderOf 0 = .ok (.iload_n 1, 1) := by decide +kernel
theorem dX0_holderOf_1 : decode cX0_holderOf 1 = .ok (.ifCond .lt 23, 3) := by decide +kernel
theorem dX0_holderOf_4 : decode cX0_holderOf 4 = .ok (.iload_n 1, 1) := by decide +kernel
theorem dX0_holderOf_5 : decode cX0_holderOf 5 = .ok (.bipush 16, 2) := by decide +kernel
theorem dX0_holderOf_7 : decode cX0_holderOf 7 = .ok (.if_icmp .ge 17, 3) := by decide +kernel
theorem dX0_holderOf_10 : decode cX0_holderOf 10 = .ok (.aload_n 0, 1) := by decide +kernel
theorem dX0_holderOf_11 : decode cX0_holderOf 11 = .ok (.getfield 11, 3) := by decide +kernel
theorem dX0_holderOf_14 : decode cX0_holderOf 14 = .ok (.bipush 32, 2) := by decide +kernel
theorem dX0_holderOf_16 : decode cX0_holderOf 16 = .ok (.iload_n 1, 1) := by decide +kernel
theorem dX0_holderOf_17 : decode cX0_holderOf 17 = .ok (.iadd, 1) := by decide +kernel
theorem dX0_holderOf_18 : decode cX0_holderOf 18 = .ok (.invokestatic 25, 3) := by decide +kernel
theorem dX0_holderOf_21 : decode cX0_holderOf 21 = .ok (.goto 5, 3) := by decide +kernel
theorem dX0_holderOf_24 : decode cX0_holderOf 24 = .ok (.bipush (-4), 2) := by decide +kernel
theorem dX0_holderOf_26 : decode cX0_holderOf 26 = .ok (.ireturn, 1) := by decide +kernel
theorem dX0_depthOf_0 : decode cX0_depthOf 0 = .ok (.aload_n 0, 1) := by decide +kernel
theorem dX0_depthOf_1 : decode cX0_depthOf 1 = .ok (.getfield 11, 3) := by decide +kernel
theorem dX0_depthOf_4 : decode cX0_depthOf 4 = .ok (.bipush 48, 2) := by decide +kernel
theorem dX0_depthOf_6 : decode cX0_depthOf 6 = .ok (.iload_n 1, 1) := by decide +kernel
theorem dX0_depthOf_7 : decode cX0_depthOf 7 = .ok (.iadd, 1) := by decide +kernel
theorem dX0_depthOf_8 : decode cX0_depthOf 8 = .ok (.invokestatic 25, 3) := by decide +kernel
theorem dX0_depthOf_11 : decode cX0_depthOf 11 = .ok (.ireturn, 1) := by decide +kernel
theorem dX0_groupOf_0 : decode cX0_groupOf 0 = .ok (.aload_n 0, 1) := by decide +kernel
theorem dX0_groupOf_1 : decode cX0_groupOf 1 = .ok (.getfield 11, 3) := by decide +kernel
theorem dX0_groupOf_4 : decode cX0_groupOf 4 = .ok (.bipush 80, 2) := by decide +kernel
theorem dX0_groupOf_6 : decode cX0_groupOf 6 = .ok (.iload_n 1, 1) := by decide +kernel
theorem dX0_groupOf_7 : decode cX0_groupOf 7 = .ok (.iadd, 1) := by decide +kernel
theorem dX0_groupOf_8 : decode cX0_groupOf 8 = .ok (.invokestatic 25, 3) := by decide +kernel
theorem dX0_groupOf_11 : decode cX0_groupOf 11 = .ok (.ireturn, 1) := by decide +kernel
theorem dX0_isTop_0 : decode cX0_isTop 0 = .ok (.aload_n 0, 1) := by decide +kernel
theorem dX0_isTop_1 : decode cX0_isTop 1 = .ok (.getfield 11, 3) := by decide +kernel
theorem dX0_isTop_4 : decode cX0_isTop 4 = .ok (.bipush 64, 2) := by decide +kernel
theorem dX0_isTop_6 : decode cX0_isTop 6 = .ok (.iload_n 1, 1) := by decide +kernel
theorem dX0_isTop_7 : decode cX0_isTop 7 = .ok (.iadd, 1) := by decide +kernel
theorem dX0_isTop_8 : decode cX0_isTop 8 = .ok (.invokestatic 25, 3) := by decide +kernel
theorem dX0_isTop_11 : decode cX0_isTop 11 = .ok (.iconst 1, 1) := by decide +kernel
theorem dX0_isTop_12 : decode cX0_isTop 12 = .ok (.if_icmp .ne 7, 3) := by decide +kernel
theorem dX0_isTop_15 : decode cX0_isTop 15 = .ok (.iconst 1, 1) := by decide +kernel
theorem dX0_isTop_16 : decode cX0_isTop 16 = .ok (.goto 4, 3) := by decide +kernel
theorem dX0_isTop_19 : decode cX0_isTop 19 = .ok (.iconst 0, 1) := by decide +kernel
theorem dX0_isTop_20 : decode cX0_isTop 20 = .ok (.ireturn, 1) := by decide +kernel
theorem dX0_isPlainPendant_0 : decode cX0_isPlainPendant 0 = .ok (.aload_n 0, 1) := by decide +kernel
theorem dX0_isPlainPendant_1 : decode cX0_isPlainPendant 1 = .ok (.iload_n 1, 1) := by decide +kernel
theorem dX0_isPlainPendant_2 : decode cX0_isPlainPendant 2 = .ok (.invokevirtual 33, 3) := by decide +kernel
theorem dX0_isPlainPendant_5 : decode cX0_isPlainPendant 5 = .ok (.ifCond .eq 23, 3) := by decide +kernel
theorem dX0_isPlainPendant_8 : decode cX0_isPlainPendant 8 = .ok (.aload_n 0, 1) := by decide +kernel
theorem dX0_isPlainPendant_9 : decode cX0_isPlainPendant 9 = .ok (.iload_n 1, 1) := by decide +kernel
theorem dX0_isPlainPendant_10 : decode cX0_isPlainPendant 10 = .ok (.invokevirtual 83, 3) := by decide +kernel
theorem dX0_isPlainPendant_13 : decode cX0_isPlainPendant 13 = .ok (.ifCond .ne 15, 3) := by decide +kernel
theorem dX0_isPlainPendant_16 : decode cX0_isPlainPendant 16 = .ok (.aload_n 0, 1) := by decide +kernel
theorem dX0_isPlainPendant_17 : decode cX0_isPlainPendant 17 = .ok (.iload_n 1, 1) := by decide +kernel
theorem dX0_isPlainPendant_18 : decode cX0_isPlainPendant 18 = .ok (.invokevirtual 86, 3) := by decide +kernel
theorem dX0_isPlainPendant_21 : decode cX0_isPlainPendant 21 = .ok (.ifCond .ne 7, 3) := by decide +kernel
theorem dX0_isPlainPendant_24 : decode cX0_isPlainPendant 24 = .ok (.iconst 1, 1) := by decide +kernel
theorem dX0_isPlainPendant_25 : decode cX0_isPlainPendant 25 = .ok (.goto 4, 3) := by decide +kernel
theorem dX0_isPlainPendant_28 : decode cX0_isPlainPendant 28 = .ok (.iconst 0, 1) := by decide +kernel
theorem dX0_isPlainPendant_29 : decode cX0_isPlainPendant 29 = .ok (.ireturn, 1) := by decide +kernel
theorem dX0_isIn_0 : decode cX0_isIn 0 = .ok (.aload_n 0, 1) := by decide +kernel
theorem dX0_isIn_1 : decode cX0_isIn 1 = .ok (.iload_n 1, 1) := by decide +kernel
theorem dX0_isIn_2 : decode cX0_isIn 2 = .ok (.invokevirtual 83, 3) := by decide +kernel
theorem dX0_isIn_5 : decode cX0_isIn 5 = .ok (.ifCond .ne 16, 3) := by decide +kernel
theorem dX0_isIn_8 : decode cX0_isIn 8 = .ok (.aload_n 0, 1) := by decide +kernel
theorem dX0_isIn_9 : decode cX0_isIn 9 = .ok (.iload_n 1, 1) := by decide +kernel
theorem dX0_isIn_10 : decode cX0_isIn 10 = .ok (.invokevirtual 89, 3) := by decide +kernel
theorem dX0_isIn_13 : decode cX0_isIn 13 = .ok (.iload_n 2, 1) := by decide +kernel
theorem dX0_isIn_14 : decode cX0_isIn 14 = .ok (.if_icmp .ne 7, 3) := by decide +kernel
theorem dX0_isIn_17 : decode cX0_isIn 17 = .ok (.iconst 1, 1) := by decide +kernel
theorem dX0_isIn_18 : decode cX0_isIn 18 = .ok (.goto 4, 3) := by decide +kernel
theorem dX0_isIn_21 : decode cX0_isIn 21 = .ok (.iconst 0, 1) := by decide +kernel
theorem dX0_isIn_22 : decode cX0_isIn 22 = .ok (.ireturn, 1) := by decide +kernel
theorem dX0_isFrom_0 : decode cX0_isFrom 0 = .ok (.aload_n 0, 1) := by decide +kernel
theorem dX0_isFrom_1 : decode cX0_isFrom 1 = .ok (.iload_n 1, 1) := by decide +kernel
theorem dX0_isFrom_2 : decode cX0_isFrom 2 = .ok (.invokevirtual 92, 3) := by decide +kernel
theorem dX0_isFrom_5 : decode cX0_isFrom 5 = .ok (.istore_n 3, 1) := by decide +kernel
theorem dX0_isFrom_6 : decode cX0_isFrom 6 = .ok (.iload_n 1, 1) := by decide +kernel
theorem dX0_isFrom_7 : decode cX0_isFrom 7 = .ok (.iload_n 2, 1) := by decide +kernel
theorem dX0_isFrom_8 : decode cX0_isFrom 8 = .ok (.if_icmp .eq 23, 3) := by decide +kernel
theorem dX0_isFrom_11 : decode cX0_isFrom 11 = .ok (.iload_n 3, 1) := by decide +kernel
theorem dX0_isFrom_12 : decode cX0_isFrom 12 = .ok (.iload_n 2, 1) := by decide +kernel
theorem dX0_isFrom_13 : decode cX0_isFrom 13 = .ok (.if_icmp .eq 18, 3) := by decide +kernel
theorem dX0_isFrom_16 : decode cX0_isFrom 16 = .ok (.iload_n 3, 1) := by decide +kernel
theorem dX0_isFrom_17 : decode cX0_isFrom 17 = .ok (.bipush (-4), 2) := by decide +kernel
theorem dX0_isFrom_19 : decode cX0_isFrom 19 = .ok (.if_icmp .eq 16, 3) := by decide +kernel
theorem dX0_isFrom_22 : decode cX0_isFrom 22 = .ok (.aload_n 0, 1) := by decide +kernel
theorem dX0_isFrom_23 : decode cX0_isFrom 23 = .ok (.iload_n 3, 1) := by decide +kernel
theorem dX0_isFrom_24 : decode cX0_isFrom 24 = .ok (.invokevirtual 92, 3) := by decide +kernel
theorem dX0_isFrom_27 : decode cX0_isFrom 27 = .ok (.iload_n 2, 1) := by decide +kernel
theorem dX0_isFrom_28 : decode cX0_isFrom 28 = .ok (.if_icmp .ne 7, 3) := by decide +kernel
theorem dX0_isFrom_31 : decode cX0_isFrom 31 = .ok (.iconst 1, 1) := by decide +kernel
theorem dX0_isFrom_32 : decode cX0_isFrom 32 = .ok (.goto 4, 3) := by decide +kernel
theorem dX0_isFrom_35 : decode cX0_isFrom 35 = .ok (.iconst 0, 1) := by decide +kernel
theorem dX0_isFrom_36 : decode cX0_isFrom 36 = .ok (.ireturn, 1) := by decide +kernel
theorem dX0_pendantAbove_0 : decode cX0_pendantAbove 0 = .ok (.iload_n 1, 1) := by decide +kernel
theorem dX0_pendantAbove_1 : decode cX0_pendantAbove 1 = .ok (.istore_n 2, 1) := by decide +kernel
theorem dX0_pendantAbove_2 : decode cX0_pendantAbove 2 = .ok (.iconst 0, 1) := by decide +kernel
theorem dX0_pendantAbove_3 : decode cX0_pendantAbove 3 = .ok (.istore_n 3, 1) := by decide +kernel
theorem dX0_pendantAbove_4 : decode cX0_pendantAbove 4 = .ok (.iload_n 3, 1) := by decide +kernel
theorem dX0_pendantAbove_5 : decode cX0_pendantAbove 5 = .ok (.iconst 2, 1) := by decide +kernel
theorem dX0_pendantAbove_6 : decode cX0_pendantAbove 6 = .ok (.if_icmp .ge 25, 3) := by decide +kernel
theorem dX0_pendantAbove_9 : decode cX0_pendantAbove 9 = .ok (.aload_n 0, 1) := by decide +kernel
theorem dX0_pendantAbove_10 : decode cX0_pendantAbove 10 = .ok (.iload_n 2, 1) := by decide +kernel
theorem dX0_pendantAbove_11 : decode cX0_pendantAbove 11 = .ok (.invokevirtual 92, 3) := by decide +kernel
theorem dX0_pendantAbove_14 : decode cX0_pendantAbove 14 = .ok (.bipush (-4), 2) := by decide +kernel
theorem dX0_pendantAbove_16 : decode cX0_pendantAbove 16 = .ok (.if_icmp .eq 15, 3) := by decide +kernel
theorem dX0_pendantAbove_19 : decode cX0_pendantAbove 19 = .ok (.aload_n 0, 1) := by decide +kernel
theorem dX0_pendantAbove_20 : decode cX0_pendantAbove 20 = .ok (.iload_n 2, 1) := by decide +kernel
theorem dX0_pendantAbove_21 : decode cX0_pendantAbove 21 = .ok (.invokevirtual 92, 3) := by decide +kernel
theorem dX0_pendantAbove_24 : decode cX0_pendantAbove 24 = .ok (.istore_n 2, 1) := by decide +kernel
theorem dX0_pendantAbove_25 : decode cX0_pendantAbove 25 = .ok (.iinc 3 1, 3) := by decide +kernel
theorem dX0_pendantAbove_28 : decode cX0_pendantAbove 28 = .ok (.goto (-24), 3) := by decide +kernel
theorem dX0_pendantAbove_31 : decode cX0_pendantAbove 31 = .ok (.iload_n 2, 1) := by decide +kernel
theorem dX0_pendantAbove_32 : decode cX0_pendantAbove 32 = .ok (.ireturn, 1) := by decide +kernel
theorem dX0_hangingFrom_0 : decode cX0_hangingFrom 0 = .ok (.iconst 0, 1) := by decide +kernel
theorem dX0_hangingFrom_1 : decode cX0_hangingFrom 1 = .ok (.istore_n 2, 1) := by decide +kernel
theorem dX0_hangingFrom_2 : decode cX0_hangingFrom 2 = .ok (.iconst 0, 1) := by decide +kernel
theorem dX0_hangingFrom_3 : decode cX0_hangingFrom 3 = .ok (.istore_n 3, 1) := by decide +kernel
theorem dX0_hangingFrom_4 : decode cX0_hangingFrom 4 = .ok (.iload_n 3, 1) := by decide +kernel
theorem dX0_hangingFrom_5 : decode cX0_hangingFrom 5 = .ok (.aload_n 0, 1) := by decide +kernel
theorem dX0_hangingFrom_6 : decode cX0_hangingFrom 6 = .ok (.invokevirtual 29, 3) := by decide +kernel
theorem dX0_hangingFrom_9 : decode cX0_hangingFrom 9 = .ok (.if_icmp .ge 26, 3) := by decide +kernel
theorem dX0_hangingFrom_12 : decode cX0_hangingFrom 12 = .ok (.iload_n 2, 1) := by decide +kernel
theorem dX0_hangingFrom_13 : decode cX0_hangingFrom 13 = .ok (.aload_n 0, 1) := by decide +kernel
theorem dX0_hangingFrom_14 : decode cX0_hangingFrom 14 = .ok (.iload_n 3, 1) := by decide +kernel
theorem dX0_hangingFrom_15 : decode cX0_hangingFrom 15 = .ok (.invokevirtual 92, 3) := by decide +kernel
theorem dX0_hangingFrom_18 : decode cX0_hangingFrom 18 = .ok (.iload_n 1, 1) := by decide +kernel
theorem dX0_hangingFrom_19 : decode cX0_hangingFrom 19 = .ok (.if_icmp .ne 7, 3) := by decide +kernel
theorem dX0_hangingFrom_22 : decode cX0_hangingFrom 22 = .ok (.iconst 1, 1) := by decide +kernel
theorem dX0_hangingFrom_23 : decode cX0_hangingFrom 23 = .ok (.goto 4, 3) := by decide +kernel
theorem dX0_hangingFrom_26 : decode cX0_hangingFrom 26 = .ok (.iconst 0, 1) := by decide +kernel
theorem dX0_hangingFrom_27 : decode cX0_hangingFrom 27 = .ok (.iadd, 1) := by decide +kernel
theorem dX0_hangingFrom_28 : decode cX0_hangingFrom 28 = .ok (.istore_n 2, 1) := by decide +kernel
theorem dX0_hangingFrom_29 : decode cX0_hangingFrom 29 = .ok (.iinc 3 1, 3) := by decide +kernel
theorem dX0_hangingFrom_32 : decode cX0_hangingFrom 32 = .ok (.goto (-28), 3) := by decide +kernel
theorem dX0_hangingFrom_35 : decode cX0_hangingFrom 35 = .ok (.iload_n 2, 1) := by decide +kernel
theorem dX0_hangingFrom_36 : decode cX0_hangingFrom 36 = .ok (.ireturn, 1) := by decide +kernel
theorem dX0_cordsFrom_0 : decode cX0_cordsFrom 0 = .ok (.iconst 0, 1) := by decide +kernel
theorem dX0_cordsFrom_1 : decode cX0_cordsFrom 1 = .ok (.istore_n 2, 1) := by decide +kernel
theorem dX0_cordsFrom_2 : decode cX0_cordsFrom 2 = .ok (.iconst 0, 1) := by decide +kernel
theorem dX0_cordsFrom_3 : decode cX0_cordsFrom 3 = .ok (.istore_n 3, 1) := by decide +kernel
theorem dX0_cordsFrom_4 : decode cX0_cordsFrom 4 = .ok (.iload_n 3, 1) := by decide +kernel
theorem dX0_cordsFrom_5 : decode cX0_cordsFrom 5 = .ok (.aload_n 0, 1) := by decide +kernel
theorem dX0_cordsFrom_6 : decode cX0_cordsFrom 6 = .ok (.invokevirtual 29, 3) := by decide +kernel
theorem dX0_cordsFrom_9 : decode cX0_cordsFrom 9 = .ok (.if_icmp .ge 26, 3) := by decide +kernel
theorem dX0_cordsFrom_12 : decode cX0_cordsFrom 12 = .ok (.iload_n 2, 1) := by decide +kernel
theorem dX0_cordsFrom_13 : decode cX0_cordsFrom 13 = .ok (.aload_n 0, 1) := by decide +kernel
theorem dX0_cordsFrom_14 : decode cX0_cordsFrom 14 = .ok (.iload_n 3, 1) := by decide +kernel
theorem dX0_cordsFrom_15 : decode cX0_cordsFrom 15 = .ok (.iload_n 1, 1) := by decide +kernel
theorem dX0_cordsFrom_16 : decode cX0_cordsFrom 16 = .ok (.invokevirtual 95, 3) := by decide +kernel
theorem dX0_cordsFrom_19 : decode cX0_cordsFrom 19 = .ok (.ifCond .eq 7, 3) := by decide +kernel
theorem dX0_cordsFrom_22 : decode cX0_cordsFrom 22 = .ok (.iconst 1, 1) := by decide +kernel
theorem dX0_cordsFrom_23 : decode cX0_cordsFrom 23 = .ok (.goto 4, 3) := by decide +kernel
theorem dX0_cordsFrom_26 : decode cX0_cordsFrom 26 = .ok (.iconst 0, 1) := by decide +kernel
theorem dX0_cordsFrom_27 : decode cX0_cordsFrom 27 = .ok (.iadd, 1) := by decide +kernel
theorem dX0_cordsFrom_28 : decode cX0_cordsFrom 28 = .ok (.istore_n 2, 1) := by decide +kernel
theorem dX0_cordsFrom_29 : decode cX0_cordsFrom 29 = .ok (.iinc 3 1, 3) := by decide +kernel
theorem dX0_cordsFrom_32 : decode cX0_cordsFrom 32 = .ok (.goto (-28), 3) := by decide +kernel
theorem dX0_cordsFrom_35 : decode cX0_cordsFrom 35 = .ok (.iload_n 2, 1) := by decide +kernel
theorem dX0_cordsFrom_36 : decode cX0_cordsFrom 36 = .ok (.ireturn, 1) := by decide +kernel
theorem dX0_wholeOf_0 : decode cX0_wholeOf 0 = .ok (.iconst 0, 1) := by decide +kernel
theorem dX0_wholeOf_1 : decode cX0_wholeOf 1 = .ok (.istore_n 2, 1) := by decide +kernel
theorem dX0_wholeOf_2 : decode cX0_wholeOf 2 = .ok (.iconst 0, 1) := by decide +kernel
theorem dX0_wholeOf_3 : decode cX0_wholeOf 3 = .ok (.istore_n 3, 1) := by decide +kernel
theorem dX0_wholeOf_4 : decode cX0_wholeOf 4 = .ok (.iload_n 3, 1) := by decide +kernel
theorem dX0_wholeOf_5 : decode cX0_wholeOf 5 = .ok (.aload_n 0, 1) := by decide +kernel
theorem dX0_wholeOf_6 : decode cX0_wholeOf 6 = .ok (.invokevirtual 29, 3) := by decide +kernel
theorem dX0_wholeOf_9 : decode cX0_wholeOf 9 = .ok (.if_icmp .ge 40, 3) := by decide +kernel
theorem dX0_wholeOf_12 : decode cX0_wholeOf 12 = .ok (.aload_n 0, 1) := by decide +kernel
theorem dX0_wholeOf_13 : decode cX0_wholeOf 13 = .ok (.iload_n 3, 1) := by decide +kernel
theorem dX0_wholeOf_14 : decode cX0_wholeOf 14 = .ok (.iload_n 1, 1) := by decide +kernel
theorem dX0_wholeOf_15 : decode cX0_wholeOf 15 = .ok (.invokevirtual 95, 3) := by decide +kernel
theorem dX0_wholeOf_18 : decode cX0_wholeOf 18 = .ok (.ifCond .eq 25, 3) := by decide +kernel
theorem dX0_wholeOf_21 : decode cX0_wholeOf 21 = .ok (.aload_n 0, 1) := by decide +kernel
theorem dX0_wholeOf_22 : decode cX0_wholeOf 22 = .ok (.iload_n 3, 1) := by decide +kernel
theorem dX0_wholeOf_23 : decode cX0_wholeOf 23 = .ok (.invokevirtual 62, 3) := by decide +kernel
theorem dX0_wholeOf_26 : decode cX0_wholeOf 26 = .ok (.istore 4, 2) := by decide +kernel
theorem dX0_wholeOf_28 : decode cX0_wholeOf 28 = .ok (.iload 4, 2) := by decide +kernel
theorem dX0_wholeOf_30 : decode cX0_wholeOf 30 = .ok (.bipush (-4), 2) := by decide +kernel
theorem dX0_wholeOf_32 : decode cX0_wholeOf 32 = .ok (.if_icmp .ne 6, 3) := by decide +kernel
theorem dX0_wholeOf_35 : decode cX0_wholeOf 35 = .ok (.bipush (-4), 2) := by decide +kernel
theorem dX0_wholeOf_37 : decode cX0_wholeOf 37 = .ok (.ireturn, 1) := by decide +kernel
theorem dX0_wholeOf_38 : decode cX0_wholeOf 38 = .ok (.iload_n 2, 1) := by decide +kernel
theorem dX0_wholeOf_39 : decode cX0_wholeOf 39 = .ok (.iload 4, 2) := by decide +kernel
theorem dX0_wholeOf_41 : decode cX0_wholeOf 41 = .ok (.iadd, 1) := by decide +kernel
theorem dX0_wholeOf_42 : decode cX0_wholeOf 42 = .ok (.istore_n 2, 1) := by decide +kernel
theorem dX0_wholeOf_43 : decode cX0_wholeOf 43 = .ok (.iinc 3 1, 3) := by decide +kernel
theorem dX0_wholeOf_46 : decode cX0_wholeOf 46 = .ok (.goto (-42), 3) := by decide +kernel
theorem dX0_wholeOf_49 : decode cX0_wholeOf 49 = .ok (.iload_n 2, 1) := by decide +kernel
theorem dX0_wholeOf_50 : decode cX0_wholeOf 50 = .ok (.ireturn, 1) := by decide +kernel
theorem dX0_pendantsIn_0 : decode cX0_pendantsIn 0 = .ok (.iconst 0, 1) := by decide +kernel
theorem dX0_pendantsIn_1 : decode cX0_pendantsIn 1 = .ok (.istore_n 2, 1) := by decide +kernel
theorem dX0_pendantsIn_2 : decode cX0_pendantsIn 2 = .ok (.iconst 0, 1) := by decide +kernel
theorem dX0_pendantsIn_3 : decode cX0_pendantsIn 3 = .ok (.istore_n 3, 1) := by decide +kernel
theorem dX0_pendantsIn_4 : decode cX0_pendantsIn 4 = .ok (.iload_n 3, 1) := by decide +kernel
theorem dX0_pendantsIn_5 : decode cX0_pendantsIn 5 = .ok (.aload_n 0, 1) := by decide +kernel
theorem dX0_pendantsIn_6 : decode cX0_pendantsIn 6 = .ok (.getfield 11, 3) := by decide +kernel
theorem dX0_pendantsIn_9 : decode cX0_pendantsIn 9 = .ok (.sipush 178, 3) := by decide +kernel
theorem dX0_pendantsIn_12 : decode cX0_pendantsIn 12 = .ok (.invokestatic 25, 3) := by decide +kernel
theorem dX0_pendantsIn_15 : decode cX0_pendantsIn 15 = .ok (.if_icmp .ge 36, 3) := by decide +kernel
theorem dX0_pendantsIn_18 : decode cX0_pendantsIn 18 = .ok (.iload_n 2, 1) := by decide +kernel
theorem dX0_pendantsIn_19 : decode cX0_pendantsIn 19 = .ok (.aload_n 0, 1) := by decide +kernel
theorem dX0_pendantsIn_20 : decode cX0_pendantsIn 20 = .ok (.aload_n 0, 1) := by decide +kernel
theorem dX0_pendantsIn_21 : decode cX0_pendantsIn 21 = .ok (.getfield 11, 3) := by decide +kernel
theorem dX0_pendantsIn_24 : decode cX0_pendantsIn 24 = .ok (.bipush 96, 2) := by decide +kernel
theorem dX0_pendantsIn_26 : decode cX0_pendantsIn 26 = .ok (.iload_n 3, 1) := by decide +kernel
theorem dX0_pendantsIn_27 : decode cX0_pendantsIn 27 = .ok (.iadd, 1) := by decide +kernel
theorem dX0_pendantsIn_28 : decode cX0_pendantsIn 28 = .ok (.invokestatic 25, 3) := by decide +kernel
theorem dX0_pendantsIn_31 : decode cX0_pendantsIn 31 = .ok (.invokevirtual 89, 3) := by decide +kernel
theorem dX0_pendantsIn_34 : decode cX0_pendantsIn 34 = .ok (.iload_n 1, 1) := by decide +kernel
theorem dX0_pendantsIn_35 : decode cX0_pendantsIn 35 = .ok (.if_icmp .ne 7, 3) := by decide +kernel
theorem dX0_pendantsIn_38 : decode cX0_pendantsIn 38 = .ok (.iconst 1, 1) := by decide +kernel
theorem dX0_pendantsIn_39 : decode cX0_pendantsIn 39 = .ok (.goto 4, 3) := by decide +kernel
theorem dX0_pendantsIn_42 : decode cX0_pendantsIn 42 = .ok (.iconst 0, 1) := by decide +kernel
theorem dX0_pendantsIn_43 : decode cX0_pendantsIn 43 = .ok (.iadd, 1) := by decide +kernel
theorem dX0_pendantsIn_44 : decode cX0_pendantsIn 44 = .ok (.istore_n 2, 1) := by decide +kernel
theorem dX0_pendantsIn_45 : decode cX0_pendantsIn 45 = .ok (.iinc 3 1, 3) := by decide +kernel
theorem dX0_pendantsIn_48 : decode cX0_pendantsIn 48 = .ok (.goto (-44), 3) := by decide +kernel
theorem dX0_pendantsIn_51 : decode cX0_pendantsIn 51 = .ok (.iload_n 2, 1) := by decide +kernel
theorem dX0_pendantsIn_52 : decode cX0_pendantsIn 52 = .ok (.ireturn, 1) := by decide +kernel
theorem dX0_pendantAt_0 : decode cX0_pendantAt 0 = .ok (.iconst 0, 1) := by decide +kernel
theorem dX0_pendantAt_1 : decode cX0_pendantAt 1 = .ok (.istore_n 3, 1) := by decide +kernel
theorem dX0_pendantAt_2 : decode cX0_pendantAt 2 = .ok (.iconst 0, 1) := by decide +kernel
theorem dX0_pendantAt_3 : decode cX0_pendantAt 3 = .ok (.istore 4, 2) := by decide +kernel
theorem dX0_pendantAt_5 : decode cX0_pendantAt 5 = .ok (.iload 4, 2) := by decide +kernel
theorem dX0_pendantAt_7 : decode cX0_pendantAt 7 = .ok (.aload_n 0, 1) := by decide +kernel
theorem dX0_pendantAt_8 : decode cX0_pendantAt 8 = .ok (.getfield 11, 3) := by decide +kernel
theorem dX0_pendantAt_11 : decode cX0_pendantAt 11 = .ok (.sipush 178, 3) := by decide +kernel
theorem dX0_pendantAt_14 : decode cX0_pendantAt 14 = .ok (.invokestatic 25, 3) := by decide +kernel
theorem dX0_pendantAt_17 : decode cX0_pendantAt 17 = .ok (.if_icmp .ge 44, 3) := by decide +kernel
theorem dX0_pendantAt_20 : decode cX0_pendantAt 20 = .ok (.aload_n 0, 1) := by decide +kernel
theorem dX0_pendantAt_21 : decode cX0_pendantAt 21 = .ok (.getfield 11, 3) := by decide +kernel
theorem dX0_pendantAt_24 : decode cX0_pendantAt 24 = .ok (.bipush 96, 2) := by decide +kernel
theorem dX0_pendantAt_26 : decode cX0_pendantAt 26 = .ok (.iload 4, 2) := by decide +kernel
theorem dX0_pendantAt_28 : decode cX0_pendantAt 28 = .ok (.iadd, 1) := by decide +kernel
theorem dX0_pendantAt_29 : decode cX0_pendantAt 29 = .ok (.invokestatic 25, 3) := by decide +kernel
theorem dX0_pendantAt_32 : decode cX0_pendantAt 32 = .ok (.istore 5, 2) := by decide +kernel
theorem dX0_pendantAt_34 : decode cX0_pendantAt 34 = .ok (.aload_n 0, 1) := by decide +kernel
theorem dX0_pendantAt_35 : decode cX0_pendantAt 35 = .ok (.iload 5, 2) := by decide +kernel
theorem dX0_pendantAt_37 : decode cX0_pendantAt 37 = .ok (.invokevirtual 89, 3) := by decide +kernel
theorem dX0_pendantAt_40 : decode cX0_pendantAt 40 = .ok (.iload_n 1, 1) := by decide +kernel
theorem dX0_pendantAt_41 : decode cX0_pendantAt 41 = .ok (.if_icmp .ne 14, 3) := by decide +kernel
theorem dX0_pendantAt_44 : decode cX0_pendantAt 44 = .ok (.iload_n 3, 1) := by decide +kernel
theorem dX0_pendantAt_45 : decode cX0_pendantAt 45 = .ok (.iload_n 2, 1) := by decide +kernel
theorem dX0_pendantAt_46 : decode cX0_pendantAt 46 = .ok (.if_icmp .ne 6, 3) := by decide +kernel
theorem dX0_pendantAt_49 : decode cX0_pendantAt 49 = .ok (.iload 5, 2) := by decide +kernel
theorem dX0_pendantAt_51 : decode cX0_pendantAt 51 = .ok (.ireturn, 1) := by decide +kernel
theorem dX0_pendantAt_52 : decode cX0_pendantAt 52 = .ok (.iinc 3 1, 3) := by decide +kernel
theorem dX0_pendantAt_55 : decode cX0_pendantAt 55 = .ok (.iinc 4 1, 3) := by decide +kernel
theorem dX0_pendantAt_58 : decode cX0_pendantAt 58 = .ok (.goto (-53), 3) := by decide +kernel
theorem dX0_pendantAt_61 : decode cX0_pendantAt 61 = .ok (.bipush (-4), 2) := by decide +kernel
theorem dX0_pendantAt_63 : decode cX0_pendantAt 63 = .ok (.ireturn, 1) := by decide +kernel
theorem dX0_moveBehind_0 : decode cX0_moveBehind 0 = .ok (.iconst 0, 1) := by decide +kernel
theorem dX0_moveBehind_1 : decode cX0_moveBehind 1 = .ok (.istore_n 3, 1) := by decide +kernel
theorem dX0_moveBehind_2 : decode cX0_moveBehind 2 = .ok (.aload_n 0, 1) := by decide +kernel
theorem dX0_moveBehind_3 : decode cX0_moveBehind 3 = .ok (.getfield 11, 3) := by decide +kernel
theorem dX0_moveBehind_6 : decode cX0_moveBehind 6 = .ok (.sipush 178, 3) := by decide +kernel
theorem dX0_moveBehind_9 : decode cX0_moveBehind 9 = .ok (.invokestatic 25, 3) := by decide +kernel
theorem dX0_moveBehind_12 : decode cX0_moveBehind 12 = .ok (.istore 4, 2) := by decide +kernel
theorem dX0_moveBehind_14 : decode cX0_moveBehind 14 = .ok (.iconst 0, 1) := by decide +kernel
theorem dX0_moveBehind_15 : decode cX0_moveBehind 15 = .ok (.istore 5, 2) := by decide +kernel
theorem dX0_moveBehind_17 : decode cX0_moveBehind 17 = .ok (.iload 5, 2) := by decide +kernel
theorem dX0_moveBehind_19 : decode cX0_moveBehind 19 = .ok (.iload 4, 2) := by decide +kernel
theorem dX0_moveBehind_21 : decode cX0_moveBehind 21 = .ok (.if_icmp .ge 45, 3) := by decide +kernel
theorem dX0_moveBehind_24 : decode cX0_moveBehind 24 = .ok (.aload_n 0, 1) := by decide +kernel
theorem dX0_moveBehind_25 : decode cX0_moveBehind 25 = .ok (.getfield 11, 3) := by decide +kernel
theorem dX0_moveBehind_28 : decode cX0_moveBehind 28 = .ok (.bipush 96, 2) := by decide +kernel
theorem dX0_moveBehind_30 : decode cX0_moveBehind 30 = .ok (.iload 5, 2) := by decide +kernel
theorem dX0_moveBehind_32 : decode cX0_moveBehind 32 = .ok (.iadd, 1) := by decide +kernel
theorem dX0_moveBehind_33 : decode cX0_moveBehind 33 = .ok (.invokestatic 25, 3) := by decide +kernel
theorem dX0_moveBehind_36 : decode cX0_moveBehind 36 = .ok (.istore 6, 2) := by decide +kernel
theorem dX0_moveBehind_38 : decode cX0_moveBehind 38 = .ok (.iload 6, 2) := by decide +kernel
theorem dX0_moveBehind_40 : decode cX0_moveBehind 40 = .ok (.iload_n 1, 1) := by decide +kernel
theorem dX0_moveBehind_41 : decode cX0_moveBehind 41 = .ok (.if_icmp .eq 19, 3) := by decide +kernel
theorem dX0_moveBehind_44 : decode cX0_moveBehind 44 = .ok (.aload_n 0, 1) := by decide +kernel
theorem dX0_moveBehind_45 : decode cX0_moveBehind 45 = .ok (.getfield 11, 3) := by decide +kernel
theorem dX0_moveBehind_48 : decode cX0_moveBehind 48 = .ok (.bipush 96, 2) := by decide +kernel
theorem dX0_moveBehind_50 : decode cX0_moveBehind 50 = .ok (.iload_n 3, 1) := by decide +kernel
theorem dX0_moveBehind_51 : decode cX0_moveBehind 51 = .ok (.iadd, 1) := by decide +kernel
theorem dX0_moveBehind_52 : decode cX0_moveBehind 52 = .ok (.iload 6, 2) := by decide +kernel
theorem dX0_moveBehind_54 : decode cX0_moveBehind 54 = .ok (.invokestatic 44, 3) := by decide +kernel
theorem dX0_moveBehind_57 : decode cX0_moveBehind 57 = .ok (.iinc 3 1, 3) := by decide +kernel
theorem dX0_moveBehind_60 : decode cX0_moveBehind 60 = .ok (.iinc 5 1, 3) := by decide +kernel
theorem dX0_moveBehind_63 : decode cX0_moveBehind 63 = .ok (.goto (-46), 3) := by decide +kernel
theorem dX0_moveBehind_66 : decode cX0_moveBehind 66 = .ok (.aload_n 0, 1) := by decide +kernel
theorem dX0_moveBehind_67 : decode cX0_moveBehind 67 = .ok (.getfield 11, 3) := by decide +kernel
theorem dX0_moveBehind_70 : decode cX0_moveBehind 70 = .ok (.bipush 96, 2) := by decide +kernel
theorem dX0_moveBehind_72 : decode cX0_moveBehind 72 = .ok (.iload_n 3, 1) := by decide +kernel
theorem dX0_moveBehind_73 : decode cX0_moveBehind 73 = .ok (.iadd, 1) := by decide +kernel
theorem dX0_moveBehind_74 : decode cX0_moveBehind 74 = .ok (.iload_n 1, 1) := by decide +kernel
theorem dX0_moveBehind_75 : decode cX0_moveBehind 75 = .ok (.invokestatic 44, 3) := by decide +kernel
theorem dX0_moveBehind_78 : decode cX0_moveBehind 78 = .ok (.iconst 0, 1) := by decide +kernel
theorem dX0_moveBehind_79 : decode cX0_moveBehind 79 = .ok (.istore 5, 2) := by decide +kernel
theorem dX0_moveBehind_81 : decode cX0_moveBehind 81 = .ok (.iload 5, 2) := by decide +kernel
theorem dX0_moveBehind_83 : decode cX0_moveBehind 83 = .ok (.aload_n 0, 1) := by decide +kernel
theorem dX0_moveBehind_84 : decode cX0_moveBehind 84 = .ok (.invokevirtual 29, 3) := by decide +kernel
theorem dX0_moveBehind_87 : decode cX0_moveBehind 87 = .ok (.if_icmp .ge 32, 3) := by decide +kernel
theorem dX0_moveBehind_90 : decode cX0_moveBehind 90 = .ok (.aload_n 0, 1) := by decide +kernel
theorem dX0_moveBehind_91 : decode cX0_moveBehind 91 = .ok (.iload 5, 2) := by decide +kernel
theorem dX0_moveBehind_93 : decode cX0_moveBehind 93 = .ok (.iload_n 1, 1) := by decide +kernel
theorem dX0_moveBehind_94 : decode cX0_moveBehind 94 = .ok (.invokevirtual 95, 3) := by decide +kernel
theorem dX0_moveBehind_97 : decode cX0_moveBehind 97 = .ok (.ifCond .eq 16, 3) := by decide +kernel
theorem dX0_moveBehind_100 : decode cX0_moveBehind 100 = .ok (.aload_n 0, 1) := by decide +kernel
theorem dX0_moveBehind_101 : decode cX0_moveBehind 101 = .ok (.getfield 11, 3) := by decide +kernel
theorem dX0_moveBehind_104 : decode cX0_moveBehind 104 = .ok (.bipush 80, 2) := by decide +kernel
theorem dX0_moveBehind_106 : decode cX0_moveBehind 106 = .ok (.iload 5, 2) := by decide +kernel
theorem dX0_moveBehind_108 : decode cX0_moveBehind 108 = .ok (.iadd, 1) := by decide +kernel
theorem dX0_moveBehind_109 : decode cX0_moveBehind 109 = .ok (.iload_n 2, 1) := by decide +kernel
theorem dX0_moveBehind_110 : decode cX0_moveBehind 110 = .ok (.invokestatic 44, 3) := by decide +kernel
theorem dX0_moveBehind_113 : decode cX0_moveBehind 113 = .ok (.iinc 5 1, 3) := by decide +kernel
theorem dX0_moveBehind_116 : decode cX0_moveBehind 116 = .ok (.goto (-35), 3) := by decide +kernel
theorem dX0_moveBehind_119 : decode cX0_moveBehind 119 = .ok (.return_, 1) := by decide +kernel
theorem dX0_topOf_0 : decode cX0_topOf 0 = .ok (.iconst 0, 1) := by decide +kernel
theorem dX0_topOf_1 : decode cX0_topOf 1 = .ok (.istore_n 2, 1) := by decide +kernel
theorem dX0_topOf_2 : decode cX0_topOf 2 = .ok (.iload_n 2, 1) := by decide +kernel
theorem dX0_topOf_3 : decode cX0_topOf 3 = .ok (.aload_n 0, 1) := by decide +kernel
theorem dX0_topOf_4 : decode cX0_topOf 4 = .ok (.invokevirtual 29, 3) := by decide +kernel
theorem dX0_topOf_7 : decode cX0_topOf 7 = .ok (.if_icmp .ge 28, 3) := by decide +kernel
theorem dX0_topOf_10 : decode cX0_topOf 10 = .ok (.aload_n 0, 1) := by decide +kernel
theorem dX0_topOf_11 : decode cX0_topOf 11 = .ok (.iload_n 2, 1) := by decide +kernel
theorem dX0_topOf_12 : decode cX0_topOf 12 = .ok (.invokevirtual 86, 3) := by decide +kernel
theorem dX0_topOf_15 : decode cX0_topOf 15 = .ok (.ifCond .eq 14, 3) := by decide +kernel
theorem dX0_topOf_18 : decode cX0_topOf 18 = .ok (.aload_n 0, 1) := by decide +kernel
theorem dX0_topOf_19 : decode cX0_topOf 19 = .ok (.iload_n 2, 1) := by decide +kernel
theorem dX0_topOf_20 : decode cX0_topOf 20 = .ok (.invokevirtual 89, 3) := by decide +kernel
theorem dX0_topOf_23 : decode cX0_topOf 23 = .ok (.iload_n 1, 1) := by decide +kernel
theorem dX0_topOf_24 : decode cX0_topOf 24 = .ok (.if_icmp .ne 5, 3) := by decide +kernel
theorem dX0_topOf_27 : decode cX0_topOf 27 = .ok (.iload_n 2, 1) := by decide +kernel
theorem dX0_topOf_28 : decode cX0_topOf 28 = .ok (.ireturn, 1) := by decide +kernel
theorem dX0_topOf_29 : decode cX0_topOf 29 = .ok (.iinc 2 1, 3) := by decide +kernel
theorem dX0_topOf_32 : decode cX0_topOf 32 = .ok (.goto (-30), 3) := by decide +kernel
theorem dX0_topOf_35 : decode cX0_topOf 35 = .ok (.bipush (-4), 2) := by decide +kernel
theorem dX0_topOf_37 : decode cX0_topOf 37 = .ok (.ireturn, 1) := by decide +kernel
theorem dX0_sumOf_0 : decode cX0_sumOf 0 = .ok (.iconst 0, 1) := by decide +kernel
theorem dX0_sumOf_1 : decode cX0_sumOf 1 = .ok (.istore_n 2, 1) := by decide +kernel
theorem dX0_sumOf_2 : decode cX0_sumOf 2 = .ok (.iconst 0, 1) := by decide +kernel
theorem dX0_sumOf_3 : decode cX0_sumOf 3 = .ok (.istore_n 3, 1) := by decide +kernel
theorem dX0_sumOf_4 : decode cX0_sumOf 4 = .ok (.iload_n 3, 1) := by decide +kernel
theorem dX0_sumOf_5 : decode cX0_sumOf 5 = .ok (.aload_n 0, 1) := by decide +kernel
theorem dX0_sumOf_6 : decode cX0_sumOf 6 = .ok (.invokevirtual 29, 3) := by decide +kernel
theorem dX0_sumOf_9 : decode cX0_sumOf 9 = .ok (.if_icmp .ge 48, 3) := by decide +kernel
theorem dX0_sumOf_12 : decode cX0_sumOf 12 = .ok (.aload_n 0, 1) := by decide +kernel
theorem dX0_sumOf_13 : decode cX0_sumOf 13 = .ok (.iload_n 3, 1) := by decide +kernel
theorem dX0_sumOf_14 : decode cX0_sumOf 14 = .ok (.invokevirtual 98, 3) := by decide +kernel
theorem dX0_sumOf_17 : decode cX0_sumOf 17 = .ok (.ifCond .eq 34, 3) := by decide +kernel
theorem dX0_sumOf_20 : decode cX0_sumOf 20 = .ok (.aload_n 0, 1) := by decide +kernel
theorem dX0_sumOf_21 : decode cX0_sumOf 21 = .ok (.iload_n 3, 1) := by decide +kernel
theorem dX0_sumOf_22 : decode cX0_sumOf 22 = .ok (.invokevirtual 89, 3) := by decide +kernel
theorem dX0_sumOf_25 : decode cX0_sumOf 25 = .ok (.iload_n 1, 1) := by decide +kernel
theorem dX0_sumOf_26 : decode cX0_sumOf 26 = .ok (.if_icmp .ne 25, 3) := by decide +kernel
theorem dX0_sumOf_29 : decode cX0_sumOf 29 = .ok (.aload_n 0, 1) := by decide +kernel
theorem dX0_sumOf_30 : decode cX0_sumOf 30 = .ok (.iload_n 3, 1) := by decide +kernel
theorem dX0_sumOf_31 : decode cX0_sumOf 31 = .ok (.invokevirtual 101, 3) := by decide +kernel
theorem dX0_sumOf_34 : decode cX0_sumOf 34 = .ok (.istore 4, 2) := by decide +kernel
theorem dX0_sumOf_36 : decode cX0_sumOf 36 = .ok (.iload 4, 2) := by decide +kernel
theorem dX0_sumOf_38 : decode cX0_sumOf 38 = .ok (.bipush (-4), 2) := by decide +kernel
theorem dX0_sumOf_40 : decode cX0_sumOf 40 = .ok (.if_icmp .ne 6, 3) := by decide +kernel
theorem dX0_sumOf_43 : decode cX0_sumOf 43 = .ok (.bipush (-4), 2) := by decide +kernel
theorem dX0_sumOf_45 : decode cX0_sumOf 45 = .ok (.ireturn, 1) := by decide +kernel
theorem dX0_sumOf_46 : decode cX0_sumOf 46 = .ok (.iload_n 2, 1) := by decide +kernel
theorem dX0_sumOf_47 : decode cX0_sumOf 47 = .ok (.iload 4, 2) := by decide +kernel
theorem dX0_sumOf_49 : decode cX0_sumOf 49 = .ok (.iadd, 1) := by decide +kernel
theorem dX0_sumOf_50 : decode cX0_sumOf 50 = .ok (.istore_n 2, 1) := by decide +kernel
theorem dX0_sumOf_51 : decode cX0_sumOf 51 = .ok (.iinc 3 1, 3) := by decide +kernel
theorem dX0_sumOf_54 : decode cX0_sumOf 54 = .ok (.goto (-50), 3) := by decide +kernel
theorem dX0_sumOf_57 : decode cX0_sumOf 57 = .ok (.iload_n 2, 1) := by decide +kernel
theorem dX0_sumOf_58 : decode cX0_sumOf 58 = .ok (.ireturn, 1) := by decide +kernel
theorem dX0_canBeCompared_0 : decode cX0_canBeCompared 0 = .ok (.aload_n 0, 1) := by decide +kernel
theorem dX0_canBeCompared_1 : decode cX0_canBeCompared 1 = .ok (.iload_n 1, 1) := by decide +kernel
theorem dX0_canBeCompared_2 : decode cX0_canBeCompared 2 = .ok (.invokevirtual 104, 3) := by decide +kernel
theorem dX0_canBeCompared_5 : decode cX0_canBeCompared 5 = .ok (.istore_n 2, 1) := by decide +kernel
theorem dX0_canBeCompared_6 : decode cX0_canBeCompared 6 = .ok (.iload_n 2, 1) := by decide +kernel
theorem dX0_canBeCompared_7 : decode cX0_canBeCompared 7 = .ok (.bipush (-4), 2) := by decide +kernel
theorem dX0_canBeCompared_9 : decode cX0_canBeCompared 9 = .ok (.if_icmp .eq 27, 3) := by decide +kernel
theorem dX0_canBeCompared_12 : decode cX0_canBeCompared 12 = .ok (.aload_n 0, 1) := by decide +kernel
theorem dX0_canBeCompared_13 : decode cX0_canBeCompared 13 = .ok (.iload_n 2, 1) := by decide +kernel
theorem dX0_canBeCompared_14 : decode cX0_canBeCompared 14 = .ok (.invokevirtual 101, 3) := by decide +kernel
theorem dX0_canBeCompared_17 : decode cX0_canBeCompared 17 = .ok (.bipush (-4), 2) := by decide +kernel
theorem dX0_canBeCompared_19 : decode cX0_canBeCompared 19 = .ok (.if_icmp .eq 17, 3) := by decide +kernel
theorem dX0_canBeCompared_22 : decode cX0_canBeCompared 22 = .ok (.aload_n 0, 1) := by decide +kernel
theorem dX0_canBeCompared_23 : decode cX0_canBeCompared 23 = .ok (.iload_n 1, 1) := by decide +kernel
theorem dX0_canBeCompared_24 : decode cX0_canBeCompared 24 = .ok (.invokevirtual 107, 3) := by decide +kernel
theorem dX0_canBeCompared_27 : decode cX0_canBeCompared 27 = .ok (.bipush (-4), 2) := by decide +kernel
theorem dX0_canBeCompared_29 : decode cX0_canBeCompared 29 = .ok (.if_icmp .eq 7, 3) := by decide +kernel
theorem dX0_canBeCompared_32 : decode cX0_canBeCompared 32 = .ok (.iconst 1, 1) := by decide +kernel
theorem dX0_canBeCompared_33 : decode cX0_canBeCompared 33 = .ok (.goto 4, 3) := by decide +kernel
theorem dX0_canBeCompared_36 : decode cX0_canBeCompared 36 = .ok (.iconst 0, 1) := by decide +kernel
theorem dX0_canBeCompared_37 : decode cX0_canBeCompared 37 = .ok (.ireturn, 1) := by decide +kernel
theorem dX0_excessOf_0 : decode cX0_excessOf 0 = .ok (.aload_n 0, 1) := by decide +kernel
theorem dX0_excessOf_1 : decode cX0_excessOf 1 = .ok (.iload_n 1, 1) := by decide +kernel
theorem dX0_excessOf_2 : decode cX0_excessOf 2 = .ok (.invokevirtual 107, 3) := by decide +kernel
theorem dX0_excessOf_5 : decode cX0_excessOf 5 = .ok (.aload_n 0, 1) := by decide +kernel
theorem dX0_excessOf_6 : decode cX0_excessOf 6 = .ok (.aload_n 0, 1) := by decide +kernel
theorem dX0_excessOf_7 : decode cX0_excessOf 7 = .ok (.iload_n 1, 1) := by decide +kernel
theorem dX0_excessOf_8 : decode cX0_excessOf 8 = .ok (.invokevirtual 104, 3) := by decide +kernel
theorem dX0_excessOf_11 : decode cX0_excessOf 11 = .ok (.invokevirtual 101, 3) := by decide +kernel
theorem dX0_excessOf_14 : decode cX0_excessOf 14 = .ok (.isub, 1) := by decide +kernel
theorem dX0_excessOf_15 : decode cX0_excessOf 15 = .ok (.ireturn, 1) := by decide +kernel
theorem dX0_tops_0 : decode cX0_tops 0 = .ok (.iconst 0, 1) := by decide +kernel
theorem dX0_tops_1 : decode cX0_tops 1 = .ok (.istore_n 1, 1) := by decide +kernel
theorem dX0_tops_2 : decode cX0_tops 2 = .ok (.iconst 0, 1) := by decide +kernel
theorem dX0_tops_3 : decode cX0_tops 3 = .ok (.istore_n 2, 1) := by decide +kernel
theorem dX0_tops_4 : decode cX0_tops 4 = .ok (.iload_n 2, 1) := by decide +kernel
theorem dX0_tops_5 : decode cX0_tops 5 = .ok (.aload_n 0, 1) := by decide +kernel
theorem dX0_tops_6 : decode cX0_tops 6 = .ok (.invokevirtual 29, 3) := by decide +kernel
theorem dX0_tops_9 : decode cX0_tops 9 = .ok (.if_icmp .ge 25, 3) := by decide +kernel
theorem dX0_tops_12 : decode cX0_tops 12 = .ok (.iload_n 1, 1) := by decide +kernel
theorem dX0_tops_13 : decode cX0_tops 13 = .ok (.aload_n 0, 1) := by decide +kernel
theorem dX0_tops_14 : decode cX0_tops 14 = .ok (.iload_n 2, 1) := by decide +kernel
theorem dX0_tops_15 : decode cX0_tops 15 = .ok (.invokevirtual 86, 3) := by decide +kernel
theorem dX0_tops_18 : decode cX0_tops 18 = .ok (.ifCond .eq 7, 3) := by decide +kernel
theorem dX0_tops_21 : decode cX0_tops 21 = .ok (.iconst 1, 1) := by decide +kernel
theorem dX0_tops_22 : decode cX0_tops 22 = .ok (.goto 4, 3) := by decide +kernel
theorem dX0_tops_25 : decode cX0_tops 25 = .ok (.iconst 0, 1) := by decide +kernel
theorem dX0_tops_26 : decode cX0_tops 26 = .ok (.iadd, 1) := by decide +kernel
theorem dX0_tops_27 : decode cX0_tops 27 = .ok (.istore_n 1, 1) := by decide +kernel
theorem dX0_tops_28 : decode cX0_tops 28 = .ok (.iinc 2 1, 3) := by decide +kernel
theorem dX0_tops_31 : decode cX0_tops 31 = .ok (.goto (-27), 3) := by decide +kernel
theorem dX0_tops_34 : decode cX0_tops 34 = .ok (.iload_n 1, 1) := by decide +kernel
theorem dX0_tops_35 : decode cX0_tops 35 = .ok (.ireturn, 1) := by decide +kernel
theorem dX0_wellKnotted_0 : decode cX0_wellKnotted 0 = .ok (.iconst 0, 1) := by decide +kernel
theorem dX0_wellKnotted_1 : decode cX0_wellKnotted 1 = .ok (.istore_n 1, 1) := by decide +kernel
theorem dX0_wellKnotted_2 : decode cX0_wellKnotted 2 = .ok (.iconst 0, 1) := by decide +kernel
theorem dX0_wellKnotted_3 : decode cX0_wellKnotted 3 = .ok (.istore_n 2, 1) := by decide +kernel
theorem dX0_wellKnotted_4 : decode cX0_wellKnotted 4 = .ok (.iload_n 2, 1) := by decide +kernel
theorem dX0_wellKnotted_5 : decode cX0_wellKnotted 5 = .ok (.aload_n 0, 1) := by decide +kernel
theorem dX0_wellKnotted_6 : decode cX0_wellKnotted 6 = .ok (.invokevirtual 29, 3) := by decide +kernel
theorem dX0_wellKnotted_9 : decode cX0_wellKnotted 9 = .ok (.if_icmp .ge 27, 3) := by decide +kernel
theorem dX0_wellKnotted_12 : decode cX0_wellKnotted 12 = .ok (.iload_n 1, 1) := by decide +kernel
theorem dX0_wellKnotted_13 : decode cX0_wellKnotted 13 = .ok (.aload_n 0, 1) := by decide +kernel
theorem dX0_wellKnotted_14 : decode cX0_wellKnotted 14 = .ok (.iload_n 2, 1) := by decide +kernel
theorem dX0_wellKnotted_15 : decode cX0_wellKnotted 15 = .ok (.invokevirtual 62, 3) := by decide +kernel
theorem dX0_wellKnotted_18 : decode cX0_wellKnotted 18 = .ok (.bipush (-4), 2) := by decide +kernel
theorem dX0_wellKnotted_20 : decode cX0_wellKnotted 20 = .ok (.if_icmp .eq 7, 3) := by decide +kernel
theorem dX0_wellKnotted_23 : decode cX0_wellKnotted 23 = .ok (.iconst 1, 1) := by decide +kernel
theorem dX0_wellKnotted_24 : decode cX0_wellKnotted 24 = .ok (.goto 4, 3) := by decide +kernel
theorem dX0_wellKnotted_27 : decode cX0_wellKnotted 27 = .ok (.iconst 0, 1) := by decide +kernel
theorem dX0_wellKnotted_28 : decode cX0_wellKnotted 28 = .ok (.iadd, 1) := by decide +kernel
theorem dX0_wellKnotted_29 : decode cX0_wellKnotted 29 = .ok (.istore_n 1, 1) := by decide +kernel
theorem dX0_wellKnotted_30 : decode cX0_wellKnotted 30 = .ok (.iinc 2 1, 3) := by decide +kernel
theorem dX0_wellKnotted_33 : decode cX0_wellKnotted 33 = .ok (.goto (-29), 3) := by decide +kernel
theorem dX0_wellKnotted_36 : decode cX0_wellKnotted 36 = .ok (.iload_n 1, 1) := by decide +kernel
theorem dX0_wellKnotted_37 : decode cX0_wellKnotted 37 = .ok (.ireturn, 1) := by decide +kernel
theorem dX0_allKnots_0 : decode cX0_allKnots 0 = .ok (.iconst 0, 1) := by decide +kernel
theorem dX0_allKnots_1 : decode cX0_allKnots 1 = .ok (.istore_n 1, 1) := by decide +kernel
theorem dX0_allKnots_2 : decode cX0_allKnots 2 = .ok (.iconst 0, 1) := by decide +kernel
theorem dX0_allKnots_3 : decode cX0_allKnots 3 = .ok (.istore_n 2, 1) := by decide +kernel
theorem dX0_allKnots_4 : decode cX0_allKnots 4 = .ok (.iload_n 2, 1) := by decide +kernel
theorem dX0_allKnots_5 : decode cX0_allKnots 5 = .ok (.aload_n 0, 1) := by decide +kernel
theorem dX0_allKnots_6 : decode cX0_allKnots 6 = .ok (.invokevirtual 29, 3) := by decide +kernel
theorem dX0_allKnots_9 : decode cX0_allKnots 9 = .ok (.if_icmp .ge 17, 3) := by decide +kernel
theorem dX0_allKnots_12 : decode cX0_allKnots 12 = .ok (.iload_n 1, 1) := by decide +kernel
theorem dX0_allKnots_13 : decode cX0_allKnots 13 = .ok (.aload_n 0, 1) := by decide +kernel
theorem dX0_allKnots_14 : decode cX0_allKnots 14 = .ok (.iload_n 2, 1) := by decide +kernel
theorem dX0_allKnots_15 : decode cX0_allKnots 15 = .ok (.invokevirtual 110, 3) := by decide +kernel
theorem dX0_allKnots_18 : decode cX0_allKnots 18 = .ok (.iadd, 1) := by decide +kernel
theorem dX0_allKnots_19 : decode cX0_allKnots 19 = .ok (.istore_n 1, 1) := by decide +kernel
theorem dX0_allKnots_20 : decode cX0_allKnots 20 = .ok (.iinc 2 1, 3) := by decide +kernel
theorem dX0_allKnots_23 : decode cX0_allKnots 23 = .ok (.goto (-19), 3) := by decide +kernel
theorem dX0_allKnots_26 : decode cX0_allKnots 26 = .ok (.iload_n 1, 1) := by decide +kernel
theorem dX0_allKnots_27 : decode cX0_allKnots 27 = .ok (.ireturn, 1) := by decide +kernel
theorem dX0_addGroup_0 : decode cX0_addGroup 0 = .ok (.aload_n 0, 1) := by decide +kernel
theorem dX0_addGroup_1 : decode cX0_addGroup 1 = .ok (.getfield 11, 3) := by decide +kernel
theorem dX0_addGroup_4 : decode cX0_addGroup 4 = .ok (.sipush 177, 3) := by decide +kernel
theorem dX0_addGroup_7 : decode cX0_addGroup 7 = .ok (.aload_n 0, 1) := by decide +kernel
theorem dX0_addGroup_8 : decode cX0_addGroup 8 = .ok (.invokevirtual 41, 3) := by decide +kernel
theorem dX0_addGroup_11 : decode cX0_addGroup 11 = .ok (.iconst 1, 1) := by decide +kernel
theorem dX0_addGroup_12 : decode cX0_addGroup 12 = .ok (.iadd, 1) := by decide +kernel
theorem dX0_addGroup_13 : decode cX0_addGroup 13 = .ok (.invokestatic 44, 3) := by decide +kernel
theorem dX0_addGroup_16 : decode cX0_addGroup 16 = .ok (.return_, 1) := by decide +kernel
theorem dX0_addCord_0 : decode cX0_addCord 0 = .ok (.aload_n 0, 1) := by decide +kernel
theorem dX0_addCord_1 : decode cX0_addCord 1 = .ok (.getfield 11, 3) := by decide +kernel
theorem dX0_addCord_4 : decode cX0_addCord 4 = .ok (.sipush 176, 3) := by decide +kernel
theorem dX0_addCord_7 : decode cX0_addCord 7 = .ok (.invokestatic 25, 3) := by decide +kernel
theorem dX0_addCord_10 : decode cX0_addCord 10 = .ok (.istore 5, 2) := by decide +kernel
theorem dX0_addCord_12 : decode cX0_addCord 12 = .ok (.aload_n 0, 1) := by decide +kernel
theorem dX0_addCord_13 : decode cX0_addCord 13 = .ok (.getfield 11, 3) := by decide +kernel
theorem dX0_addCord_16 : decode cX0_addCord 16 = .ok (.iconst 0, 1) := by decide +kernel
theorem dX0_addCord_17 : decode cX0_addCord 17 = .ok (.iload 5, 2) := by decide +kernel
theorem dX0_addCord_19 : decode cX0_addCord 19 = .ok (.iadd, 1) := by decide +kernel
theorem dX0_addCord_20 : decode cX0_addCord 20 = .ok (.iload_n 1, 1) := by decide +kernel
theorem dX0_addCord_21 : decode cX0_addCord 21 = .ok (.invokestatic 44, 3) := by decide +kernel
theorem dX0_addCord_24 : decode cX0_addCord 24 = .ok (.aload_n 0, 1) := by decide +kernel
theorem dX0_addCord_25 : decode cX0_addCord 25 = .ok (.getfield 11, 3) := by decide +kernel
theorem dX0_addCord_28 : decode cX0_addCord 28 = .ok (.bipush 16, 2) := by decide +kernel
theorem dX0_addCord_30 : decode cX0_addCord 30 = .ok (.iload 5, 2) := by decide +kernel
theorem dX0_addCord_32 : decode cX0_addCord 32 = .ok (.iadd, 1) := by decide +kernel
theorem dX0_addCord_33 : decode cX0_addCord 33 = .ok (.iconst 0, 1) := by decide +kernel
theorem dX0_addCord_34 : decode cX0_addCord 34 = .ok (.invokestatic 44, 3) := by decide +kernel
theorem dX0_addCord_37 : decode cX0_addCord 37 = .ok (.aload_n 0, 1) := by decide +kernel
theorem dX0_addCord_38 : decode cX0_addCord 38 = .ok (.getfield 11, 3) := by decide +kernel
theorem dX0_addCord_41 : decode cX0_addCord 41 = .ok (.bipush 32, 2) := by decide +kernel
theorem dX0_addCord_43 : decode cX0_addCord 43 = .ok (.iload 5, 2) := by decide +kernel
theorem dX0_addCord_45 : decode cX0_addCord 45 = .ok (.iadd, 1) := by decide +kernel
theorem dX0_addCord_46 : decode cX0_addCord 46 = .ok (.iload_n 2, 1) := by decide +kernel
theorem dX0_addCord_47 : decode cX0_addCord 47 = .ok (.invokestatic 44, 3) := by decide +kernel
theorem dX0_addCord_50 : decode cX0_addCord 50 = .ok (.aload_n 0, 1) := by decide +kernel
theorem dX0_addCord_51 : decode cX0_addCord 51 = .ok (.getfield 11, 3) := by decide +kernel
theorem dX0_addCord_54 : decode cX0_addCord 54 = .ok (.bipush 48, 2) := by decide +kernel
theorem dX0_addCord_56 : decode cX0_addCord 56 = .ok (.iload 5, 2) := by decide +kernel
theorem dX0_addCord_58 : decode cX0_addCord 58 = .ok (.iadd, 1) := by decide +kernel
theorem dX0_addCord_59 : decode cX0_addCord 59 = .ok (.iload_n 3, 1) := by decide +kernel
theorem dX0_addCord_60 : decode cX0_addCord 60 = .ok (.invokestatic 44, 3) := by decide +kernel
theorem dX0_addCord_63 : decode cX0_addCord 63 = .ok (.aload_n 0, 1) := by decide +kernel
theorem dX0_addCord_64 : decode cX0_addCord 64 = .ok (.getfield 11, 3) := by decide +kernel
theorem dX0_addCord_67 : decode cX0_addCord 67 = .ok (.bipush 64, 2) := by decide +kernel
theorem dX0_addCord_69 : decode cX0_addCord 69 = .ok (.iload 5, 2) := by decide +kernel
theorem dX0_addCord_71 : decode cX0_addCord 71 = .ok (.iadd, 1) := by decide +kernel
theorem dX0_addCord_72 : decode cX0_addCord 72 = .ok (.iload 4, 2) := by decide +kernel
theorem dX0_addCord_74 : decode cX0_addCord 74 = .ok (.ifCond .eq 7, 3) := by decide +kernel
theorem dX0_addCord_77 : decode cX0_addCord 77 = .ok (.iconst 1, 1) := by decide +kernel
theorem dX0_addCord_78 : decode cX0_addCord 78 = .ok (.goto 4, 3) := by decide +kernel
theorem dX0_addCord_81 : decode cX0_addCord 81 = .ok (.iconst 0, 1) := by decide +kernel
theorem dX0_addCord_82 : decode cX0_addCord 82 = .ok (.invokestatic 44, 3) := by decide +kernel
theorem dX0_addCord_85 : decode cX0_addCord 85 = .ok (.aload_n 0, 1) := by decide +kernel
theorem dX0_addCord_86 : decode cX0_addCord 86 = .ok (.getfield 11, 3) := by decide +kernel
theorem dX0_addCord_89 : decode cX0_addCord 89 = .ok (.bipush 80, 2) := by decide +kernel
theorem dX0_addCord_91 : decode cX0_addCord 91 = .ok (.iload 5, 2) := by decide +kernel
theorem dX0_addCord_93 : decode cX0_addCord 93 = .ok (.iadd, 1) := by decide +kernel
theorem dX0_addCord_94 : decode cX0_addCord 94 = .ok (.aload_n 0, 1) := by decide +kernel
theorem dX0_addCord_95 : decode cX0_addCord 95 = .ok (.getfield 11, 3) := by decide +kernel
theorem dX0_addCord_98 : decode cX0_addCord 98 = .ok (.sipush 177, 3) := by decide +kernel
theorem dX0_addCord_101 : decode cX0_addCord 101 = .ok (.invokestatic 25, 3) := by decide +kernel
theorem dX0_addCord_104 : decode cX0_addCord 104 = .ok (.iconst 1, 1) := by decide +kernel
theorem dX0_addCord_105 : decode cX0_addCord 105 = .ok (.isub, 1) := by decide +kernel
theorem dX0_addCord_106 : decode cX0_addCord 106 = .ok (.invokestatic 44, 3) := by decide +kernel
theorem dX0_addCord_109 : decode cX0_addCord 109 = .ok (.iload_n 3, 1) := by decide +kernel
theorem dX0_addCord_110 : decode cX0_addCord 110 = .ok (.ifCond .ne 52, 3) := by decide +kernel
theorem dX0_addCord_113 : decode cX0_addCord 113 = .ok (.iload 4, 2) := by decide +kernel
theorem dX0_addCord_115 : decode cX0_addCord 115 = .ok (.ifCond .ne 47, 3) := by decide +kernel
theorem dX0_addCord_118 : decode cX0_addCord 118 = .ok (.aload_n 0, 1) := by decide +kernel
theorem dX0_addCord_119 : decode cX0_addCord 119 = .ok (.getfield 11, 3) := by decide +kernel
theorem dX0_addCord_122 : decode cX0_addCord 122 = .ok (.bipush 96, 2) := by decide +kernel
theorem dX0_addCord_124 : decode cX0_addCord 124 = .ok (.aload_n 0, 1) := by decide +kernel
theorem dX0_addCord_125 : decode cX0_addCord 125 = .ok (.getfield 11, 3) := by decide +kernel
theorem dX0_addCord_128 : decode cX0_addCord 128 = .ok (.sipush 178, 3) := by decide +kernel
theorem dX0_addCord_131 : decode cX0_addCord 131 = .ok (.invokestatic 25, 3) := by decide +kernel
theorem dX0_addCord_134 : decode cX0_addCord 134 = .ok (.iadd, 1) := by decide +kernel
theorem dX0_addCord_135 : decode cX0_addCord 135 = .ok (.iload 5, 2) := by decide +kernel
theorem dX0_addCord_137 : decode cX0_addCord 137 = .ok (.invokestatic 44, 3) := by decide +kernel
theorem dX0_addCord_140 : decode cX0_addCord 140 = .ok (.aload_n 0, 1) := by decide +kernel
theorem dX0_addCord_141 : decode cX0_addCord 141 = .ok (.getfield 11, 3) := by decide +kernel
theorem dX0_addCord_144 : decode cX0_addCord 144 = .ok (.sipush 178, 3) := by decide +kernel
theorem dX0_addCord_147 : decode cX0_addCord 147 = .ok (.aload_n 0, 1) := by decide +kernel
theorem dX0_addCord_148 : decode cX0_addCord 148 = .ok (.getfield 11, 3) := by decide +kernel
theorem dX0_addCord_151 : decode cX0_addCord 151 = .ok (.sipush 178, 3) := by decide +kernel
theorem dX0_addCord_154 : decode cX0_addCord 154 = .ok (.invokestatic 25, 3) := by decide +kernel
theorem dX0_addCord_157 : decode cX0_addCord 157 = .ok (.iconst 1, 1) := by decide +kernel
theorem dX0_addCord_158 : decode cX0_addCord 158 = .ok (.iadd, 1) := by decide +kernel
theorem dX0_addCord_159 : decode cX0_addCord 159 = .ok (.invokestatic 44, 3) := by decide +kernel
theorem dX0_addCord_162 : decode cX0_addCord 162 = .ok (.aload_n 0, 1) := by decide +kernel
theorem dX0_addCord_163 : decode cX0_addCord 163 = .ok (.getfield 11, 3) := by decide +kernel
theorem dX0_addCord_166 : decode cX0_addCord 166 = .ok (.sipush 176, 3) := by decide +kernel
theorem dX0_addCord_169 : decode cX0_addCord 169 = .ok (.iload 5, 2) := by decide +kernel
theorem dX0_addCord_171 : decode cX0_addCord 171 = .ok (.iconst 1, 1) := by decide +kernel
theorem dX0_addCord_172 : decode cX0_addCord 172 = .ok (.iadd, 1) := by decide +kernel
theorem dX0_addCord_173 : decode cX0_addCord 173 = .ok (.invokestatic 44, 3) := by decide +kernel
theorem dX0_addCord_176 : decode cX0_addCord 176 = .ok (.return_, 1) := by decide +kernel
theorem dX0_addCluster_0 : decode cX0_addCluster 0 = .ok (.aload_n 0, 1) := by decide +kernel
theorem dX0_addCluster_1 : decode cX0_addCluster 1 = .ok (.getfield 11, 3) := by decide +kernel
theorem dX0_addCluster_4 : decode cX0_addCluster 4 = .ok (.sipush 176, 3) := by decide +kernel
theorem dX0_addCluster_7 : decode cX0_addCluster 7 = .ok (.invokestatic 25, 3) := by decide +kernel
theorem dX0_addCluster_10 : decode cX0_addCluster 10 = .ok (.iconst 1, 1) := by decide +kernel
theorem dX0_addCluster_11 : decode cX0_addCluster 11 = .ok (.isub, 1) := by decide +kernel
theorem dX0_addCluster_12 : decode cX0_addCluster 12 = .ok (.istore_n 2, 1) := by decide +kernel
theorem dX0_addCluster_13 : decode cX0_addCluster 13 = .ok (.bipush 112, 2) := by decide +kernel
theorem dX0_addCluster_15 : decode cX0_addCluster 15 = .ok (.iconst 4, 1) := by decide +kernel
theorem dX0_addCluster_16 : decode cX0_addCluster 16 = .ok (.iload_n 2, 1) := by decide +kernel
theorem dX0_addCluster_17 : decode cX0_addCluster 17 = .ok (.imul, 1) := by decide +kernel
theorem dX0_addCluster_18 : decode cX0_addCluster 18 = .ok (.iadd, 1) := by decide +kernel
theorem dX0_addCluster_19 : decode cX0_addCluster 19 = .ok (.istore_n 3, 1) := by decide +kernel
theorem dX0_addCluster_20 : decode cX0_addCluster 20 = .ok (.aload_n 0, 1) := by decide +kernel
theorem dX0_addCluster_21 : decode cX0_addCluster 21 = .ok (.getfield 11, 3) := by decide +kernel
theorem dX0_addCluster_24 : decode cX0_addCluster 24 = .ok (.bipush 16, 2) := by decide +kernel
theorem dX0_addCluster_26 : decode cX0_addCluster 26 = .ok (.iload_n 2, 1) := by decide +kernel
theorem dX0_addCluster_27 : decode cX0_addCluster 27 = .ok (.iadd, 1) := by decide +kernel
theorem dX0_addCluster_28 : decode cX0_addCluster 28 = .ok (.invokestatic 25, 3) := by decide +kernel
theorem dX0_addCluster_31 : decode cX0_addCluster 31 = .ok (.istore 4, 2) := by decide +kernel
theorem dX0_addCluster_33 : decode cX0_addCluster 33 = .ok (.iload 4, 2) := by decide +kernel
theorem dX0_addCluster_35 : decode cX0_addCluster 35 = .ok (.istore 5, 2) := by decide +kernel
theorem dX0_addCluster_37 : decode cX0_addCluster 37 = .ok (.iload 5, 2) := by decide +kernel
theorem dX0_addCluster_39 : decode cX0_addCluster 39 = .ok (.ifCond .le 33, 3) := by decide +kernel
theorem dX0_addCluster_42 : decode cX0_addCluster 42 = .ok (.aload_n 0, 1) := by decide +kernel
theorem dX0_addCluster_43 : decode cX0_addCluster 43 = .ok (.getfield 11, 3) := by decide +kernel
theorem dX0_addCluster_46 : decode cX0_addCluster 46 = .ok (.iload_n 3, 1) := by decide +kernel
theorem dX0_addCluster_47 : decode cX0_addCluster 47 = .ok (.iload 5, 2) := by decide +kernel
theorem dX0_addCluster_49 : decode cX0_addCluster 49 = .ok (.iadd, 1) := by decide +kernel
theorem dX0_addCluster_50 : decode cX0_addCluster 50 = .ok (.aload_n 0, 1) := by decide +kernel
theorem dX0_addCluster_51 : decode cX0_addCluster 51 = .ok (.getfield 11, 3) := by decide +kernel
theorem dX0_addCluster_54 : decode cX0_addCluster 54 = .ok (.iload_n 3, 1) := by decide +kernel
theorem dX0_addCluster_55 : decode cX0_addCluster 55 = .ok (.iload 5, 2) := by decide +kernel
theorem dX0_addCluster_57 : decode cX0_addCluster 57 = .ok (.iadd, 1) := by decide +kernel
theorem dX0_addCluster_58 : decode cX0_addCluster 58 = .ok (.iconst 1, 1) := by decide +kernel
theorem dX0_addCluster_59 : decode cX0_addCluster 59 = .ok (.isub, 1) := by decide +kernel
theorem dX0_addCluster_60 : decode cX0_addCluster 60 = .ok (.invokestatic 25, 3) := by decide +kernel
theorem dX0_addCluster_63 : decode cX0_addCluster 63 = .ok (.invokestatic 44, 3) := by decide +kernel
theorem dX0_addCluster_66 : decode cX0_addCluster 66 = .ok (.iinc 5 (-1), 3) := by decide +kernel
theorem dX0_addCluster_69 : decode cX0_addCluster 69 = .ok (.goto (-32), 3) := by decide +kernel
theorem dX0_addCluster_72 : decode cX0_addCluster 72 = .ok (.aload_n 0, 1) := by decide +kernel
theorem dX0_addCluster_73 : decode cX0_addCluster 73 = .ok (.getfield 11, 3) := by decide +kernel
theorem dX0_addCluster_76 : decode cX0_addCluster 76 = .ok (.iload_n 3, 1) := by decide +kernel
theorem dX0_addCluster_77 : decode cX0_addCluster 77 = .ok (.iload_n 1, 1) := by decide +kernel
theorem dX0_addCluster_78 : decode cX0_addCluster 78 = .ok (.invokestatic 44, 3) := by decide +kernel
theorem dX0_addCluster_81 : decode cX0_addCluster 81 = .ok (.aload_n 0, 1) := by decide +kernel
theorem dX0_addCluster_82 : decode cX0_addCluster 82 = .ok (.getfield 11, 3) := by decide +kernel
theorem dX0_addCluster_85 : decode cX0_addCluster 85 = .ok (.bipush 16, 2) := by decide +kernel
theorem dX0_addCluster_87 : decode cX0_addCluster 87 = .ok (.iload_n 2, 1) := by decide +kernel
theorem dX0_addCluster_88 : decode cX0_addCluster 88 = .ok (.iadd, 1) := by decide +kernel
theorem dX0_addCluster_89 : decode cX0_addCluster 89 = .ok (.iload 4, 2) := by decide +kernel
theorem dX0_addCluster_91 : decode cX0_addCluster 91 = .ok (.iconst 1, 1) := by decide +kernel
theorem dX0_addCluster_92 : decode cX0_addCluster 92 = .ok (.iadd, 1) := by decide +kernel
theorem dX0_addCluster_93 : decode cX0_addCluster 93 = .ok (.invokestatic 44, 3) := by decide +kernel
theorem dX0_addCluster_96 : decode cX0_addCluster 96 = .ok (.return_, 1) := by decide +kernel
theorem dX1_init_0 : decode cX1_init 0 = .ok (.aload_n 0, 1) := by decide +kernel
theorem dX1_init_1 : decode cX1_init 1 = .ok (.invokespecial 3, 3) := by decide +kernel
theorem dX1_init_4 : decode cX1_init 4 = .ok (.aload_n 0, 1) := by decide +kernel
theorem dX1_init_5 : decode cX1_init 5 = .ok (.new 9, 3) := by decide +kernel
theorem dX1_init_8 : decode cX1_init 8 = .ok (.dup, 1) := by decide +kernel
theorem dX1_init_9 : decode cX1_init 9 = .ok (.invokespecial 11, 3) := by decide +kernel
theorem dX1_init_12 : decode cX1_init 12 = .ok (.putfield 12, 3) := by decide +kernel
theorem dX1_init_15 : decode cX1_init 15 = .ok (.aload_n 0, 1) := by decide +kernel
theorem dX1_init_16 : decode cX1_init 16 = .ok (.iconst 3, 1) := by decide +kernel
theorem dX1_init_17 : decode cX1_init 17 = .ok (.newarray .int, 2) := by decide +kernel
theorem dX1_init_19 : decode cX1_init 19 = .ok (.putfield 18, 3) := by decide +kernel
theorem dX1_init_22 : decode cX1_init 22 = .ok (.return_, 1) := by decide +kernel
theorem dX1_read_0 : decode cX1_read 0 = .ok (.aload_n 0, 1) := by decide +kernel
theorem dX1_read_1 : decode cX1_read 1 = .ok (.getfield 12, 3) := by decide +kernel
theorem dX1_read_4 : decode cX1_read 4 = .ok (.invokevirtual 22, 3) := by decide +kernel
theorem dX1_read_7 : decode cX1_read 7 = .ok (.aload_n 0, 1) := by decide +kernel
theorem dX1_read_8 : decode cX1_read 8 = .ok (.iconst 0, 1) := by decide +kernel
theorem dX1_read_9 : decode cX1_read 9 = .ok (.putfield 25, 3) := by decide +kernel
theorem dX1_read_12 : decode cX1_read 12 = .ok (.aload_n 0, 1) := by decide +kernel
theorem dX1_read_13 : decode cX1_read 13 = .ok (.iconst 0, 1) := by decide +kernel
theorem dX1_read_14 : decode cX1_read 14 = .ok (.putfield 29, 3) := by decide +kernel
theorem dX1_read_17 : decode cX1_read 17 = .ok (.aload_n 0, 1) := by decide +kernel
theorem dX1_read_18 : decode cX1_read 18 = .ok (.iconst 0, 1) := by decide +kernel
theorem dX1_read_19 : decode cX1_read 19 = .ok (.putfield 32, 3) := by decide +kernel
theorem dX1_read_22 : decode cX1_read 22 = .ok (.iconst 0, 1) := by decide +kernel
theorem dX1_read_23 : decode cX1_read 23 = .ok (.istore_n 3, 1) := by decide +kernel
theorem dX1_read_24 : decode cX1_read 24 = .ok (.iload_n 3, 1) := by decide +kernel
theorem dX1_read_25 : decode cX1_read 25 = .ok (.iload_n 2, 1) := by decide +kernel
theorem dX1_read_26 : decode cX1_read 26 = .ok (.if_icmp .ge 27, 3) := by decide +kernel
theorem dX1_read_29 : decode cX1_read 29 = .ok (.iload_n 3, 1) := by decide +kernel
theorem dX1_read_30 : decode cX1_read 30 = .ok (.aload_n 1, 1) := by decide +kernel
theorem dX1_read_31 : decode cX1_read 31 = .ok (.arraylength, 1) := by decide +kernel
theorem dX1_read_32 : decode cX1_read 32 = .ok (.if_icmp .ge 21, 3) := by decide +kernel
theorem dX1_read_35 : decode cX1_read 35 = .ok (.aload_n 0, 1) := by decide +kernel
theorem dX1_read_36 : decode cX1_read 36 = .ok (.aload_n 1, 1) := by decide +kernel
theorem dX1_read_37 : decode cX1_read 37 = .ok (.iload_n 3, 1) := by decide +kernel
theorem dX1_read_38 : decode cX1_read 38 = .ok (.caload, 1) := by decide +kernel
theorem dX1_read_39 : decode cX1_read 39 = .ok (.invokevirtual 36, 3) := by decide +kernel
theorem dX1_read_42 : decode cX1_read 42 = .ok (.ifCond .ne 5, 3) := by decide +kernel
theorem dX1_read_45 : decode cX1_read 45 = .ok (.iload_n 3, 1) := by decide +kernel
theorem dX1_read_46 : decode cX1_read 46 = .ok (.ireturn, 1) := by decide +kernel
theorem dX1_read_47 : decode cX1_read 47 = .ok (.iinc 3 1, 3) := by decide +kernel
theorem dX1_read_50 : decode cX1_read 50 = .ok (.goto (-26), 3) := by decide +kernel
theorem dX1_read_53 : decode cX1_read 53 = .ok (.aload_n 0, 1) := by decide +kernel
theorem dX1_read_54 : decode cX1_read 54 = .ok (.getfield 25, 3) := by decide +kernel
theorem dX1_read_57 : decode cX1_read 57 = .ok (.ifCond .ne 8, 3) := by decide +kernel
theorem dX1_read_60 : decode cX1_read 60 = .ok (.bipush (-4), 2) := by decide +kernel
theorem dX1_read_62 : decode cX1_read 62 = .ok (.goto 4, 3) := by decide +kernel
theorem dX1_read_65 : decode cX1_read 65 = .ok (.iload_n 2, 1) := by decide +kernel
theorem dX1_read_66 : decode cX1_read 66 = .ok (.ireturn, 1) := by decide +kernel
theorem dX1_takes_0 : decode cX1_takes 0 = .ok (.aload_n 0, 1) := by decide +kernel
theorem dX1_takes_1 : decode cX1_takes 1 = .ok (.getfield 25, 3) := by decide +kernel
theorem dX1_takes_4 : decode cX1_takes 4 = .ok (.tableswitch 121 0 5 #[40, 59, 65, 71, 81, 91], 40) := by decide +kernel
theorem dX1_takes_44 : decode cX1_takes 44 = .ok (.iload_n 1, 1) := by decide +kernel
theorem dX1_takes_45 : decode cX1_takes 45 = .ok (.bipush 91, 2) := by decide +kernel
theorem dX1_takes_47 : decode cX1_takes 47 = .ok (.if_icmp .ne 14, 3) := by decide +kernel
theorem dX1_takes_50 : decode cX1_takes 50 = .ok (.aload_n 0, 1) := by decide +kernel
theorem dX1_takes_51 : decode cX1_takes 51 = .ok (.invokevirtual 40, 3) := by decide +kernel
theorem dX1_takes_54 : decode cX1_takes 54 = .ok (.ifCond .eq 7, 3) := by decide +kernel
theorem dX1_takes_57 : decode cX1_takes 57 = .ok (.iconst 1, 1) := by decide +kernel
theorem dX1_takes_58 : decode cX1_takes 58 = .ok (.goto 4, 3) := by decide +kernel
theorem dX1_takes_61 : decode cX1_takes 61 = .ok (.iconst 0, 1) := by decide +kernel
theorem dX1_takes_62 : decode cX1_takes 62 = .ok (.ireturn, 1) := by decide +kernel
theorem dX1_takes_63 : decode cX1_takes 63 = .ok (.aload_n 0, 1) := by decide +kernel
theorem dX1_takes_64 : decode cX1_takes 64 = .ok (.iload_n 1, 1) := by decide +kernel
theorem dX1_takes_65 : decode cX1_takes 65 = .ok (.invokevirtual 44, 3) := by decide +kernel
theorem dX1_takes_68 : decode cX1_takes 68 = .ok (.ireturn, 1) := by decide +kernel
theorem dX1_takes_69 : decode cX1_takes 69 = .ok (.aload_n 0, 1) := by decide +kernel
theorem dX1_takes_70 : decode cX1_takes 70 = .ok (.iload_n 1, 1) := by decide +kernel
theorem dX1_takes_71 : decode cX1_takes 71 = .ok (.invokevirtual 47, 3) := by decide +kernel
theorem dX1_takes_74 : decode cX1_takes 74 = .ok (.ireturn, 1) := by decide +kernel
theorem dX1_takes_75 : decode cX1_takes 75 = .ok (.aload_n 0, 1) := by decide +kernel
theorem dX1_takes_76 : decode cX1_takes 76 = .ok (.iconst 1, 1) := by decide +kernel
theorem dX1_takes_77 : decode cX1_takes 77 = .ok (.iload_n 1, 1) := by decide +kernel
theorem dX1_takes_78 : decode cX1_takes 78 = .ok (.bipush 48, 2) := by decide +kernel
theorem dX1_takes_80 : decode cX1_takes 80 = .ok (.isub, 1) := by decide +kernel
theorem dX1_takes_81 : decode cX1_takes 81 = .ok (.invokevirtual 50, 3) := by decide +kernel
theorem dX1_takes_84 : decode cX1_takes 84 = .ok (.ireturn, 1) := by decide +kernel
theorem dX1_takes_85 : decode cX1_takes 85 = .ok (.aload_n 0, 1) := by decide +kernel
theorem dX1_takes_86 : decode cX1_takes 86 = .ok (.iconst 2, 1) := by decide +kernel
theorem dX1_takes_87 : decode cX1_takes 87 = .ok (.iload_n 1, 1) := by decide +kernel
theorem dX1_takes_88 : decode cX1_takes 88 = .ok (.bipush 48, 2) := by decide +kernel
theorem dX1_takes_90 : decode cX1_takes 90 = .ok (.isub, 1) := by decide +kernel
theorem dX1_takes_91 : decode cX1_takes 91 = .ok (.invokevirtual 50, 3) := by decide +kernel
theorem dX1_takes_94 : decode cX1_takes 94 = .ok (.ireturn, 1) := by decide +kernel
theorem dX1_takes_95 : decode cX1_takes 95 = .ok (.aload_n 0, 1) := by decide +kernel
theorem dX1_takes_96 : decode cX1_takes 96 = .ok (.iload_n 1, 1) := by decide +kernel
theorem dX1_takes_97 : decode cX1_takes 97 = .ok (.invokevirtual 47, 3) := by decide +kernel
theorem dX1_takes_100 : decode cX1_takes 100 = .ok (.ifCond .ne 19, 3) := by decide +kernel
theorem dX1_takes_103 : decode cX1_takes 103 = .ok (.aload_n 0, 1) := by decide +kernel
theorem dX1_takes_104 : decode cX1_takes 104 = .ok (.iload_n 1, 1) := by decide +kernel
theorem dX1_takes_105 : decode cX1_takes 105 = .ok (.invokevirtual 54, 3) := by decide +kernel
theorem dX1_takes_108 : decode cX1_takes 108 = .ok (.ifCond .ne 11, 3) := by decide +kernel
theorem dX1_takes_111 : decode cX1_takes 111 = .ok (.aload_n 0, 1) := by decide +kernel
theorem dX1_takes_112 : decode cX1_takes 112 = .ok (.iload_n 1, 1) := by decide +kernel
theorem dX1_takes_113 : decode cX1_takes 113 = .ok (.invokevirtual 57, 3) := by decide +kernel
theorem dX1_takes_116 : decode cX1_takes 116 = .ok (.ifCond .eq 7, 3) := by decide +kernel
theorem dX1_takes_119 : decode cX1_takes 119 = .ok (.iconst 1, 1) := by decide +kernel
theorem dX1_takes_120 : decode cX1_takes 120 = .ok (.goto 4, 3) := by decide +kernel
theorem dX1_takes_123 : decode cX1_takes 123 = .ok (.iconst 0, 1) := by decide +kernel
theorem dX1_takes_124 : decode cX1_takes 124 = .ok (.ireturn, 1) := by decide +kernel
theorem dX1_takes_125 : decode cX1_takes 125 = .ok (.aload_n 0, 1) := by decide +kernel
theorem dX1_takes_126 : decode cX1_takes 126 = .ok (.iload_n 1, 1) := by decide +kernel
theorem dX1_takes_127 : decode cX1_takes 127 = .ok (.invokevirtual 57, 3) := by decide +kernel
theorem dX1_takes_130 : decode cX1_takes 130 = .ok (.ireturn, 1) := by decide +kernel
theorem dX1_opensGroup_0 : decode cX1_opensGroup 0 = .ok (.aload_n 0, 1) := by decide +kernel
theorem dX1_opensGroup_1 : decode cX1_opensGroup 1 = .ok (.getfield 12, 3) := by decide +kernel
theorem dX1_opensGroup_4 : decode cX1_opensGroup 4 = .ok (.invokevirtual 60, 3) := by decide +kernel
theorem dX1_opensGroup_7 : decode cX1_opensGroup 7 = .ok (.iconst 5, 1) := by decide +kernel
theorem dX1_opensGroup_8 : decode cX1_opensGroup 8 = .ok (.if_icmp .lt 5, 3) := by decide +kernel
theorem dX1_opensGroup_11 : decode cX1_opensGroup 11 = .ok (.iconst 0, 1) := by decide +kernel
theorem dX1_opensGroup_12 : decode cX1_opensGroup 12 = .ok (.ireturn, 1) := by decide +kernel
theorem dX1_opensGroup_13 : decode cX1_opensGroup 13 = .ok (.aload_n 0, 1) := by decide +kernel
theorem dX1_opensGroup_14 : decode cX1_opensGroup 14 = .ok (.getfield 12, 3) := by decide +kernel
theorem dX1_opensGroup_17 : decode cX1_opensGroup 17 = .ok (.invokevirtual 64, 3) := by decide +kernel
theorem dX1_opensGroup_20 : decode cX1_opensGroup 20 = .ok (.aload_n 0, 1) := by decide +kernel
theorem dX1_opensGroup_21 : decode cX1_opensGroup 21 = .ok (.iconst 0, 1) := by decide +kernel
theorem dX1_opensGroup_22 : decode cX1_opensGroup 22 = .ok (.putfield 32, 3) := by decide +kernel
theorem dX1_opensGroup_25 : decode cX1_opensGroup 25 = .ok (.aload_n 0, 1) := by decide +kernel
theorem dX1_opensGroup_26 : decode cX1_opensGroup 26 = .ok (.iconst 1, 1) := by decide +kernel
theorem dX1_opensGroup_27 : decode cX1_opensGroup 27 = .ok (.putfield 25, 3) := by decide +kernel
theorem dX1_opensGroup_30 : decode cX1_opensGroup 30 = .ok (.iconst 1, 1) := by decide +kernel
theorem dX1_opensGroup_31 : decode cX1_opensGroup 31 = .ok (.ireturn, 1) := by decide +kernel
theorem dX1_opensCord_0 : decode cX1_opensCord 0 = .ok (.iload_n 1, 1) := by decide +kernel
theorem dX1_opensCord_1 : decode cX1_opensCord 1 = .ok (.bipush 48, 2) := by decide +kernel
theorem dX1_opensCord_3 : decode cX1_opensCord 3 = .ok (.isub, 1) := by decide +kernel
theorem dX1_opensCord_4 : decode cX1_opensCord 4 = .ok (.istore_n 2, 1) := by decide +kernel
theorem dX1_opensCord_5 : decode cX1_opensCord 5 = .ok (.iload_n 2, 1) := by decide +kernel
theorem dX1_opensCord_6 : decode cX1_opensCord 6 = .ok (.invokestatic 67, 3) := by decide +kernel
theorem dX1_opensCord_9 : decode cX1_opensCord 9 = .ok (.ifCond .eq 15, 3) := by decide +kernel
theorem dX1_opensCord_12 : decode cX1_opensCord 12 = .ok (.aload_n 0, 1) := by decide +kernel
theorem dX1_opensCord_13 : decode cX1_opensCord 13 = .ok (.getfield 12, 3) := by decide +kernel
theorem dX1_opensCord_16 : decode cX1_opensCord 16 = .ok (.invokevirtual 71, 3) := by decide +kernel
theorem dX1_opensCord_19 : decode cX1_opensCord 19 = .ok (.bipush 16, 2) := by decide +kernel
theorem dX1_opensCord_21 : decode cX1_opensCord 21 = .ok (.if_icmp .lt 5, 3) := by decide +kernel
theorem dX1_opensCord_24 : decode cX1_opensCord 24 = .ok (.iconst 0, 1) := by decide +kernel
theorem dX1_opensCord_25 : decode cX1_opensCord 25 = .ok (.ireturn, 1) := by decide +kernel
theorem dX1_opensCord_26 : decode cX1_opensCord 26 = .ok (.aload_n 0, 1) := by decide +kernel
theorem dX1_opensCord_27 : decode cX1_opensCord 27 = .ok (.getfield 18, 3) := by decide +kernel
theorem dX1_opensCord_30 : decode cX1_opensCord 30 = .ok (.aload_n 0, 1) := by decide +kernel
theorem dX1_opensCord_31 : decode cX1_opensCord 31 = .ok (.getfield 29, 3) := by decide +kernel
theorem dX1_opensCord_34 : decode cX1_opensCord 34 = .ok (.aload_n 0, 1) := by decide +kernel
theorem dX1_opensCord_35 : decode cX1_opensCord 35 = .ok (.getfield 12, 3) := by decide +kernel
theorem dX1_opensCord_38 : decode cX1_opensCord 38 = .ok (.invokevirtual 71, 3) := by decide +kernel
theorem dX1_opensCord_41 : decode cX1_opensCord 41 = .ok (.invokestatic 74, 3) := by decide +kernel
theorem dX1_opensCord_44 : decode cX1_opensCord 44 = .ok (.aload_n 0, 1) := by decide +kernel
theorem dX1_opensCord_45 : decode cX1_opensCord 45 = .ok (.getfield 12, 3) := by decide +kernel
theorem dX1_opensCord_48 : decode cX1_opensCord 48 = .ok (.iload_n 2, 1) := by decide +kernel
theorem dX1_opensCord_49 : decode cX1_opensCord 49 = .ok (.aload_n 0, 1) := by decide +kernel
theorem dX1_opensCord_50 : decode cX1_opensCord 50 = .ok (.getfield 29, 3) := by decide +kernel
theorem dX1_opensCord_53 : decode cX1_opensCord 53 = .ok (.ifCond .ne 8, 3) := by decide +kernel
theorem dX1_opensCord_56 : decode cX1_opensCord 56 = .ok (.bipush (-4), 2) := by decide +kernel
theorem dX1_opensCord_58 : decode cX1_opensCord 58 = .ok (.goto 16, 3) := by decide +kernel
theorem dX1_opensCord_61 : decode cX1_opensCord 61 = .ok (.aload_n 0, 1) := by decide +kernel
theorem dX1_opensCord_62 : decode cX1_opensCord 62 = .ok (.getfield 18, 3) := by decide +kernel
theorem dX1_opensCord_65 : decode cX1_opensCord 65 = .ok (.aload_n 0, 1) := by decide +kernel
theorem dX1_opensCord_66 : decode cX1_opensCord 66 = .ok (.getfield 29, 3) := by decide +kernel
theorem dX1_opensCord_69 : decode cX1_opensCord 69 = .ok (.iconst 1, 1) := by decide +kernel
theorem dX1_opensCord_70 : decode cX1_opensCord 70 = .ok (.isub, 1) := by decide +kernel
theorem dX1_opensCord_71 : decode cX1_opensCord 71 = .ok (.invokestatic 78, 3) := by decide +kernel
theorem dX1_opensCord_74 : decode cX1_opensCord 74 = .ok (.aload_n 0, 1) := by decide +kernel
theorem dX1_opensCord_75 : decode cX1_opensCord 75 = .ok (.getfield 29, 3) := by decide +kernel
theorem dX1_opensCord_78 : decode cX1_opensCord 78 = .ok (.aload_n 0, 1) := by decide +kernel
theorem dX1_opensCord_79 : decode cX1_opensCord 79 = .ok (.getfield 29, 3) := by decide +kernel
theorem dX1_opensCord_82 : decode cX1_opensCord 82 = .ok (.ifCond .ne 14, 3) := by decide +kernel
theorem dX1_opensCord_85 : decode cX1_opensCord 85 = .ok (.aload_n 0, 1) := by decide +kernel
theorem dX1_opensCord_86 : decode cX1_opensCord 86 = .ok (.getfield 32, 3) := by decide +kernel
theorem dX1_opensCord_89 : decode cX1_opensCord 89 = .ok (.ifCond .eq 7, 3) := by decide +kernel
theorem dX1_opensCord_92 : decode cX1_opensCord 92 = .ok (.iconst 1, 1) := by decide +kernel
theorem dX1_opensCord_93 : decode cX1_opensCord 93 = .ok (.goto 4, 3) := by decide +kernel
theorem dX1_opensCord_96 : decode cX1_opensCord 96 = .ok (.iconst 0, 1) := by decide +kernel
theorem dX1_opensCord_97 : decode cX1_opensCord 97 = .ok (.invokevirtual 82, 3) := by decide +kernel
theorem dX1_opensCord_100 : decode cX1_opensCord 100 = .ok (.aload_n 0, 1) := by decide +kernel
theorem dX1_opensCord_101 : decode cX1_opensCord 101 = .ok (.iconst 2, 1) := by decide +kernel
theorem dX1_opensCord_102 : decode cX1_opensCord 102 = .ok (.putfield 25, 3) := by decide +kernel
theorem dX1_opensCord_105 : decode cX1_opensCord 105 = .ok (.iconst 1, 1) := by decide +kernel
theorem dX1_opensCord_106 : decode cX1_opensCord 106 = .ok (.ireturn, 1) := by decide +kernel
theorem dX1_opensCluster_0 : decode cX1_opensCluster 0 = .ok (.aload_n 0, 1) := by decide +kernel
theorem dX1_opensCluster_1 : decode cX1_opensCluster 1 = .ok (.getfield 12, 3) := by decide +kernel
theorem dX1_opensCluster_4 : decode cX1_opensCluster 4 = .ok (.aload_n 0, 1) := by decide +kernel
theorem dX1_opensCluster_5 : decode cX1_opensCluster 5 = .ok (.getfield 12, 3) := by decide +kernel
theorem dX1_opensCluster_8 : decode cX1_opensCluster 8 = .ok (.invokevirtual 71, 3) := by decide +kernel
theorem dX1_opensCluster_11 : decode cX1_opensCluster 11 = .ok (.iconst 1, 1) := by decide +kernel
theorem dX1_opensCluster_12 : decode cX1_opensCluster 12 = .ok (.isub, 1) := by decide +kernel
theorem dX1_opensCluster_13 : decode cX1_opensCluster 13 = .ok (.invokevirtual 86, 3) := by decide +kernel
theorem dX1_opensCluster_16 : decode cX1_opensCluster 16 = .ok (.iconst 4, 1) := by decide +kernel
theorem dX1_opensCluster_17 : decode cX1_opensCluster 17 = .ok (.if_icmp .lt 5, 3) := by decide +kernel
theorem dX1_opensCluster_20 : decode cX1_opensCluster 20 = .ok (.iconst 0, 1) := by decide +kernel
theorem dX1_opensCluster_21 : decode cX1_opensCluster 21 = .ok (.ireturn, 1) := by decide +kernel
theorem dX1_opensCluster_22 : decode cX1_opensCluster 22 = .ok (.iload_n 1, 1) := by decide +kernel
theorem dX1_opensCluster_23 : decode cX1_opensCluster 23 = .ok (.lookupswitch 69 #[(46, 41), (101, 48), (108, 62), (115, 55)], 41) := by decide +kernel
theorem dX1_opensCluster_64 : decode cX1_opensCluster 64 = .ok (.aload_n 0, 1) := by decide +kernel
theorem dX1_opensCluster_65 : decode cX1_opensCluster 65 = .ok (.iconst 0, 1) := by decide +kernel
theorem dX1_opensCluster_66 : decode cX1_opensCluster 66 = .ok (.iconst 0, 1) := by decide +kernel
theorem dX1_opensCluster_67 : decode cX1_opensCluster 67 = .ok (.invokevirtual 50, 3) := by decide +kernel
theorem dX1_opensCluster_70 : decode cX1_opensCluster 70 = .ok (.ireturn, 1) := by decide +kernel
theorem dX1_opensCluster_71 : decode cX1_opensCluster 71 = .ok (.aload_n 0, 1) := by decide +kernel
theorem dX1_opensCluster_72 : decode cX1_opensCluster 72 = .ok (.iconst 3, 1) := by decide +kernel
theorem dX1_opensCluster_73 : decode cX1_opensCluster 73 = .ok (.iconst 1, 1) := by decide +kernel
theorem dX1_opensCluster_74 : decode cX1_opensCluster 74 = .ok (.invokevirtual 50, 3) := by decide +kernel
theorem dX1_opensCluster_77 : decode cX1_opensCluster 77 = .ok (.ireturn, 1) := by decide +kernel
theorem dX1_opensCluster_78 : decode cX1_opensCluster 78 = .ok (.aload_n 0, 1) := by decide +kernel
theorem dX1_opensCluster_79 : decode cX1_opensCluster 79 = .ok (.iconst 3, 1) := by decide +kernel
theorem dX1_opensCluster_80 : decode cX1_opensCluster 80 = .ok (.putfield 25, 3) := by decide +kernel
theorem dX1_opensCluster_83 : decode cX1_opensCluster 83 = .ok (.iconst 1, 1) := by decide +kernel
theorem dX1_opensCluster_84 : decode cX1_opensCluster 84 = .ok (.ireturn, 1) := by decide +kernel
theorem dX1_opensCluster_85 : decode cX1_opensCluster 85 = .ok (.aload_n 0, 1) := by decide +kernel
theorem dX1_opensCluster_86 : decode cX1_opensCluster 86 = .ok (.iconst 4, 1) := by decide +kernel
theorem dX1_opensCluster_87 : decode cX1_opensCluster 87 = .ok (.putfield 25, 3) := by decide +kernel
theorem dX1_opensCluster_90 : decode cX1_opensCluster 90 = .ok (.iconst 1, 1) := by decide +kernel
theorem dX1_opensCluster_91 : decode cX1_opensCluster 91 = .ok (.ireturn, 1) := by decide +kernel
theorem dX1_opensCluster_92 : decode cX1_opensCluster 92 = .ok (.iconst 0, 1) := by decide +kernel
theorem dX1_opensCluster_93 : decode cX1_opensCluster 93 = .ok (.ireturn, 1) := by decide +kernel
theorem dX1_endsCluster_0 : decode cX1_endsCluster 0 = .ok (.iload_n 1, 1) := by decide +kernel
theorem dX1_endsCluster_1 : decode cX1_endsCluster 1 = .ok (.iload_n 2, 1) := by decide +kernel
theorem dX1_endsCluster_2 : decode cX1_endsCluster 2 = .ok (.invokestatic 90, 3) := by decide +kernel
theorem dX1_endsCluster_5 : decode cX1_endsCluster 5 = .ok (.ifCond .ne 5, 3) := by decide +kernel
theorem dX1_endsCluster_8 : decode cX1_endsCluster 8 = .ok (.iconst 0, 1) := by decide +kernel
theorem dX1_endsCluster_9 : decode cX1_endsCluster 9 = .ok (.ireturn, 1) := by decide +kernel
theorem dX1_endsCluster_10 : decode cX1_endsCluster 10 = .ok (.aload_n 0, 1) := by decide +kernel
theorem dX1_endsCluster_11 : decode cX1_endsCluster 11 = .ok (.getfield 12, 3) := by decide +kernel
theorem dX1_endsCluster_14 : decode cX1_endsCluster 14 = .ok (.bipush 10, 2) := by decide +kernel
theorem dX1_endsCluster_16 : decode cX1_endsCluster 16 = .ok (.iload_n 1, 1) := by decide +kernel
theorem dX1_endsCluster_17 : decode cX1_endsCluster 17 = .ok (.imul, 1) := by decide +kernel
theorem dX1_endsCluster_18 : decode cX1_endsCluster 18 = .ok (.iload_n 2, 1) := by decide +kernel
theorem dX1_endsCluster_19 : decode cX1_endsCluster 19 = .ok (.iadd, 1) := by decide +kernel
theorem dX1_endsCluster_20 : decode cX1_endsCluster 20 = .ok (.invokevirtual 93, 3) := by decide +kernel
theorem dX1_endsCluster_23 : decode cX1_endsCluster 23 = .ok (.aload_n 0, 1) := by decide +kernel
theorem dX1_endsCluster_24 : decode cX1_endsCluster 24 = .ok (.iconst 5, 1) := by decide +kernel
theorem dX1_endsCluster_25 : decode cX1_endsCluster 25 = .ok (.putfield 25, 3) := by decide +kernel
theorem dX1_endsCluster_28 : decode cX1_endsCluster 28 = .ok (.iconst 1, 1) := by decide +kernel
theorem dX1_endsCluster_29 : decode cX1_endsCluster 29 = .ok (.ireturn, 1) := by decide +kernel
theorem dX1_opensHanging_0 : decode cX1_opensHanging 0 = .ok (.iload_n 1, 1) := by decide +kernel
theorem dX1_opensHanging_1 : decode cX1_opensHanging 1 = .ok (.bipush 40, 2) := by decide +kernel
theorem dX1_opensHanging_3 : decode cX1_opensHanging 3 = .ok (.if_icmp .ne 11, 3) := by decide +kernel
theorem dX1_opensHanging_6 : decode cX1_opensHanging 6 = .ok (.aload_n 0, 1) := by decide +kernel
theorem dX1_opensHanging_7 : decode cX1_opensHanging 7 = .ok (.getfield 29, 3) := by decide +kernel
theorem dX1_opensHanging_10 : decode cX1_opensHanging 10 = .ok (.iconst 2, 1) := by decide +kernel
theorem dX1_opensHanging_11 : decode cX1_opensHanging 11 = .ok (.if_icmp .lt 5, 3) := by decide +kernel
theorem dX1_opensHanging_14 : decode cX1_opensHanging 14 = .ok (.iconst 0, 1) := by decide +kernel
theorem dX1_opensHanging_15 : decode cX1_opensHanging 15 = .ok (.ireturn, 1) := by decide +kernel
theorem dX1_opensHanging_16 : decode cX1_opensHanging 16 = .ok (.aload_n 0, 1) := by decide +kernel
theorem dX1_opensHanging_17 : decode cX1_opensHanging 17 = .ok (.dup, 1) := by decide +kernel
theorem dX1_opensHanging_18 : decode cX1_opensHanging 18 = .ok (.getfield 29, 3) := by decide +kernel
theorem dX1_opensHanging_21 : decode cX1_opensHanging 21 = .ok (.iconst 1, 1) := by decide +kernel
theorem dX1_opensHanging_22 : decode cX1_opensHanging 22 = .ok (.iadd, 1) := by decide +kernel
theorem dX1_opensHanging_23 : decode cX1_opensHanging 23 = .ok (.putfield 29, 3) := by decide +kernel
theorem dX1_opensHanging_26 : decode cX1_opensHanging 26 = .ok (.aload_n 0, 1) := by decide +kernel
theorem dX1_opensHanging_27 : decode cX1_opensHanging 27 = .ok (.iconst 1, 1) := by decide +kernel
theorem dX1_opensHanging_28 : decode cX1_opensHanging 28 = .ok (.putfield 25, 3) := by decide +kernel
theorem dX1_opensHanging_31 : decode cX1_opensHanging 31 = .ok (.iconst 1, 1) := by decide +kernel
theorem dX1_opensHanging_32 : decode cX1_opensHanging 32 = .ok (.ireturn, 1) := by decide +kernel
theorem dX1_comesBehindCord_0 : decode cX1_comesBehindCord 0 = .ok (.aload_n 0, 1) := by decide +kernel
theorem dX1_comesBehindCord_1 : decode cX1_comesBehindCord 1 = .ok (.getfield 29, 3) := by decide +kernel
theorem dX1_comesBehindCord_4 : decode cX1_comesBehindCord 4 = .ok (.ifCond .ne 14, 3) := by decide +kernel
theorem dX1_comesBehindCord_7 : decode cX1_comesBehindCord 7 = .ok (.aload_n 0, 1) := by decide +kernel
theorem dX1_comesBehindCord_8 : decode cX1_comesBehindCord 8 = .ok (.getfield 32, 3) := by decide +kernel
theorem dX1_comesBehindCord_11 : decode cX1_comesBehindCord 11 = .ok (.ifCond .eq 7, 3) := by decide +kernel
theorem dX1_comesBehindCord_14 : decode cX1_comesBehindCord 14 = .ok (.iconst 1, 1) := by decide +kernel
theorem dX1_comesBehindCord_15 : decode cX1_comesBehindCord 15 = .ok (.goto 4, 3) := by decide +kernel
theorem dX1_comesBehindCord_18 : decode cX1_comesBehindCord 18 = .ok (.iconst 0, 1) := by decide +kernel
theorem dX1_comesBehindCord_19 : decode cX1_comesBehindCord 19 = .ok (.istore_n 2, 1) := by decide +kernel
theorem dX1_comesBehindCord_20 : decode cX1_comesBehindCord 20 = .ok (.iload_n 1, 1) := by decide +kernel
theorem dX1_comesBehindCord_21 : decode cX1_comesBehindCord 21 = .ok (.bipush 41, 2) := by decide +kernel
theorem dX1_comesBehindCord_23 : decode cX1_comesBehindCord 23 = .ok (.if_icmp .ne 28, 3) := by decide +kernel
theorem dX1_comesBehindCord_26 : decode cX1_comesBehindCord 26 = .ok (.aload_n 0, 1) := by decide +kernel
theorem dX1_comesBehindCord_27 : decode cX1_comesBehindCord 27 = .ok (.getfield 29, 3) := by decide +kernel
theorem dX1_comesBehindCord_30 : decode cX1_comesBehindCord 30 = .ok (.ifCond .le 21, 3) := by decide +kernel
theorem dX1_comesBehindCord_33 : decode cX1_comesBehindCord 33 = .ok (.aload_n 0, 1) := by decide +kernel
theorem dX1_comesBehindCord_34 : decode cX1_comesBehindCord 34 = .ok (.dup, 1) := by decide +kernel
theorem dX1_comesBehindCord_35 : decode cX1_comesBehindCord 35 = .ok (.getfield 29, 3) := by decide +kernel
theorem dX1_comesBehindCord_38 : decode cX1_comesBehindCord 38 = .ok (.iconst 1, 1) := by decide +kernel
theorem dX1_comesBehindCord_39 : decode cX1_comesBehindCord 39 = .ok (.isub, 1) := by decide +kernel
theorem dX1_comesBehindCord_40 : decode cX1_comesBehindCord 40 = .ok (.putfield 29, 3) := by decide +kernel
theorem dX1_comesBehindCord_43 : decode cX1_comesBehindCord 43 = .ok (.aload_n 0, 1) := by decide +kernel
theorem dX1_comesBehindCord_44 : decode cX1_comesBehindCord 44 = .ok (.bipush 6, 2) := by decide +kernel
theorem dX1_comesBehindCord_46 : decode cX1_comesBehindCord 46 = .ok (.putfield 25, 3) := by decide +kernel
theorem dX1_comesBehindCord_49 : decode cX1_comesBehindCord 49 = .ok (.iconst 1, 1) := by decide +kernel
theorem dX1_comesBehindCord_50 : decode cX1_comesBehindCord 50 = .ok (.ireturn, 1) := by decide +kernel
theorem dX1_comesBehindCord_51 : decode cX1_comesBehindCord 51 = .ok (.iload_n 1, 1) := by decide +kernel
theorem dX1_comesBehindCord_52 : decode cX1_comesBehindCord 52 = .ok (.bipush 94, 2) := by decide +kernel
theorem dX1_comesBehindCord_54 : decode cX1_comesBehindCord 54 = .ok (.if_icmp .ne 26, 3) := by decide +kernel
theorem dX1_comesBehindCord_57 : decode cX1_comesBehindCord 57 = .ok (.aload_n 0, 1) := by decide +kernel
theorem dX1_comesBehindCord_58 : decode cX1_comesBehindCord 58 = .ok (.getfield 29, 3) := by decide +kernel
theorem dX1_comesBehindCord_61 : decode cX1_comesBehindCord 61 = .ok (.ifCond .ne 19, 3) := by decide +kernel
theorem dX1_comesBehindCord_64 : decode cX1_comesBehindCord 64 = .ok (.iload_n 2, 1) := by decide +kernel
theorem dX1_comesBehindCord_65 : decode cX1_comesBehindCord 65 = .ok (.ifCond .ne 15, 3) := by decide +kernel
theorem dX1_comesBehindCord_68 : decode cX1_comesBehindCord 68 = .ok (.aload_n 0, 1) := by decide +kernel
theorem dX1_comesBehindCord_69 : decode cX1_comesBehindCord 69 = .ok (.iconst 1, 1) := by decide +kernel
theorem dX1_comesBehindCord_70 : decode cX1_comesBehindCord 70 = .ok (.putfield 32, 3) := by decide +kernel
theorem dX1_comesBehindCord_73 : decode cX1_comesBehindCord 73 = .ok (.aload_n 0, 1) := by decide +kernel
theorem dX1_comesBehindCord_74 : decode cX1_comesBehindCord 74 = .ok (.iconst 1, 1) := by decide +kernel
theorem dX1_comesBehindCord_75 : decode cX1_comesBehindCord 75 = .ok (.putfield 25, 3) := by decide +kernel
theorem dX1_comesBehindCord_78 : decode cX1_comesBehindCord 78 = .ok (.iconst 1, 1) := by decide +kernel
theorem dX1_comesBehindCord_79 : decode cX1_comesBehindCord 79 = .ok (.ireturn, 1) := by decide +kernel
theorem dX1_comesBehindCord_80 : decode cX1_comesBehindCord 80 = .ok (.iload_n 1, 1) := by decide +kernel
theorem dX1_comesBehindCord_81 : decode cX1_comesBehindCord 81 = .ok (.bipush 93, 2) := by decide +kernel
theorem dX1_comesBehindCord_83 : decode cX1_comesBehindCord 83 = .ok (.if_icmp .ne 17, 3) := by decide +kernel
theorem dX1_comesBehindCord_86 : decode cX1_comesBehindCord 86 = .ok (.aload_n 0, 1) := by decide +kernel
theorem dX1_comesBehindCord_87 : decode cX1_comesBehindCord 87 = .ok (.getfield 29, 3) := by decide +kernel
theorem dX1_comesBehindCord_90 : decode cX1_comesBehindCord 90 = .ok (.ifCond .ne 10, 3) := by decide +kernel
theorem dX1_comesBehindCord_93 : decode cX1_comesBehindCord 93 = .ok (.aload_n 0, 1) := by decide +kernel
theorem dX1_comesBehindCord_94 : decode cX1_comesBehindCord 94 = .ok (.iconst 0, 1) := by decide +kernel
theorem dX1_comesBehindCord_95 : decode cX1_comesBehindCord 95 = .ok (.putfield 25, 3) := by decide +kernel
theorem dX1_comesBehindCord_98 : decode cX1_comesBehindCord 98 = .ok (.iconst 1, 1) := by decide +kernel
theorem dX1_comesBehindCord_99 : decode cX1_comesBehindCord 99 = .ok (.ireturn, 1) := by decide +kernel
theorem dX1_comesBehindCord_100 : decode cX1_comesBehindCord 100 = .ok (.iload_n 2, 1) := by decide +kernel
theorem dX1_comesBehindCord_101 : decode cX1_comesBehindCord 101 = .ok (.ifCond .ne 15, 3) := by decide +kernel
theorem dX1_comesBehindCord_104 : decode cX1_comesBehindCord 104 = .ok (.aload_n 0, 1) := by decide +kernel
theorem dX1_comesBehindCord_105 : decode cX1_comesBehindCord 105 = .ok (.iload_n 1, 1) := by decide +kernel
theorem dX1_comesBehindCord_106 : decode cX1_comesBehindCord 106 = .ok (.invokevirtual 44, 3) := by decide +kernel
theorem dX1_comesBehindCord_109 : decode cX1_comesBehindCord 109 = .ok (.ifCond .eq 7, 3) := by decide +kernel
theorem dX1_comesBehindCord_112 : decode cX1_comesBehindCord 112 = .ok (.iconst 1, 1) := by decide +kernel
theorem dX1_comesBehindCord_113 : decode cX1_comesBehindCord 113 = .ok (.goto 4, 3) := by decide +kernel
theorem dX1_comesBehindCord_116 : decode cX1_comesBehindCord 116 = .ok (.iconst 0, 1) := by decide +kernel
theorem dX1_comesBehindCord_117 : decode cX1_comesBehindCord 117 = .ok (.ireturn, 1) := by decide +kernel
theorem dX2_init_0 : decode cX2_init 0 = .ok (.aload_n 0, 1) := by decide +kernel
theorem dX2_init_1 : decode cX2_init 1 = .ok (.invokespecial 5, 3) := by decide +kernel
theorem dX2_init_4 : decode cX2_init 4 = .ok (.aload_n 0, 1) := by decide +kernel
theorem dX2_init_5 : decode cX2_init 5 = .ok (.bipush 16, 2) := by decide +kernel
theorem dX2_init_7 : decode cX2_init 7 = .ok (.newarray .int, 2) := by decide +kernel
theorem dX2_init_9 : decode cX2_init 9 = .ok (.putfield 11, 3) := by decide +kernel
theorem dX2_init_12 : decode cX2_init 12 = .ok (.aload_n 0, 1) := by decide +kernel
theorem dX2_init_13 : decode cX2_init 13 = .ok (.bipush 16, 2) := by decide +kernel
theorem dX2_init_15 : decode cX2_init 15 = .ok (.newarray .int, 2) := by decide +kernel
theorem dX2_init_17 : decode cX2_init 17 = .ok (.putfield 15, 3) := by decide +kernel
theorem dX2_init_20 : decode cX2_init 20 = .ok (.aload_n 0, 1) := by decide +kernel
theorem dX2_init_21 : decode cX2_init 21 = .ok (.sipush 256, 3) := by decide +kernel
theorem dX2_init_24 : decode cX2_init 24 = .ok (.newarray .int, 2) := by decide +kernel
theorem dX2_init_26 : decode cX2_init 26 = .ok (.putfield 18, 3) := by decide +kernel
theorem dX2_init_29 : decode cX2_init 29 = .ok (.aload_n 0, 1) := by decide +kernel
theorem dX2_init_30 : decode cX2_init 30 = .ok (.sipush 256, 3) := by decide +kernel
theorem dX2_init_33 : decode cX2_init 33 = .ok (.newarray .int, 2) := by decide +kernel
theorem dX2_init_35 : decode cX2_init 35 = .ok (.putfield 21, 3) := by decide +kernel
theorem dX2_init_38 : decode cX2_init 38 = .ok (.aload_n 0, 1) := by decide +kernel
theorem dX2_init_39 : decode cX2_init 39 = .ok (.sipush 256, 3) := by decide +kernel
theorem dX2_init_42 : decode cX2_init 42 = .ok (.newarray .int, 2) := by decide +kernel
theorem dX2_init_44 : decode cX2_init 44 = .ok (.putfield 24, 3) := by decide +kernel
theorem dX2_init_47 : decode cX2_init 47 = .ok (.return_, 1) := by decide +kernel
theorem dX2_clear_0 : decode cX2_clear 0 = .ok (.aload_n 0, 1) := by decide +kernel
theorem dX2_clear_1 : decode cX2_clear 1 = .ok (.iconst 0, 1) := by decide +kernel
theorem dX2_clear_2 : decode cX2_clear 2 = .ok (.putfield 27, 3) := by decide +kernel
theorem dX2_clear_5 : decode cX2_clear 5 = .ok (.return_, 1) := by decide +kernel
theorem dX2_add_0 : decode cX2_add 0 = .ok (.aload_n 0, 1) := by decide +kernel
theorem dX2_add_1 : decode cX2_add 1 = .ok (.getfield 11, 3) := by decide +kernel
theorem dX2_add_4 : decode cX2_add 4 = .ok (.aload_n 0, 1) := by decide +kernel
theorem dX2_add_5 : decode cX2_add 5 = .ok (.getfield 27, 3) := by decide +kernel
theorem dX2_add_8 : decode cX2_add 8 = .ok (.iload_n 1, 1) := by decide +kernel
theorem dX2_add_9 : decode cX2_add 9 = .ok (.invokestatic 31, 3) := by decide +kernel
theorem dX2_add_12 : decode cX2_add 12 = .ok (.aload_n 0, 1) := by decide +kernel
theorem dX2_add_13 : decode cX2_add 13 = .ok (.getfield 15, 3) := by decide +kernel
theorem dX2_add_16 : decode cX2_add 16 = .ok (.aload_n 0, 1) := by decide +kernel
theorem dX2_add_17 : decode cX2_add 17 = .ok (.getfield 27, 3) := by decide +kernel
theorem dX2_add_20 : decode cX2_add 20 = .ok (.iload_n 2, 1) := by decide +kernel
theorem dX2_add_21 : decode cX2_add 21 = .ok (.invokestatic 31, 3) := by decide +kernel
theorem dX2_add_24 : decode cX2_add 24 = .ok (.aload_n 0, 1) := by decide +kernel
theorem dX2_add_25 : decode cX2_add 25 = .ok (.dup, 1) := by decide +kernel
theorem dX2_add_26 : decode cX2_add 26 = .ok (.getfield 27, 3) := by decide +kernel
theorem dX2_add_29 : decode cX2_add 29 = .ok (.iconst 1, 1) := by decide +kernel
theorem dX2_add_30 : decode cX2_add 30 = .ok (.iadd, 1) := by decide +kernel
theorem dX2_add_31 : decode cX2_add 31 = .ok (.putfield 27, 3) := by decide +kernel
theorem dX2_add_34 : decode cX2_add 34 = .ok (.return_, 1) := by decide +kernel
theorem dX2_findEvenest_0 : decode cX2_findEvenest 0 = .ok (.aload_n 0, 1) := by decide +kernel
theorem dX2_findEvenest_1 : decode cX2_findEvenest 1 = .ok (.iconst 0, 1) := by decide +kernel
theorem dX2_findEvenest_2 : decode cX2_findEvenest 2 = .ok (.invokevirtual 35, 3) := by decide +kernel
theorem dX2_findEvenest_5 : decode cX2_findEvenest 5 = .ok (.aload_n 0, 1) := by decide +kernel
theorem dX2_findEvenest_6 : decode cX2_findEvenest 6 = .ok (.invokevirtual 39, 3) := by decide +kernel
theorem dX2_findEvenest_9 : decode cX2_findEvenest 9 = .ok (.istore_n 1, 1) := by decide +kernel
theorem dX2_findEvenest_10 : decode cX2_findEvenest 10 = .ok (.iconst 0, 1) := by decide +kernel
theorem dX2_findEvenest_11 : decode cX2_findEvenest 11 = .ok (.istore_n 2, 1) := by decide +kernel
theorem dX2_findEvenest_12 : decode cX2_findEvenest 12 = .ok (.iconst 0, 1) := by decide +kernel
theorem dX2_findEvenest_13 : decode cX2_findEvenest 13 = .ok (.istore_n 3, 1) := by decide +kernel
theorem dX2_findEvenest_14 : decode cX2_findEvenest 14 = .ok (.iload_n 3, 1) := by decide +kernel
theorem dX2_findEvenest_15 : decode cX2_findEvenest 15 = .ok (.aload_n 0, 1) := by decide +kernel
theorem dX2_findEvenest_16 : decode cX2_findEvenest 16 = .ok (.getfield 27, 3) := by decide +kernel
theorem dX2_findEvenest_19 : decode cX2_findEvenest 19 = .ok (.if_icmp .ge 20, 3) := by decide +kernel
theorem dX2_findEvenest_22 : decode cX2_findEvenest 22 = .ok (.iload_n 2, 1) := by decide +kernel
theorem dX2_findEvenest_23 : decode cX2_findEvenest 23 = .ok (.aload_n 0, 1) := by decide +kernel
theorem dX2_findEvenest_24 : decode cX2_findEvenest 24 = .ok (.getfield 15, 3) := by decide +kernel
theorem dX2_findEvenest_27 : decode cX2_findEvenest 27 = .ok (.iload_n 3, 1) := by decide +kernel
theorem dX2_findEvenest_28 : decode cX2_findEvenest 28 = .ok (.invokestatic 43, 3) := by decide +kernel
theorem dX2_findEvenest_31 : decode cX2_findEvenest 31 = .ok (.iadd, 1) := by decide +kernel
theorem dX2_findEvenest_32 : decode cX2_findEvenest 32 = .ok (.istore_n 2, 1) := by decide +kernel
theorem dX2_findEvenest_33 : decode cX2_findEvenest 33 = .ok (.iinc 3 1, 3) := by decide +kernel
theorem dX2_findEvenest_36 : decode cX2_findEvenest 36 = .ok (.goto (-22), 3) := by decide +kernel
theorem dX2_findEvenest_39 : decode cX2_findEvenest 39 = .ok (.iconst 0, 1) := by decide +kernel
theorem dX2_findEvenest_40 : decode cX2_findEvenest 40 = .ok (.istore_n 3, 1) := by decide +kernel
theorem dX2_findEvenest_41 : decode cX2_findEvenest 41 = .ok (.aload_n 0, 1) := by decide +kernel
theorem dX2_findEvenest_42 : decode cX2_findEvenest 42 = .ok (.iload_n 2, 1) := by decide +kernel
theorem dX2_findEvenest_43 : decode cX2_findEvenest 43 = .ok (.putfield 47, 3) := by decide +kernel
theorem dX2_findEvenest_46 : decode cX2_findEvenest 46 = .ok (.iconst 0, 1) := by decide +kernel
theorem dX2_findEvenest_47 : decode cX2_findEvenest 47 = .ok (.istore 4, 2) := by decide +kernel
theorem dX2_findEvenest_49 : decode cX2_findEvenest 49 = .ok (.iload 4, 2) := by decide +kernel
theorem dX2_findEvenest_51 : decode cX2_findEvenest 51 = .ok (.iload_n 1, 1) := by decide +kernel
theorem dX2_findEvenest_52 : decode cX2_findEvenest 52 = .ok (.if_icmp .ge 78, 3) := by decide +kernel
theorem dX2_findEvenest_55 : decode cX2_findEvenest 55 = .ok (.aload_n 0, 1) := by decide +kernel
theorem dX2_findEvenest_56 : decode cX2_findEvenest 56 = .ok (.getfield 18, 3) := by decide +kernel
theorem dX2_findEvenest_59 : decode cX2_findEvenest 59 = .ok (.iload 4, 2) := by decide +kernel
theorem dX2_findEvenest_61 : decode cX2_findEvenest 61 = .ok (.invokestatic 43, 3) := by decide +kernel
theorem dX2_findEvenest_64 : decode cX2_findEvenest 64 = .ok (.istore 5, 2) := by decide +kernel
theorem dX2_findEvenest_66 : decode cX2_findEvenest 66 = .ok (.iload_n 2, 1) := by decide +kernel
theorem dX2_findEvenest_67 : decode cX2_findEvenest 67 = .ok (.iconst 2, 1) := by decide +kernel
theorem dX2_findEvenest_68 : decode cX2_findEvenest 68 = .ok (.iload 5, 2) := by decide +kernel
theorem dX2_findEvenest_70 : decode cX2_findEvenest 70 = .ok (.imul, 1) := by decide +kernel
theorem dX2_findEvenest_71 : decode cX2_findEvenest 71 = .ok (.isub, 1) := by decide +kernel
theorem dX2_findEvenest_72 : decode cX2_findEvenest 72 = .ok (.istore 6, 2) := by decide +kernel
theorem dX2_findEvenest_74 : decode cX2_findEvenest 74 = .ok (.aload_n 0, 1) := by decide +kernel
theorem dX2_findEvenest_75 : decode cX2_findEvenest 75 = .ok (.iload 6, 2) := by decide +kernel
theorem dX2_findEvenest_77 : decode cX2_findEvenest 77 = .ok (.iconst 1, 1) := by decide +kernel
theorem dX2_findEvenest_78 : decode cX2_findEvenest 78 = .ok (.iadd, 1) := by decide +kernel
theorem dX2_findEvenest_79 : decode cX2_findEvenest 79 = .ok (.iconst 2, 1) := by decide +kernel
theorem dX2_findEvenest_80 : decode cX2_findEvenest 80 = .ok (.idiv, 1) := by decide +kernel
theorem dX2_findEvenest_81 : decode cX2_findEvenest 81 = .ok (.invokevirtual 50, 3) := by decide +kernel
theorem dX2_findEvenest_84 : decode cX2_findEvenest 84 = .ok (.istore 7, 2) := by decide +kernel
theorem dX2_findEvenest_86 : decode cX2_findEvenest 86 = .ok (.iload 7, 2) := by decide +kernel
theorem dX2_findEvenest_88 : decode cX2_findEvenest 88 = .ok (.ifCond .le 18, 3) := by decide +kernel
theorem dX2_findEvenest_91 : decode cX2_findEvenest 91 = .ok (.aload_n 0, 1) := by decide +kernel
theorem dX2_findEvenest_92 : decode cX2_findEvenest 92 = .ok (.aload_n 0, 1) := by decide +kernel
theorem dX2_findEvenest_93 : decode cX2_findEvenest 93 = .ok (.iload 7, 2) := by decide +kernel
theorem dX2_findEvenest_95 : decode cX2_findEvenest 95 = .ok (.iconst 1, 1) := by decide +kernel
theorem dX2_findEvenest_96 : decode cX2_findEvenest 96 = .ok (.isub, 1) := by decide +kernel
theorem dX2_findEvenest_97 : decode cX2_findEvenest 97 = .ok (.invokevirtual 54, 3) := by decide +kernel
theorem dX2_findEvenest_100 : decode cX2_findEvenest 100 = .ok (.invokevirtual 50, 3) := by decide +kernel
theorem dX2_findEvenest_103 : decode cX2_findEvenest 103 = .ok (.goto 5, 3) := by decide +kernel
theorem dX2_findEvenest_106 : decode cX2_findEvenest 106 = .ok (.iload 7, 2) := by decide +kernel
theorem dX2_findEvenest_108 : decode cX2_findEvenest 108 = .ok (.istore 8, 2) := by decide +kernel
theorem dX2_findEvenest_110 : decode cX2_findEvenest 110 = .ok (.aload_n 0, 1) := by decide +kernel
theorem dX2_findEvenest_111 : decode cX2_findEvenest 111 = .ok (.iload 8, 2) := by decide +kernel
theorem dX2_findEvenest_113 : decode cX2_findEvenest 113 = .ok (.iload 7, 2) := by decide +kernel
theorem dX2_findEvenest_115 : decode cX2_findEvenest 115 = .ok (.iload 4, 2) := by decide +kernel
theorem dX2_findEvenest_117 : decode cX2_findEvenest 117 = .ok (.iload 6, 2) := by decide +kernel
theorem dX2_findEvenest_119 : decode cX2_findEvenest 119 = .ok (.iload_n 3, 1) := by decide +kernel
theorem dX2_findEvenest_120 : decode cX2_findEvenest 120 = .ok (.invokevirtual 57, 3) := by decide +kernel
theorem dX2_findEvenest_123 : decode cX2_findEvenest 123 = .ok (.istore_n 3, 1) := by decide +kernel
theorem dX2_findEvenest_124 : decode cX2_findEvenest 124 = .ok (.iinc 4 1, 3) := by decide +kernel
theorem dX2_findEvenest_127 : decode cX2_findEvenest 127 = .ok (.goto (-78), 3) := by decide +kernel
theorem dX2_findEvenest_130 : decode cX2_findEvenest 130 = .ok (.aload_n 0, 1) := by decide +kernel
theorem dX2_findEvenest_131 : decode cX2_findEvenest 131 = .ok (.aload_n 0, 1) := by decide +kernel
theorem dX2_findEvenest_132 : decode cX2_findEvenest 132 = .ok (.iload_n 3, 1) := by decide +kernel
theorem dX2_findEvenest_133 : decode cX2_findEvenest 133 = .ok (.invokevirtual 61, 3) := by decide +kernel
theorem dX2_findEvenest_136 : decode cX2_findEvenest 136 = .ok (.putfield 64, 3) := by decide +kernel
theorem dX2_findEvenest_139 : decode cX2_findEvenest 139 = .ok (.return_, 1) := by decide +kernel
theorem dX2_better_0 : decode cX2_better 0 = .ok (.iload 4, 2) := by decide +kernel
theorem dX2_better_2 : decode cX2_better 2 = .ok (.iconst 2, 1) := by decide +kernel
theorem dX2_better_3 : decode cX2_better 3 = .ok (.aload_n 0, 1) := by decide +kernel
theorem dX2_better_4 : decode cX2_better 4 = .ok (.iload_n 1, 1) := by decide +kernel
theorem dX2_better_5 : decode cX2_better 5 = .ok (.invokevirtual 54, 3) := by decide +kernel
theorem dX2_better_8 : decode cX2_better 8 = .ok (.imul, 1) := by decide +kernel
theorem dX2_better_9 : decode cX2_better 9 = .ok (.isub, 1) := by decide +kernel
theorem dX2_better_10 : decode cX2_better 10 = .ok (.invokestatic 67, 3) := by decide +kernel
theorem dX2_better_13 : decode cX2_better 13 = .ok (.istore 6, 2) := by decide +kernel
theorem dX2_better_15 : decode cX2_better 15 = .ok (.iload_n 2, 1) := by decide +kernel
theorem dX2_better_16 : decode cX2_better 16 = .ok (.aload_n 0, 1) := by decide +kernel
theorem dX2_better_17 : decode cX2_better 17 = .ok (.getfield 72, 3) := by decide +kernel
theorem dX2_better_20 : decode cX2_better 20 = .ok (.if_icmp .ge 19, 3) := by decide +kernel
theorem dX2_better_23 : decode cX2_better 23 = .ok (.iload 4, 2) := by decide +kernel
theorem dX2_better_25 : decode cX2_better 25 = .ok (.iconst 2, 1) := by decide +kernel
theorem dX2_better_26 : decode cX2_better 26 = .ok (.aload_n 0, 1) := by decide +kernel
theorem dX2_better_27 : decode cX2_better 27 = .ok (.iload_n 2, 1) := by decide +kernel
theorem dX2_better_28 : decode cX2_better 28 = .ok (.invokevirtual 54, 3) := by decide +kernel
theorem dX2_better_31 : decode cX2_better 31 = .ok (.imul, 1) := by decide +kernel
theorem dX2_better_32 : decode cX2_better 32 = .ok (.isub, 1) := by decide +kernel
theorem dX2_better_33 : decode cX2_better 33 = .ok (.invokestatic 67, 3) := by decide +kernel
theorem dX2_better_36 : decode cX2_better 36 = .ok (.goto 7, 3) := by decide +kernel
theorem dX2_better_39 : decode cX2_better 39 = .ok (.iload 6, 2) := by decide +kernel
theorem dX2_better_41 : decode cX2_better 41 = .ok (.iconst 1, 1) := by decide +kernel
theorem dX2_better_42 : decode cX2_better 42 = .ok (.iadd, 1) := by decide +kernel
theorem dX2_better_43 : decode cX2_better 43 = .ok (.istore 7, 2) := by decide +kernel
theorem dX2_better_45 : decode cX2_better 45 = .ok (.iload 7, 2) := by decide +kernel
theorem dX2_better_47 : decode cX2_better 47 = .ok (.iload 6, 2) := by decide +kernel
theorem dX2_better_49 : decode cX2_better 49 = .ok (.if_icmp .lt 23, 3) := by decide +kernel
theorem dX2_better_52 : decode cX2_better 52 = .ok (.iload 7, 2) := by decide +kernel
theorem dX2_better_54 : decode cX2_better 54 = .ok (.iload 6, 2) := by decide +kernel
theorem dX2_better_56 : decode cX2_better 56 = .ok (.if_icmp .ne 20, 3) := by decide +kernel
theorem dX2_better_59 : decode cX2_better 59 = .ok (.aload_n 0, 1) := by decide +kernel
theorem dX2_better_60 : decode cX2_better 60 = .ok (.iload_n 2, 1) := by decide +kernel
theorem dX2_better_61 : decode cX2_better 61 = .ok (.invokevirtual 75, 3) := by decide +kernel
theorem dX2_better_64 : decode cX2_better 64 = .ok (.aload_n 0, 1) := by decide +kernel
theorem dX2_better_65 : decode cX2_better 65 = .ok (.iload_n 1, 1) := by decide +kernel
theorem dX2_better_66 : decode cX2_better 66 = .ok (.invokevirtual 75, 3) := by decide +kernel
theorem dX2_better_69 : decode cX2_better 69 = .ok (.if_icmp .ge 7, 3) := by decide +kernel
theorem dX2_better_72 : decode cX2_better 72 = .ok (.iconst 1, 1) := by decide +kernel
theorem dX2_better_73 : decode cX2_better 73 = .ok (.goto 4, 3) := by decide +kernel
theorem dX2_better_76 : decode cX2_better 76 = .ok (.iconst 0, 1) := by decide +kernel
theorem dX2_better_77 : decode cX2_better 77 = .ok (.istore 8, 2) := by decide +kernel
theorem dX2_better_79 : decode cX2_better 79 = .ok (.iload 8, 2) := by decide +kernel
theorem dX2_better_81 : decode cX2_better 81 = .ok (.ifCond .eq 8, 3) := by decide +kernel
theorem dX2_better_84 : decode cX2_better 84 = .ok (.iload 7, 2) := by decide +kernel
theorem dX2_better_86 : decode cX2_better 86 = .ok (.goto 5, 3) := by decide +kernel
theorem dX2_better_89 : decode cX2_better 89 = .ok (.iload 6, 2) := by decide +kernel
theorem dX2_better_91 : decode cX2_better 91 = .ok (.istore 9, 2) := by decide +kernel
theorem dX2_better_93 : decode cX2_better 93 = .ok (.iload 9, 2) := by decide +kernel
theorem dX2_better_95 : decode cX2_better 95 = .ok (.aload_n 0, 1) := by decide +kernel
theorem dX2_better_96 : decode cX2_better 96 = .ok (.getfield 47, 3) := by decide +kernel
theorem dX2_better_99 : decode cX2_better 99 = .ok (.if_icmp .lt 6, 3) := by decide +kernel
theorem dX2_better_102 : decode cX2_better 102 = .ok (.iload 5, 2) := by decide +kernel
theorem dX2_better_104 : decode cX2_better 104 = .ok (.ireturn, 1) := by decide +kernel
theorem dX2_better_105 : decode cX2_better 105 = .ok (.aload_n 0, 1) := by decide +kernel
theorem dX2_better_106 : decode cX2_better 106 = .ok (.iload 9, 2) := by decide +kernel
theorem dX2_better_108 : decode cX2_better 108 = .ok (.putfield 47, 3) := by decide +kernel
theorem dX2_better_111 : decode cX2_better 111 = .ok (.iload_n 3, 1) := by decide +kernel
theorem dX2_better_112 : decode cX2_better 112 = .ok (.bipush 8, 2) := by decide +kernel
theorem dX2_better_114 : decode cX2_better 114 = .ok (.ishl, 1) := by decide +kernel
theorem dX2_better_115 : decode cX2_better 115 = .ok (.aload_n 0, 1) := by decide +kernel
theorem dX2_better_116 : decode cX2_better 116 = .ok (.iload 8, 2) := by decide +kernel
theorem dX2_better_118 : decode cX2_better 118 = .ok (.ifCond .eq 7, 3) := by decide +kernel
theorem dX2_better_121 : decode cX2_better 121 = .ok (.iload_n 2, 1) := by decide +kernel
theorem dX2_better_122 : decode cX2_better 122 = .ok (.goto 4, 3) := by decide +kernel
theorem dX2_better_125 : decode cX2_better 125 = .ok (.iload_n 1, 1) := by decide +kernel
theorem dX2_better_126 : decode cX2_better 126 = .ok (.invokevirtual 75, 3) := by decide +kernel
theorem dX2_better_129 : decode cX2_better 129 = .ok (.ior, 1) := by decide +kernel
theorem dX2_better_130 : decode cX2_better 130 = .ok (.ireturn, 1) := by decide +kernel
theorem dX2_findFewest_0 : decode cX2_findFewest 0 = .ok (.aload_n 0, 1) := by decide +kernel
theorem dX2_findFewest_1 : decode cX2_findFewest 1 = .ok (.iconst 1, 1) := by decide +kernel
theorem dX2_findFewest_2 : decode cX2_findFewest 2 = .ok (.invokevirtual 35, 3) := by decide +kernel
theorem dX2_findFewest_5 : decode cX2_findFewest 5 = .ok (.aload_n 0, 1) := by decide +kernel
theorem dX2_findFewest_6 : decode cX2_findFewest 6 = .ok (.invokevirtual 39, 3) := by decide +kernel
theorem dX2_findFewest_9 : decode cX2_findFewest 9 = .ok (.istore_n 2, 1) := by decide +kernel
theorem dX2_findFewest_10 : decode cX2_findFewest 10 = .ok (.bipush (-4), 2) := by decide +kernel
theorem dX2_findFewest_12 : decode cX2_findFewest 12 = .ok (.istore_n 3, 1) := by decide +kernel
theorem dX2_findFewest_13 : decode cX2_findFewest 13 = .ok (.bipush 17, 2) := by decide +kernel
theorem dX2_findFewest_15 : decode cX2_findFewest 15 = .ok (.istore 4, 2) := by decide +kernel
theorem dX2_findFewest_17 : decode cX2_findFewest 17 = .ok (.iconst 0, 1) := by decide +kernel
theorem dX2_findFewest_18 : decode cX2_findFewest 18 = .ok (.istore 5, 2) := by decide +kernel
theorem dX2_findFewest_20 : decode cX2_findFewest 20 = .ok (.iload 5, 2) := by decide +kernel
theorem dX2_findFewest_22 : decode cX2_findFewest 22 = .ok (.iload_n 2, 1) := by decide +kernel
theorem dX2_findFewest_23 : decode cX2_findFewest 23 = .ok (.if_icmp .ge 103, 3) := by decide +kernel
theorem dX2_findFewest_26 : decode cX2_findFewest 26 = .ok (.iload_n 1, 1) := by decide +kernel
theorem dX2_findFewest_27 : decode cX2_findFewest 27 = .ok (.aload_n 0, 1) := by decide +kernel
theorem dX2_findFewest_28 : decode cX2_findFewest 28 = .ok (.getfield 18, 3) := by decide +kernel
theorem dX2_findFewest_31 : decode cX2_findFewest 31 = .ok (.iload 5, 2) := by decide +kernel
theorem dX2_findFewest_33 : decode cX2_findFewest 33 = .ok (.invokestatic 43, 3) := by decide +kernel
theorem dX2_findFewest_36 : decode cX2_findFewest 36 = .ok (.isub, 1) := by decide +kernel
theorem dX2_findFewest_37 : decode cX2_findFewest 37 = .ok (.istore 6, 2) := by decide +kernel
theorem dX2_findFewest_39 : decode cX2_findFewest 39 = .ok (.iload 6, 2) := by decide +kernel
theorem dX2_findFewest_41 : decode cX2_findFewest 41 = .ok (.ifCond .ge 10, 3) := by decide +kernel
theorem dX2_findFewest_44 : decode cX2_findFewest 44 = .ok (.aload_n 0, 1) := by decide +kernel
theorem dX2_findFewest_45 : decode cX2_findFewest 45 = .ok (.getfield 72, 3) := by decide +kernel
theorem dX2_findFewest_48 : decode cX2_findFewest 48 = .ok (.goto 9, 3) := by decide +kernel
theorem dX2_findFewest_51 : decode cX2_findFewest 51 = .ok (.aload_n 0, 1) := by decide +kernel
theorem dX2_findFewest_52 : decode cX2_findFewest 52 = .ok (.iload 6, 2) := by decide +kernel
theorem dX2_findFewest_54 : decode cX2_findFewest 54 = .ok (.invokevirtual 50, 3) := by decide +kernel
theorem dX2_findFewest_57 : decode cX2_findFewest 57 = .ok (.istore 7, 2) := by decide +kernel
theorem dX2_findFewest_59 : decode cX2_findFewest 59 = .ok (.iload 7, 2) := by decide +kernel
theorem dX2_findFewest_61 : decode cX2_findFewest 61 = .ok (.aload_n 0, 1) := by decide +kernel
theorem dX2_findFewest_62 : decode cX2_findFewest 62 = .ok (.getfield 72, 3) := by decide +kernel
theorem dX2_findFewest_65 : decode cX2_findFewest 65 = .ok (.if_icmp .ge 55, 3) := by decide +kernel
theorem dX2_findFewest_68 : decode cX2_findFewest 68 = .ok (.aload_n 0, 1) := by decide +kernel
theorem dX2_findFewest_69 : decode cX2_findFewest 69 = .ok (.iload 7, 2) := by decide +kernel
theorem dX2_findFewest_71 : decode cX2_findFewest 71 = .ok (.invokevirtual 54, 3) := by decide +kernel
theorem dX2_findFewest_74 : decode cX2_findFewest 74 = .ok (.iload 6, 2) := by decide +kernel
theorem dX2_findFewest_76 : decode cX2_findFewest 76 = .ok (.if_icmp .ne 44, 3) := by decide +kernel
theorem dX2_findFewest_79 : decode cX2_findFewest 79 = .ok (.iload 5, 2) := by decide +kernel
theorem dX2_findFewest_81 : decode cX2_findFewest 81 = .ok (.invokestatic 78, 3) := by decide +kernel
theorem dX2_findFewest_84 : decode cX2_findFewest 84 = .ok (.aload_n 0, 1) := by decide +kernel
theorem dX2_findFewest_85 : decode cX2_findFewest 85 = .ok (.iload 7, 2) := by decide +kernel
theorem dX2_findFewest_87 : decode cX2_findFewest 87 = .ok (.invokevirtual 75, 3) := by decide +kernel
theorem dX2_findFewest_90 : decode cX2_findFewest 90 = .ok (.invokestatic 78, 3) := by decide +kernel
theorem dX2_findFewest_93 : decode cX2_findFewest 93 = .ok (.iadd, 1) := by decide +kernel
theorem dX2_findFewest_94 : decode cX2_findFewest 94 = .ok (.istore 8, 2) := by decide +kernel
theorem dX2_findFewest_96 : decode cX2_findFewest 96 = .ok (.iload 8, 2) := by decide +kernel
theorem dX2_findFewest_98 : decode cX2_findFewest 98 = .ok (.iload 4, 2) := by decide +kernel
theorem dX2_findFewest_100 : decode cX2_findFewest 100 = .ok (.if_icmp .ge 20, 3) := by decide +kernel
theorem dX2_findFewest_103 : decode cX2_findFewest 103 = .ok (.iload 8, 2) := by decide +kernel
theorem dX2_findFewest_105 : decode cX2_findFewest 105 = .ok (.istore 4, 2) := by decide +kernel
theorem dX2_findFewest_107 : decode cX2_findFewest 107 = .ok (.iload 5, 2) := by decide +kernel
theorem dX2_findFewest_109 : decode cX2_findFewest 109 = .ok (.bipush 8, 2) := by decide +kernel
theorem dX2_findFewest_111 : decode cX2_findFewest 111 = .ok (.ishl, 1) := by decide +kernel
theorem dX2_findFewest_112 : decode cX2_findFewest 112 = .ok (.aload_n 0, 1) := by decide +kernel
theorem dX2_findFewest_113 : decode cX2_findFewest 113 = .ok (.iload 7, 2) := by decide +kernel
theorem dX2_findFewest_115 : decode cX2_findFewest 115 = .ok (.invokevirtual 75, 3) := by decide +kernel
theorem dX2_findFewest_118 : decode cX2_findFewest 118 = .ok (.ior, 1) := by decide +kernel
theorem dX2_findFewest_119 : decode cX2_findFewest 119 = .ok (.istore_n 3, 1) := by decide +kernel
theorem dX2_findFewest_120 : decode cX2_findFewest 120 = .ok (.iinc 5 1, 3) := by decide +kernel
theorem dX2_findFewest_123 : decode cX2_findFewest 123 = .ok (.goto (-103), 3) := by decide +kernel
theorem dX2_findFewest_126 : decode cX2_findFewest 126 = .ok (.aload_n 0, 1) := by decide +kernel
theorem dX2_findFewest_127 : decode cX2_findFewest 127 = .ok (.iload_n 3, 1) := by decide +kernel
theorem dX2_findFewest_128 : decode cX2_findFewest 128 = .ok (.bipush (-4), 2) := by decide +kernel
theorem dX2_findFewest_130 : decode cX2_findFewest 130 = .ok (.if_icmp .ne 8, 3) := by decide +kernel
theorem dX2_findFewest_133 : decode cX2_findFewest 133 = .ok (.bipush (-4), 2) := by decide +kernel
theorem dX2_findFewest_135 : decode cX2_findFewest 135 = .ok (.goto 8, 3) := by decide +kernel
theorem dX2_findFewest_138 : decode cX2_findFewest 138 = .ok (.aload_n 0, 1) := by decide +kernel
theorem dX2_findFewest_139 : decode cX2_findFewest 139 = .ok (.iload_n 3, 1) := by decide +kernel
theorem dX2_findFewest_140 : decode cX2_findFewest 140 = .ok (.invokevirtual 61, 3) := by decide +kernel
theorem dX2_findFewest_143 : decode cX2_findFewest 143 = .ok (.putfield 64, 3) := by decide +kernel
theorem dX2_findFewest_146 : decode cX2_findFewest 146 = .ok (.return_, 1) := by decide +kernel
theorem dX2_spreadLow_0 : decode cX2_spreadLow 0 = .ok (.aload_n 0, 1) := by decide +kernel
theorem dX2_spreadLow_1 : decode cX2_spreadLow 1 = .ok (.getfield 21, 3) := by decide +kernel
theorem dX2_spreadLow_4 : decode cX2_spreadLow 4 = .ok (.iconst 0, 1) := by decide +kernel
theorem dX2_spreadLow_5 : decode cX2_spreadLow 5 = .ok (.iconst 0, 1) := by decide +kernel
theorem dX2_spreadLow_6 : decode cX2_spreadLow 6 = .ok (.invokestatic 31, 3) := by decide +kernel
theorem dX2_spreadLow_9 : decode cX2_spreadLow 9 = .ok (.aload_n 0, 1) := by decide +kernel
theorem dX2_spreadLow_10 : decode cX2_spreadLow 10 = .ok (.iconst 1, 1) := by decide +kernel
theorem dX2_spreadLow_11 : decode cX2_spreadLow 11 = .ok (.putfield 72, 3) := by decide +kernel
theorem dX2_spreadLow_14 : decode cX2_spreadLow 14 = .ok (.iconst 0, 1) := by decide +kernel
theorem dX2_spreadLow_15 : decode cX2_spreadLow 15 = .ok (.istore_n 2, 1) := by decide +kernel
theorem dX2_spreadLow_16 : decode cX2_spreadLow 16 = .ok (.iload_n 2, 1) := by decide +kernel
theorem dX2_spreadLow_17 : decode cX2_spreadLow 17 = .ok (.aload_n 0, 1) := by decide +kernel
theorem dX2_spreadLow_18 : decode cX2_spreadLow 18 = .ok (.getfield 27, 3) := by decide +kernel
theorem dX2_spreadLow_21 : decode cX2_spreadLow 21 = .ok (.if_icmp .ge 39, 3) := by decide +kernel
theorem dX2_spreadLow_24 : decode cX2_spreadLow 24 = .ok (.iload_n 2, 1) := by decide +kernel
theorem dX2_spreadLow_25 : decode cX2_spreadLow 25 = .ok (.bipush 8, 2) := by decide +kernel
theorem dX2_spreadLow_27 : decode cX2_spreadLow 27 = .ok (.if_icmp .ge 33, 3) := by decide +kernel
theorem dX2_spreadLow_30 : decode cX2_spreadLow 30 = .ok (.aload_n 0, 1) := by decide +kernel
theorem dX2_spreadLow_31 : decode cX2_spreadLow 31 = .ok (.aload_n 0, 1) := by decide +kernel
theorem dX2_spreadLow_32 : decode cX2_spreadLow 32 = .ok (.getfield 15, 3) := by decide +kernel
theorem dX2_spreadLow_35 : decode cX2_spreadLow 35 = .ok (.iload_n 2, 1) := by decide +kernel
theorem dX2_spreadLow_36 : decode cX2_spreadLow 36 = .ok (.invokestatic 43, 3) := by decide +kernel
theorem dX2_spreadLow_39 : decode cX2_spreadLow 39 = .ok (.bipush 12, 2) := by decide +kernel
theorem dX2_spreadLow_41 : decode cX2_spreadLow 41 = .ok (.ishl, 1) := by decide +kernel
theorem dX2_spreadLow_42 : decode cX2_spreadLow 42 = .ok (.iload_n 1, 1) := by decide +kernel
theorem dX2_spreadLow_43 : decode cX2_spreadLow 43 = .ok (.bipush 8, 2) := by decide +kernel
theorem dX2_spreadLow_45 : decode cX2_spreadLow 45 = .ok (.ishl, 1) := by decide +kernel
theorem dX2_spreadLow_46 : decode cX2_spreadLow 46 = .ok (.ior, 1) := by decide +kernel
theorem dX2_spreadLow_47 : decode cX2_spreadLow 47 = .ok (.iconst 1, 1) := by decide +kernel
theorem dX2_spreadLow_48 : decode cX2_spreadLow 48 = .ok (.iload_n 2, 1) := by decide +kernel
theorem dX2_spreadLow_49 : decode cX2_spreadLow 49 = .ok (.ishl, 1) := by decide +kernel
theorem dX2_spreadLow_50 : decode cX2_spreadLow 50 = .ok (.ior, 1) := by decide +kernel
theorem dX2_spreadLow_51 : decode cX2_spreadLow 51 = .ok (.invokevirtual 83, 3) := by decide +kernel
theorem dX2_spreadLow_54 : decode cX2_spreadLow 54 = .ok (.iinc 2 1, 3) := by decide +kernel
theorem dX2_spreadLow_57 : decode cX2_spreadLow 57 = .ok (.goto (-41), 3) := by decide +kernel
theorem dX2_spreadLow_60 : decode cX2_spreadLow 60 = .ok (.return_, 1) := by decide +kernel
theorem dX2_mergeWith_0 : decode cX2_mergeWith 0 = .ok (.iconst 0, 1) := by decide +kernel
theorem dX2_mergeWith_1 : decode cX2_mergeWith 1 = .ok (.istore_n 2, 1) := by decide +kernel
theorem dX2_mergeWith_2 : decode cX2_mergeWith 2 = .ok (.iconst 0, 1) := by decide +kernel
theorem dX2_mergeWith_3 : decode cX2_mergeWith 3 = .ok (.istore_n 3, 1) := by decide +kernel
theorem dX2_mergeWith_4 : decode cX2_mergeWith 4 = .ok (.iconst 2, 1) := by decide +kernel
theorem dX2_mergeWith_5 : decode cX2_mergeWith 5 = .ok (.aload_n 0, 1) := by decide +kernel
theorem dX2_mergeWith_6 : decode cX2_mergeWith 6 = .ok (.getfield 72, 3) := by decide +kernel
theorem dX2_mergeWith_9 : decode cX2_mergeWith 9 = .ok (.imul, 1) := by decide +kernel
theorem dX2_mergeWith_10 : decode cX2_mergeWith 10 = .ok (.istore 4, 2) := by decide +kernel
theorem dX2_mergeWith_12 : decode cX2_mergeWith 12 = .ok (.iconst 0, 1) := by decide +kernel
theorem dX2_mergeWith_13 : decode cX2_mergeWith 13 = .ok (.istore 5, 2) := by decide +kernel
theorem dX2_mergeWith_15 : decode cX2_mergeWith 15 = .ok (.iload 5, 2) := by decide +kernel
theorem dX2_mergeWith_17 : decode cX2_mergeWith 17 = .ok (.iload 4, 2) := by decide +kernel
theorem dX2_mergeWith_19 : decode cX2_mergeWith 19 = .ok (.if_icmp .ge 108, 3) := by decide +kernel
theorem dX2_mergeWith_22 : decode cX2_mergeWith 22 = .ok (.aload_n 0, 1) := by decide +kernel
theorem dX2_mergeWith_23 : decode cX2_mergeWith 23 = .ok (.getfield 21, 3) := by decide +kernel
theorem dX2_mergeWith_26 : decode cX2_mergeWith 26 = .ok (.iload_n 2, 1) := by decide +kernel
theorem dX2_mergeWith_27 : decode cX2_mergeWith 27 = .ok (.invokestatic 43, 3) := by decide +kernel
theorem dX2_mergeWith_30 : decode cX2_mergeWith 30 = .ok (.istore 6, 2) := by decide +kernel
theorem dX2_mergeWith_32 : decode cX2_mergeWith 32 = .ok (.aload_n 0, 1) := by decide +kernel
theorem dX2_mergeWith_33 : decode cX2_mergeWith 33 = .ok (.getfield 21, 3) := by decide +kernel
theorem dX2_mergeWith_36 : decode cX2_mergeWith 36 = .ok (.iload_n 3, 1) := by decide +kernel
theorem dX2_mergeWith_37 : decode cX2_mergeWith 37 = .ok (.invokestatic 43, 3) := by decide +kernel
theorem dX2_mergeWith_40 : decode cX2_mergeWith 40 = .ok (.iload_n 1, 1) := by decide +kernel
theorem dX2_mergeWith_41 : decode cX2_mergeWith 41 = .ok (.iadd, 1) := by decide +kernel
theorem dX2_mergeWith_42 : decode cX2_mergeWith 42 = .ok (.istore 7, 2) := by decide +kernel
theorem dX2_mergeWith_44 : decode cX2_mergeWith 44 = .ok (.iload_n 2, 1) := by decide +kernel
theorem dX2_mergeWith_45 : decode cX2_mergeWith 45 = .ok (.aload_n 0, 1) := by decide +kernel
theorem dX2_mergeWith_46 : decode cX2_mergeWith 46 = .ok (.getfield 72, 3) := by decide +kernel
theorem dX2_mergeWith_49 : decode cX2_mergeWith 49 = .ok (.if_icmp .ge 22, 3) := by decide +kernel
theorem dX2_mergeWith_52 : decode cX2_mergeWith 52 = .ok (.iload_n 3, 1) := by decide +kernel
theorem dX2_mergeWith_53 : decode cX2_mergeWith 53 = .ok (.aload_n 0, 1) := by decide +kernel
theorem dX2_mergeWith_54 : decode cX2_mergeWith 54 = .ok (.getfield 72, 3) := by decide +kernel
theorem dX2_mergeWith_57 : decode cX2_mergeWith 57 = .ok (.if_icmp .ge 10, 3) := by decide +kernel
theorem dX2_mergeWith_60 : decode cX2_mergeWith 60 = .ok (.iload 6, 2) := by decide +kernel
theorem dX2_mergeWith_62 : decode cX2_mergeWith 62 = .ok (.iload 7, 2) := by decide +kernel
theorem dX2_mergeWith_64 : decode cX2_mergeWith 64 = .ok (.if_icmp .ge 7, 3) := by decide +kernel
theorem dX2_mergeWith_67 : decode cX2_mergeWith 67 = .ok (.iconst 1, 1) := by decide +kernel
theorem dX2_mergeWith_68 : decode cX2_mergeWith 68 = .ok (.goto 4, 3) := by decide +kernel
theorem dX2_mergeWith_71 : decode cX2_mergeWith 71 = .ok (.iconst 0, 1) := by decide +kernel
theorem dX2_mergeWith_72 : decode cX2_mergeWith 72 = .ok (.istore 8, 2) := by decide +kernel
theorem dX2_mergeWith_74 : decode cX2_mergeWith 74 = .ok (.aload_n 0, 1) := by decide +kernel
theorem dX2_mergeWith_75 : decode cX2_mergeWith 75 = .ok (.getfield 24, 3) := by decide +kernel
theorem dX2_mergeWith_78 : decode cX2_mergeWith 78 = .ok (.iload 5, 2) := by decide +kernel
theorem dX2_mergeWith_80 : decode cX2_mergeWith 80 = .ok (.iload 8, 2) := by decide +kernel
theorem dX2_mergeWith_82 : decode cX2_mergeWith 82 = .ok (.ifCond .eq 8, 3) := by decide +kernel
theorem dX2_mergeWith_85 : decode cX2_mergeWith 85 = .ok (.iload 6, 2) := by decide +kernel
theorem dX2_mergeWith_87 : decode cX2_mergeWith 87 = .ok (.goto 5, 3) := by decide +kernel
theorem dX2_mergeWith_90 : decode cX2_mergeWith 90 = .ok (.iload 7, 2) := by decide +kernel
theorem dX2_mergeWith_92 : decode cX2_mergeWith 92 = .ok (.invokestatic 31, 3) := by decide +kernel
theorem dX2_mergeWith_95 : decode cX2_mergeWith 95 = .ok (.iload_n 2, 1) := by decide +kernel
theorem dX2_mergeWith_96 : decode cX2_mergeWith 96 = .ok (.iload 8, 2) := by decide +kernel
theorem dX2_mergeWith_98 : decode cX2_mergeWith 98 = .ok (.ifCond .eq 7, 3) := by decide +kernel
theorem dX2_mergeWith_101 : decode cX2_mergeWith 101 = .ok (.iconst 1, 1) := by decide +kernel
theorem dX2_mergeWith_102 : decode cX2_mergeWith 102 = .ok (.goto 4, 3) := by decide +kernel
theorem dX2_mergeWith_105 : decode cX2_mergeWith 105 = .ok (.iconst 0, 1) := by decide +kernel
theorem dX2_mergeWith_106 : decode cX2_mergeWith 106 = .ok (.iadd, 1) := by decide +kernel
theorem dX2_mergeWith_107 : decode cX2_mergeWith 107 = .ok (.istore_n 2, 1) := by decide +kernel
theorem dX2_mergeWith_108 : decode cX2_mergeWith 108 = .ok (.iload_n 3, 1) := by decide +kernel
theorem dX2_mergeWith_109 : decode cX2_mergeWith 109 = .ok (.iload 8, 2) := by decide +kernel
theorem dX2_mergeWith_111 : decode cX2_mergeWith 111 = .ok (.ifCond .eq 7, 3) := by decide +kernel
theorem dX2_mergeWith_114 : decode cX2_mergeWith 114 = .ok (.iconst 0, 1) := by decide +kernel
theorem dX2_mergeWith_115 : decode cX2_mergeWith 115 = .ok (.goto 4, 3) := by decide +kernel
theorem dX2_mergeWith_118 : decode cX2_mergeWith 118 = .ok (.iconst 1, 1) := by decide +kernel
theorem dX2_mergeWith_119 : decode cX2_mergeWith 119 = .ok (.iadd, 1) := by decide +kernel
theorem dX2_mergeWith_120 : decode cX2_mergeWith 120 = .ok (.istore_n 3, 1) := by decide +kernel
theorem dX2_mergeWith_121 : decode cX2_mergeWith 121 = .ok (.iinc 5 1, 3) := by decide +kernel
theorem dX2_mergeWith_124 : decode cX2_mergeWith 124 = .ok (.goto (-109), 3) := by decide +kernel
theorem dX2_mergeWith_127 : decode cX2_mergeWith 127 = .ok (.aload_n 0, 1) := by decide +kernel
theorem dX2_mergeWith_128 : decode cX2_mergeWith 128 = .ok (.getfield 24, 3) := by decide +kernel
theorem dX2_mergeWith_131 : decode cX2_mergeWith 131 = .ok (.astore 5, 2) := by decide +kernel
theorem dX2_mergeWith_133 : decode cX2_mergeWith 133 = .ok (.aload_n 0, 1) := by decide +kernel
theorem dX2_mergeWith_134 : decode cX2_mergeWith 134 = .ok (.aload_n 0, 1) := by decide +kernel
theorem dX2_mergeWith_135 : decode cX2_mergeWith 135 = .ok (.getfield 21, 3) := by decide +kernel
theorem dX2_mergeWith_138 : decode cX2_mergeWith 138 = .ok (.putfield 24, 3) := by decide +kernel
theorem dX2_mergeWith_141 : decode cX2_mergeWith 141 = .ok (.aload_n 0, 1) := by decide +kernel
theorem dX2_mergeWith_142 : decode cX2_mergeWith 142 = .ok (.aload 5, 2) := by decide +kernel
theorem dX2_mergeWith_144 : decode cX2_mergeWith 144 = .ok (.putfield 21, 3) := by decide +kernel
theorem dX2_mergeWith_147 : decode cX2_mergeWith 147 = .ok (.aload_n 0, 1) := by decide +kernel
theorem dX2_mergeWith_148 : decode cX2_mergeWith 148 = .ok (.iload 4, 2) := by decide +kernel
theorem dX2_mergeWith_150 : decode cX2_mergeWith 150 = .ok (.putfield 72, 3) := by decide +kernel
theorem dX2_mergeWith_153 : decode cX2_mergeWith 153 = .ok (.return_, 1) := by decide +kernel
theorem dX2_spreadHigh_0 : decode cX2_spreadHigh 0 = .ok (.iconst 1, 1) := by decide +kernel
theorem dX2_spreadHigh_1 : decode cX2_spreadHigh 1 = .ok (.istore_n 1, 1) := by decide +kernel
theorem dX2_spreadHigh_2 : decode cX2_spreadHigh 2 = .ok (.aload_n 0, 1) := by decide +kernel
theorem dX2_spreadHigh_3 : decode cX2_spreadHigh 3 = .ok (.getfield 18, 3) := by decide +kernel
theorem dX2_spreadHigh_6 : decode cX2_spreadHigh 6 = .ok (.iconst 0, 1) := by decide +kernel
theorem dX2_spreadHigh_7 : decode cX2_spreadHigh 7 = .ok (.iconst 0, 1) := by decide +kernel
theorem dX2_spreadHigh_8 : decode cX2_spreadHigh 8 = .ok (.invokestatic 31, 3) := by decide +kernel
theorem dX2_spreadHigh_11 : decode cX2_spreadHigh 11 = .ok (.bipush 8, 2) := by decide +kernel
theorem dX2_spreadHigh_13 : decode cX2_spreadHigh 13 = .ok (.istore_n 2, 1) := by decide +kernel
theorem dX2_spreadHigh_14 : decode cX2_spreadHigh 14 = .ok (.iload_n 2, 1) := by decide +kernel
theorem dX2_spreadHigh_15 : decode cX2_spreadHigh 15 = .ok (.aload_n 0, 1) := by decide +kernel
theorem dX2_spreadHigh_16 : decode cX2_spreadHigh 16 = .ok (.getfield 27, 3) := by decide +kernel
theorem dX2_spreadHigh_19 : decode cX2_spreadHigh 19 = .ok (.if_icmp .ge 59, 3) := by decide +kernel
theorem dX2_spreadHigh_22 : decode cX2_spreadHigh 22 = .ok (.iload_n 2, 1) := by decide +kernel
theorem dX2_spreadHigh_23 : decode cX2_spreadHigh 23 = .ok (.bipush 16, 2) := by decide +kernel
theorem dX2_spreadHigh_25 : decode cX2_spreadHigh 25 = .ok (.if_icmp .ge 53, 3) := by decide +kernel
theorem dX2_spreadHigh_28 : decode cX2_spreadHigh 28 = .ok (.iconst 0, 1) := by decide +kernel
theorem dX2_spreadHigh_29 : decode cX2_spreadHigh 29 = .ok (.istore_n 3, 1) := by decide +kernel
theorem dX2_spreadHigh_30 : decode cX2_spreadHigh 30 = .ok (.iload_n 3, 1) := by decide +kernel
theorem dX2_spreadHigh_31 : decode cX2_spreadHigh 31 = .ok (.iload_n 1, 1) := by decide +kernel
theorem dX2_spreadHigh_32 : decode cX2_spreadHigh 32 = .ok (.if_icmp .ge 36, 3) := by decide +kernel
theorem dX2_spreadHigh_35 : decode cX2_spreadHigh 35 = .ok (.aload_n 0, 1) := by decide +kernel
theorem dX2_spreadHigh_36 : decode cX2_spreadHigh 36 = .ok (.getfield 18, 3) := by decide +kernel
theorem dX2_spreadHigh_39 : decode cX2_spreadHigh 39 = .ok (.iload_n 1, 1) := by decide +kernel
theorem dX2_spreadHigh_40 : decode cX2_spreadHigh 40 = .ok (.iload_n 3, 1) := by decide +kernel
theorem dX2_spreadHigh_41 : decode cX2_spreadHigh 41 = .ok (.iadd, 1) := by decide +kernel
theorem dX2_spreadHigh_42 : decode cX2_spreadHigh 42 = .ok (.aload_n 0, 1) := by decide +kernel
theorem dX2_spreadHigh_43 : decode cX2_spreadHigh 43 = .ok (.getfield 18, 3) := by decide +kernel
theorem dX2_spreadHigh_46 : decode cX2_spreadHigh 46 = .ok (.iload_n 3, 1) := by decide +kernel
theorem dX2_spreadHigh_47 : decode cX2_spreadHigh 47 = .ok (.invokestatic 43, 3) := by decide +kernel
theorem dX2_spreadHigh_50 : decode cX2_spreadHigh 50 = .ok (.aload_n 0, 1) := by decide +kernel
theorem dX2_spreadHigh_51 : decode cX2_spreadHigh 51 = .ok (.getfield 15, 3) := by decide +kernel
theorem dX2_spreadHigh_54 : decode cX2_spreadHigh 54 = .ok (.iload_n 2, 1) := by decide +kernel
theorem dX2_spreadHigh_55 : decode cX2_spreadHigh 55 = .ok (.invokestatic 43, 3) := by decide +kernel
theorem dX2_spreadHigh_58 : decode cX2_spreadHigh 58 = .ok (.iadd, 1) := by decide +kernel
theorem dX2_spreadHigh_59 : decode cX2_spreadHigh 59 = .ok (.invokestatic 31, 3) := by decide +kernel
theorem dX2_spreadHigh_62 : decode cX2_spreadHigh 62 = .ok (.iinc 3 1, 3) := by decide +kernel
theorem dX2_spreadHigh_65 : decode cX2_spreadHigh 65 = .ok (.goto (-35), 3) := by decide +kernel
theorem dX2_spreadHigh_68 : decode cX2_spreadHigh 68 = .ok (.iload_n 1, 1) := by decide +kernel
theorem dX2_spreadHigh_69 : decode cX2_spreadHigh 69 = .ok (.iconst 2, 1) := by decide +kernel
theorem dX2_spreadHigh_70 : decode cX2_spreadHigh 70 = .ok (.imul, 1) := by decide +kernel
theorem dX2_spreadHigh_71 : decode cX2_spreadHigh 71 = .ok (.istore_n 1, 1) := by decide +kernel
theorem dX2_spreadHigh_72 : decode cX2_spreadHigh 72 = .ok (.iinc 2 1, 3) := by decide +kernel
theorem dX2_spreadHigh_75 : decode cX2_spreadHigh 75 = .ok (.goto (-61), 3) := by decide +kernel
theorem dX2_spreadHigh_78 : decode cX2_spreadHigh 78 = .ok (.iload_n 1, 1) := by decide +kernel
theorem dX2_spreadHigh_79 : decode cX2_spreadHigh 79 = .ok (.ireturn, 1) := by decide +kernel
theorem dX2_firstFrom_0 : decode cX2_firstFrom 0 = .ok (.iconst 0, 1) := by decide +kernel
theorem dX2_firstFrom_1 : decode cX2_firstFrom 1 = .ok (.istore_n 2, 1) := by decide +kernel
theorem dX2_firstFrom_2 : decode cX2_firstFrom 2 = .ok (.sipush 256, 3) := by decide +kernel
theorem dX2_firstFrom_5 : decode cX2_firstFrom 5 = .ok (.istore_n 3, 1) := by decide +kernel
theorem dX2_firstFrom_6 : decode cX2_firstFrom 6 = .ok (.iload_n 3, 1) := by decide +kernel
theorem dX2_firstFrom_7 : decode cX2_firstFrom 7 = .ok (.ifCond .le 43, 3) := by decide +kernel
theorem dX2_firstFrom_10 : decode cX2_firstFrom 10 = .ok (.iload_n 2, 1) := by decide +kernel
theorem dX2_firstFrom_11 : decode cX2_firstFrom 11 = .ok (.iload_n 3, 1) := by decide +kernel
theorem dX2_firstFrom_12 : decode cX2_firstFrom 12 = .ok (.iadd, 1) := by decide +kernel
theorem dX2_firstFrom_13 : decode cX2_firstFrom 13 = .ok (.istore 4, 2) := by decide +kernel
theorem dX2_firstFrom_15 : decode cX2_firstFrom 15 = .ok (.iload 4, 2) := by decide +kernel
theorem dX2_firstFrom_17 : decode cX2_firstFrom 17 = .ok (.aload_n 0, 1) := by decide +kernel
theorem dX2_firstFrom_18 : decode cX2_firstFrom 18 = .ok (.getfield 72, 3) := by decide +kernel
theorem dX2_firstFrom_21 : decode cX2_firstFrom 21 = .ok (.if_icmp .gt 20, 3) := by decide +kernel
theorem dX2_firstFrom_24 : decode cX2_firstFrom 24 = .ok (.aload_n 0, 1) := by decide +kernel
theorem dX2_firstFrom_25 : decode cX2_firstFrom 25 = .ok (.iload 4, 2) := by decide +kernel
theorem dX2_firstFrom_27 : decode cX2_firstFrom 27 = .ok (.iconst 1, 1) := by decide +kernel
theorem dX2_firstFrom_28 : decode cX2_firstFrom 28 = .ok (.isub, 1) := by decide +kernel
theorem dX2_firstFrom_29 : decode cX2_firstFrom 29 = .ok (.invokevirtual 54, 3) := by decide +kernel
theorem dX2_firstFrom_32 : decode cX2_firstFrom 32 = .ok (.iload_n 1, 1) := by decide +kernel
theorem dX2_firstFrom_33 : decode cX2_firstFrom 33 = .ok (.if_icmp .ge 8, 3) := by decide +kernel
theorem dX2_firstFrom_36 : decode cX2_firstFrom 36 = .ok (.iload 4, 2) := by decide +kernel
theorem dX2_firstFrom_38 : decode cX2_firstFrom 38 = .ok (.goto 4, 3) := by decide +kernel
theorem dX2_firstFrom_41 : decode cX2_firstFrom 41 = .ok (.iload_n 2, 1) := by decide +kernel
theorem dX2_firstFrom_42 : decode cX2_firstFrom 42 = .ok (.istore_n 2, 1) := by decide +kernel
theorem dX2_firstFrom_43 : decode cX2_firstFrom 43 = .ok (.iload_n 3, 1) := by decide +kernel
theorem dX2_firstFrom_44 : decode cX2_firstFrom 44 = .ok (.iconst 2, 1) := by decide +kernel
theorem dX2_firstFrom_45 : decode cX2_firstFrom 45 = .ok (.idiv, 1) := by decide +kernel
theorem dX2_firstFrom_46 : decode cX2_firstFrom 46 = .ok (.istore_n 3, 1) := by decide +kernel
theorem dX2_firstFrom_47 : decode cX2_firstFrom 47 = .ok (.goto (-41), 3) := by decide +kernel
theorem dX2_firstFrom_50 : decode cX2_firstFrom 50 = .ok (.iload_n 2, 1) := by decide +kernel
theorem dX2_firstFrom_51 : decode cX2_firstFrom 51 = .ok (.ireturn, 1) := by decide +kernel
theorem dX2_sumAt_0 : decode cX2_sumAt 0 = .ok (.aload_n 0, 1) := by decide +kernel
theorem dX2_sumAt_1 : decode cX2_sumAt 1 = .ok (.getfield 21, 3) := by decide +kernel
theorem dX2_sumAt_4 : decode cX2_sumAt 4 = .ok (.iload_n 1, 1) := by decide +kernel
theorem dX2_sumAt_5 : decode cX2_sumAt 5 = .ok (.invokestatic 43, 3) := by decide +kernel
theorem dX2_sumAt_8 : decode cX2_sumAt 8 = .ok (.bipush 12, 2) := by decide +kernel
theorem dX2_sumAt_10 : decode cX2_sumAt 10 = .ok (.ishr, 1) := by decide +kernel
theorem dX2_sumAt_11 : decode cX2_sumAt 11 = .ok (.ireturn, 1) := by decide +kernel
theorem dX2_bitsAt_0 : decode cX2_bitsAt 0 = .ok (.aload_n 0, 1) := by decide +kernel
theorem dX2_bitsAt_1 : decode cX2_bitsAt 1 = .ok (.getfield 21, 3) := by decide +kernel
theorem dX2_bitsAt_4 : decode cX2_bitsAt 4 = .ok (.iload_n 1, 1) := by decide +kernel
theorem dX2_bitsAt_5 : decode cX2_bitsAt 5 = .ok (.invokestatic 43, 3) := by decide +kernel
theorem dX2_bitsAt_8 : decode cX2_bitsAt 8 = .ok (.sipush 255, 3) := by decide +kernel
theorem dX2_bitsAt_11 : decode cX2_bitsAt 11 = .ok (.iand, 1) := by decide +kernel
theorem dX2_bitsAt_12 : decode cX2_bitsAt 12 = .ok (.ireturn, 1) := by decide +kernel
theorem dX2_asCords_0 : decode cX2_asCords 0 = .ok (.iconst 0, 1) := by decide +kernel
theorem dX2_asCords_1 : decode cX2_asCords 1 = .ok (.istore_n 2, 1) := by decide +kernel
theorem dX2_asCords_2 : decode cX2_asCords 2 = .ok (.iconst 0, 1) := by decide +kernel
theorem dX2_asCords_3 : decode cX2_asCords 3 = .ok (.istore_n 3, 1) := by decide +kernel
theorem dX2_asCords_4 : decode cX2_asCords 4 = .ok (.iload_n 3, 1) := by decide +kernel
theorem dX2_asCords_5 : decode cX2_asCords 5 = .ok (.aload_n 0, 1) := by decide +kernel
theorem dX2_asCords_6 : decode cX2_asCords 6 = .ok (.getfield 27, 3) := by decide +kernel
theorem dX2_asCords_9 : decode cX2_asCords 9 = .ok (.if_icmp .ge 26, 3) := by decide +kernel
theorem dX2_asCords_12 : decode cX2_asCords 12 = .ok (.iload_n 2, 1) := by decide +kernel
theorem dX2_asCords_13 : decode cX2_asCords 13 = .ok (.iload_n 1, 1) := by decide +kernel
theorem dX2_asCords_14 : decode cX2_asCords 14 = .ok (.iload_n 3, 1) := by decide +kernel
theorem dX2_asCords_15 : decode cX2_asCords 15 = .ok (.ishr, 1) := by decide +kernel
theorem dX2_asCords_16 : decode cX2_asCords 16 = .ok (.iconst 1, 1) := by decide +kernel
theorem dX2_asCords_17 : decode cX2_asCords 17 = .ok (.iand, 1) := by decide +kernel
theorem dX2_asCords_18 : decode cX2_asCords 18 = .ok (.aload_n 0, 1) := by decide +kernel
theorem dX2_asCords_19 : decode cX2_asCords 19 = .ok (.getfield 11, 3) := by decide +kernel
theorem dX2_asCords_22 : decode cX2_asCords 22 = .ok (.iload_n 3, 1) := by decide +kernel
theorem dX2_asCords_23 : decode cX2_asCords 23 = .ok (.invokestatic 43, 3) := by decide +kernel
theorem dX2_asCords_26 : decode cX2_asCords 26 = .ok (.ishl, 1) := by decide +kernel
theorem dX2_asCords_27 : decode cX2_asCords 27 = .ok (.ior, 1) := by decide +kernel
theorem dX2_asCords_28 : decode cX2_asCords 28 = .ok (.istore_n 2, 1) := by decide +kernel
theorem dX2_asCords_29 : decode cX2_asCords 29 = .ok (.iinc 3 1, 3) := by decide +kernel
theorem dX2_asCords_32 : decode cX2_asCords 32 = .ok (.goto (-28), 3) := by decide +kernel
theorem dX2_asCords_35 : decode cX2_asCords 35 = .ok (.iload_n 2, 1) := by decide +kernel
theorem dX2_asCords_36 : decode cX2_asCords 36 = .ok (.ireturn, 1) := by decide +kernel
theorem dX3_init_0 : decode cX3_init 0 = .ok (.aload_n 0, 1) := by decide +kernel
theorem dX3_init_1 : decode cX3_init 1 = .ok (.invokespecial 1, 3) := by decide +kernel
theorem dX3_init_4 : decode cX3_init 4 = .ok (.aload_n 0, 1) := by decide +kernel
theorem dX3_init_5 : decode cX3_init 5 = .ok (.iload_n 1, 1) := by decide +kernel
theorem dX3_init_6 : decode cX3_init 6 = .ok (.iconst 1, 1) := by decide +kernel
theorem dX3_init_7 : decode cX3_init 7 = .ok (.invokestatic 7, 3) := by decide +kernel
theorem dX3_init_10 : decode cX3_init 10 = .ok (.putfield 13, 3) := by decide +kernel
theorem dX3_init_13 : decode cX3_init 13 = .ok (.aload_n 0, 1) := by decide +kernel
theorem dX3_init_14 : decode cX3_init 14 = .ok (.aload_n 0, 1) := by decide +kernel
theorem dX3_init_15 : decode cX3_init 15 = .ok (.getfield 13, 3) := by decide +kernel
theorem dX3_init_18 : decode cX3_init 18 = .ok (.sipush 179, 3) := by decide +kernel
theorem dX3_init_21 : decode cX3_init 21 = .ok (.imul, 1) := by decide +kernel
theorem dX3_init_22 : decode cX3_init 22 = .ok (.newarray .int, 2) := by decide +kernel
theorem dX3_init_24 : decode cX3_init 24 = .ok (.putfield 21, 3) := by decide +kernel
theorem dX3_init_27 : decode cX3_init 27 = .ok (.return_, 1) := by decide +kernel
theorem dX3_clear_0 : decode cX3_clear 0 = .ok (.aload_n 0, 1) := by decide +kernel
theorem dX3_clear_1 : decode cX3_clear 1 = .ok (.iconst 0, 1) := by decide +kernel
theorem dX3_clear_2 : decode cX3_clear 2 = .ok (.putfield 25, 3) := by decide +kernel
theorem dX3_clear_5 : decode cX3_clear 5 = .ok (.return_, 1) := by decide +kernel
theorem dX3_add_0 : decode cX3_add 0 = .ok (.aload_n 0, 1) := by decide +kernel
theorem dX3_add_1 : decode cX3_add 1 = .ok (.getfield 25, 3) := by decide +kernel
theorem dX3_add_4 : decode cX3_add 4 = .ok (.aload_n 0, 1) := by decide +kernel
theorem dX3_add_5 : decode cX3_add 5 = .ok (.getfield 13, 3) := by decide +kernel
theorem dX3_add_8 : decode cX3_add 8 = .ok (.if_icmp .lt 52, 3) := by decide +kernel
theorem dX3_add_11 : decode cX3_add 11 = .ok (.iconst 1, 1) := by decide +kernel
theorem dX3_add_12 : decode cX3_add 12 = .ok (.istore_n 2, 1) := by decide +kernel
theorem dX3_add_13 : decode cX3_add 13 = .ok (.iload_n 2, 1) := by decide +kernel
theorem dX3_add_14 : decode cX3_add 14 = .ok (.aload_n 0, 1) := by decide +kernel
theorem dX3_add_15 : decode cX3_add 15 = .ok (.getfield 13, 3) := by decide +kernel
theorem dX3_add_18 : decode cX3_add 18 = .ok (.if_icmp .ge 32, 3) := by decide +kernel
theorem dX3_add_21 : decode cX3_add 21 = .ok (.aload_n 0, 1) := by decide +kernel
theorem dX3_add_22 : decode cX3_add 22 = .ok (.getfield 21, 3) := by decide +kernel
theorem dX3_add_25 : decode cX3_add 25 = .ok (.iload_n 2, 1) := by decide +kernel
theorem dX3_add_26 : decode cX3_add 26 = .ok (.sipush 179, 3) := by decide +kernel
theorem dX3_add_29 : decode cX3_add 29 = .ok (.imul, 1) := by decide +kernel
theorem dX3_add_30 : decode cX3_add 30 = .ok (.aload_n 0, 1) := by decide +kernel
theorem dX3_add_31 : decode cX3_add 31 = .ok (.getfield 21, 3) := by decide +kernel
theorem dX3_add_34 : decode cX3_add 34 = .ok (.iload_n 2, 1) := by decide +kernel
theorem dX3_add_35 : decode cX3_add 35 = .ok (.iconst 1, 1) := by decide +kernel
theorem dX3_add_36 : decode cX3_add 36 = .ok (.isub, 1) := by decide +kernel
theorem dX3_add_37 : decode cX3_add 37 = .ok (.sipush 179, 3) := by decide +kernel
theorem dX3_add_40 : decode cX3_add 40 = .ok (.imul, 1) := by decide +kernel
theorem dX3_add_41 : decode cX3_add 41 = .ok (.invokestatic 28, 3) := by decide +kernel
theorem dX3_add_44 : decode cX3_add 44 = .ok (.iinc 2 1, 3) := by decide +kernel
theorem dX3_add_47 : decode cX3_add 47 = .ok (.goto (-34), 3) := by decide +kernel
theorem dX3_add_50 : decode cX3_add 50 = .ok (.aload_n 0, 1) := by decide +kernel
theorem dX3_add_51 : decode cX3_add 51 = .ok (.aload_n 0, 1) := by decide +kernel
theorem dX3_add_52 : decode cX3_add 52 = .ok (.getfield 13, 3) := by decide +kernel
theorem dX3_add_55 : decode cX3_add 55 = .ok (.iconst 1, 1) := by decide +kernel
theorem dX3_add_56 : decode cX3_add 56 = .ok (.isub, 1) := by decide +kernel
theorem dX3_add_57 : decode cX3_add 57 = .ok (.putfield 25, 3) := by decide +kernel
theorem dX3_add_60 : decode cX3_add 60 = .ok (.aload_n 1, 1) := by decide +kernel
theorem dX3_add_61 : decode cX3_add 61 = .ok (.iconst 0, 1) := by decide +kernel
theorem dX3_add_62 : decode cX3_add 62 = .ok (.aload_n 0, 1) := by decide +kernel
theorem dX3_add_63 : decode cX3_add 63 = .ok (.getfield 21, 3) := by decide +kernel
theorem dX3_add_66 : decode cX3_add 66 = .ok (.aload_n 0, 1) := by decide +kernel
theorem dX3_add_67 : decode cX3_add 67 = .ok (.getfield 25, 3) := by decide +kernel
theorem dX3_add_70 : decode cX3_add 70 = .ok (.sipush 179, 3) := by decide +kernel
theorem dX3_add_73 : decode cX3_add 73 = .ok (.imul, 1) := by decide +kernel
theorem dX3_add_74 : decode cX3_add 74 = .ok (.invokestatic 28, 3) := by decide +kernel
theorem dX3_add_77 : decode cX3_add 77 = .ok (.aload_n 0, 1) := by decide +kernel
theorem dX3_add_78 : decode cX3_add 78 = .ok (.dup, 1) := by decide +kernel
theorem dX3_add_79 : decode cX3_add 79 = .ok (.getfield 25, 3) := by decide +kernel
theorem dX3_add_82 : decode cX3_add 82 = .ok (.iconst 1, 1) := by decide +kernel
theorem dX3_add_83 : decode cX3_add 83 = .ok (.iadd, 1) := by decide +kernel
theorem dX3_add_84 : decode cX3_add 84 = .ok (.putfield 25, 3) := by decide +kernel
theorem dX3_add_87 : decode cX3_add 87 = .ok (.return_, 1) := by decide +kernel
theorem dX3_takeInto_0 : decode cX3_takeInto 0 = .ok (.aload_n 0, 1) := by decide +kernel
theorem dX3_takeInto_1 : decode cX3_takeInto 1 = .ok (.getfield 25, 3) := by decide +kernel
theorem dX3_takeInto_4 : decode cX3_takeInto 4 = .ok (.ifCond .le 30, 3) := by decide +kernel
theorem dX3_takeInto_7 : decode cX3_takeInto 7 = .ok (.aload_n 0, 1) := by decide +kernel
theorem dX3_takeInto_8 : decode cX3_takeInto 8 = .ok (.dup, 1) := by decide +kernel
theorem dX3_takeInto_9 : decode cX3_takeInto 9 = .ok (.getfield 25, 3) := by decide +kernel
theorem dX3_takeInto_12 : decode cX3_takeInto 12 = .ok (.iconst 1, 1) := by decide +kernel
theorem dX3_takeInto_13 : decode cX3_takeInto 13 = .ok (.isub, 1) := by decide +kernel
theorem dX3_takeInto_14 : decode cX3_takeInto 14 = .ok (.putfield 25, 3) := by decide +kernel
theorem dX3_takeInto_17 : decode cX3_takeInto 17 = .ok (.aload_n 0, 1) := by decide +kernel
theorem dX3_takeInto_18 : decode cX3_takeInto 18 = .ok (.getfield 21, 3) := by decide +kernel
theorem dX3_takeInto_21 : decode cX3_takeInto 21 = .ok (.aload_n 0, 1) := by decide +kernel
theorem dX3_takeInto_22 : decode cX3_takeInto 22 = .ok (.getfield 25, 3) := by decide +kernel
theorem dX3_takeInto_25 : decode cX3_takeInto 25 = .ok (.sipush 179, 3) := by decide +kernel
theorem dX3_takeInto_28 : decode cX3_takeInto 28 = .ok (.imul, 1) := by decide +kernel
theorem dX3_takeInto_29 : decode cX3_takeInto 29 = .ok (.aload_n 1, 1) := by decide +kernel
theorem dX3_takeInto_30 : decode cX3_takeInto 30 = .ok (.iconst 0, 1) := by decide +kernel
theorem dX3_takeInto_31 : decode cX3_takeInto 31 = .ok (.invokestatic 28, 3) := by decide +kernel
theorem dX3_takeInto_34 : decode cX3_takeInto 34 = .ok (.return_, 1) := by decide +kernel
theorem dX4_init_0 : decode cX4_init 0 = .ok (.aload_n 0, 1) := by decide +kernel
theorem dX4_init_1 : decode cX4_init 1 = .ok (.invokespecial 1, 3) := by decide +kernel
theorem dX4_init_4 : decode cX4_init 4 = .ok (.aload_n 0, 1) := by decide +kernel
theorem dX4_init_5 : decode cX4_init 5 = .ok (.sipush 200, 3) := by decide +kernel
theorem dX4_init_8 : decode cX4_init 8 = .ok (.newarray .char, 2) := by decide +kernel
theorem dX4_init_10 : decode cX4_init 10 = .ok (.putfield 9, 3) := by decide +kernel
theorem dX4_init_13 : decode cX4_init 13 = .ok (.aload_n 0, 1) := by decide +kernel
theorem dX4_init_14 : decode cX4_init 14 = .ok (.new 13, 3) := by decide +kernel
theorem dX4_init_17 : decode cX4_init 17 = .ok (.dup, 1) := by decide +kernel
theorem dX4_init_18 : decode cX4_init 18 = .ok (.invokespecial 15, 3) := by decide +kernel
theorem dX4_init_21 : decode cX4_init 21 = .ok (.putfield 16, 3) := by decide +kernel
theorem dX4_init_24 : decode cX4_init 24 = .ok (.aload_n 0, 1) := by decide +kernel
theorem dX4_init_25 : decode cX4_init 25 = .ok (.new 20, 3) := by decide +kernel
theorem dX4_init_28 : decode cX4_init 28 = .ok (.dup, 1) := by decide +kernel
theorem dX4_init_29 : decode cX4_init 29 = .ok (.invokespecial 22, 3) := by decide +kernel
theorem dX4_init_32 : decode cX4_init 32 = .ok (.putfield 23, 3) := by decide +kernel
theorem dX4_init_35 : decode cX4_init 35 = .ok (.aload_n 0, 1) := by decide +kernel
theorem dX4_init_36 : decode cX4_init 36 = .ok (.new 27, 3) := by decide +kernel
theorem dX4_init_39 : decode cX4_init 39 = .ok (.dup, 1) := by decide +kernel
theorem dX4_init_40 : decode cX4_init 40 = .ok (.bipush 8, 2) := by decide +kernel
theorem dX4_init_42 : decode cX4_init 42 = .ok (.invokespecial 29, 3) := by decide +kernel
theorem dX4_init_45 : decode cX4_init 45 = .ok (.putfield 32, 3) := by decide +kernel
theorem dX4_init_48 : decode cX4_init 48 = .ok (.aload_n 0, 1) := by decide +kernel
theorem dX4_init_49 : decode cX4_init 49 = .ok (.new 27, 3) := by decide +kernel
theorem dX4_init_52 : decode cX4_init 52 = .ok (.dup, 1) := by decide +kernel
theorem dX4_init_53 : decode cX4_init 53 = .ok (.iconst 2, 1) := by decide +kernel
theorem dX4_init_54 : decode cX4_init 54 = .ok (.invokespecial 29, 3) := by decide +kernel
theorem dX4_init_57 : decode cX4_init 57 = .ok (.putfield 36, 3) := by decide +kernel
theorem dX4_init_60 : decode cX4_init 60 = .ok (.aload_n 0, 1) := by decide +kernel
theorem dX4_init_61 : decode cX4_init 61 = .ok (.new 39, 3) := by decide +kernel
theorem dX4_init_64 : decode cX4_init 64 = .ok (.dup, 1) := by decide +kernel
theorem dX4_init_65 : decode cX4_init 65 = .ok (.invokespecial 41, 3) := by decide +kernel
theorem dX4_init_68 : decode cX4_init 68 = .ok (.putfield 42, 3) := by decide +kernel
theorem dX4_init_71 : decode cX4_init 71 = .ok (.aload_n 0, 1) := by decide +kernel
theorem dX4_init_72 : decode cX4_init 72 = .ok (.iconst 4, 1) := by decide +kernel
theorem dX4_init_73 : decode cX4_init 73 = .ok (.newarray .int, 2) := by decide +kernel
theorem dX4_init_75 : decode cX4_init 75 = .ok (.putfield 46, 3) := by decide +kernel
theorem dX4_init_78 : decode cX4_init 78 = .ok (.aload_n 0, 1) := by decide +kernel
theorem dX4_init_79 : decode cX4_init 79 = .ok (.iconst 4, 1) := by decide +kernel
theorem dX4_init_80 : decode cX4_init 80 = .ok (.newarray .int, 2) := by decide +kernel
theorem dX4_init_82 : decode cX4_init 82 = .ok (.putfield 50, 3) := by decide +kernel
theorem dX4_init_85 : decode cX4_init 85 = .ok (.aload_n 0, 1) := by decide +kernel
theorem dX4_init_86 : decode cX4_init 86 = .ok (.bipush 16, 2) := by decide +kernel
theorem dX4_init_88 : decode cX4_init 88 = .ok (.newarray .int, 2) := by decide +kernel
theorem dX4_init_90 : decode cX4_init 90 = .ok (.putfield 53, 3) := by decide +kernel
theorem dX4_init_93 : decode cX4_init 93 = .ok (.aload_n 0, 1) := by decide +kernel
theorem dX4_init_94 : decode cX4_init 94 = .ok (.bipush 16, 2) := by decide +kernel
theorem dX4_init_96 : decode cX4_init 96 = .ok (.newarray .int, 2) := by decide +kernel
theorem dX4_init_98 : decode cX4_init 98 = .ok (.putfield 56, 3) := by decide +kernel
theorem dX4_init_101 : decode cX4_init 101 = .ok (.aload_n 0, 1) := by decide +kernel
theorem dX4_init_102 : decode cX4_init 102 = .ok (.getfield 16, 3) := by decide +kernel
theorem dX4_init_105 : decode cX4_init 105 = .ok (.ldc 59, 2) := by decide +kernel
theorem dX4_init_107 : decode cX4_init 107 = .ok (.invokevirtual 61, 3) := by decide +kernel
theorem dX4_init_110 : decode cX4_init 110 = .ok (.ldc 59, 2) := by decide +kernel
theorem dX4_init_112 : decode cX4_init 112 = .ok (.invokevirtual 67, 3) := by decide +kernel
theorem dX4_init_115 : decode cX4_init 115 = .ok (.invokevirtual 71, 3) := by decide +kernel
theorem dX4_init_118 : decode cX4_init 118 = .ok (.pop, 1) := by decide +kernel
theorem dX4_init_119 : decode cX4_init 119 = .ok (.aload_n 0, 1) := by decide +kernel
theorem dX4_init_120 : decode cX4_init 120 = .ok (.getfield 23, 3) := by decide +kernel
theorem dX4_init_123 : decode cX4_init 123 = .ok (.aload_n 0, 1) := by decide +kernel
theorem dX4_init_124 : decode cX4_init 124 = .ok (.getfield 16, 3) := by decide +kernel
theorem dX4_init_127 : decode cX4_init 127 = .ok (.getfield 75, 3) := by decide +kernel
theorem dX4_init_130 : decode cX4_init 130 = .ok (.getfield 78, 3) := by decide +kernel
theorem dX4_init_133 : decode cX4_init 133 = .ok (.invokevirtual 81, 3) := by decide +kernel
theorem dX4_init_136 : decode cX4_init 136 = .ok (.return_, 1) := by decide +kernel
theorem dX4_write_0 : decode cX4_write 0 = .ok (.iload_n 1, 1) := by decide +kernel
theorem dX4_write_1 : decode cX4_write 1 = .ok (.bipush 32, 2) := by decide +kernel
theorem dX4_write_3 : decode cX4_write 3 = .ok (.if_icmp .lt 9, 3) := by decide +kernel
theorem dX4_write_6 : decode cX4_write 6 = .ok (.iload_n 1, 1) := by decide +kernel
theorem dX4_write_7 : decode cX4_write 7 = .ok (.bipush 126, 2) := by decide +kernel
theorem dX4_write_9 : decode cX4_write 9 = .ok (.if_icmp .le 5, 3) := by decide +kernel
theorem dX4_write_12 : decode cX4_write 12 = .ok (.iconst (-1), 1) := by decide +kernel
theorem dX4_write_13 : decode cX4_write 13 = .ok (.ireturn, 1) := by decide +kernel
theorem dX4_write_14 : decode cX4_write 14 = .ok (.aload_n 0, 1) := by decide +kernel
theorem dX4_write_15 : decode cX4_write 15 = .ok (.getfield 85, 3) := by decide +kernel
theorem dX4_write_18 : decode cX4_write 18 = .ok (.ifCond .lt 15, 3) := by decide +kernel
theorem dX4_write_21 : decode cX4_write 21 = .ok (.aload_n 0, 1) := by decide +kernel
theorem dX4_write_22 : decode cX4_write 22 = .ok (.getfield 85, 3) := by decide +kernel
theorem dX4_write_25 : decode cX4_write 25 = .ok (.aload_n 0, 1) := by decide +kernel
theorem dX4_write_26 : decode cX4_write 26 = .ok (.getfield 9, 3) := by decide +kernel
theorem dX4_write_29 : decode cX4_write 29 = .ok (.arraylength, 1) := by decide +kernel
theorem dX4_write_30 : decode cX4_write 30 = .ok (.if_icmp .lt 6, 3) := by decide +kernel
theorem dX4_write_33 : decode cX4_write 33 = .ok (.bipush (-3), 2) := by decide +kernel
theorem dX4_write_35 : decode cX4_write 35 = .ok (.ireturn, 1) := by decide +kernel
theorem dX4_write_36 : decode cX4_write 36 = .ok (.aload_n 0, 1) := by decide +kernel
theorem dX4_write_37 : decode cX4_write 37 = .ok (.getfield 9, 3) := by decide +kernel
theorem dX4_write_40 : decode cX4_write 40 = .ok (.aload_n 0, 1) := by decide +kernel
theorem dX4_write_41 : decode cX4_write 41 = .ok (.getfield 85, 3) := by decide +kernel
theorem dX4_write_44 : decode cX4_write 44 = .ok (.iload_n 1, 1) := by decide +kernel
theorem dX4_write_45 : decode cX4_write 45 = .ok (.i2c, 1) := by decide +kernel
theorem dX4_write_46 : decode cX4_write 46 = .ok (.castore, 1) := by decide +kernel
theorem dX4_write_47 : decode cX4_write 47 = .ok (.aload_n 0, 1) := by decide +kernel
theorem dX4_write_48 : decode cX4_write 48 = .ok (.dup, 1) := by decide +kernel
theorem dX4_write_49 : decode cX4_write 49 = .ok (.getfield 85, 3) := by decide +kernel
theorem dX4_write_52 : decode cX4_write 52 = .ok (.iconst 1, 1) := by decide +kernel
theorem dX4_write_53 : decode cX4_write 53 = .ok (.iadd, 1) := by decide +kernel
theorem dX4_write_54 : decode cX4_write 54 = .ok (.putfield 85, 3) := by decide +kernel
theorem dX4_write_57 : decode cX4_write 57 = .ok (.aload_n 0, 1) := by decide +kernel
theorem dX4_write_58 : decode cX4_write 58 = .ok (.getfield 85, 3) := by decide +kernel
theorem dX4_write_61 : decode cX4_write 61 = .ok (.ireturn, 1) := by decide +kernel
theorem dX4_wipe_0 : decode cX4_wipe 0 = .ok (.aload_n 0, 1) := by decide +kernel
theorem dX4_wipe_1 : decode cX4_wipe 1 = .ok (.getfield 85, 3) := by decide +kernel
theorem dX4_wipe_4 : decode cX4_wipe 4 = .ok (.istore_n 1, 1) := by decide +kernel
theorem dX4_wipe_5 : decode cX4_wipe 5 = .ok (.aload_n 0, 1) := by decide +kernel
theorem dX4_wipe_6 : decode cX4_wipe 6 = .ok (.iconst 0, 1) := by decide +kernel
theorem dX4_wipe_7 : decode cX4_wipe 7 = .ok (.putfield 85, 3) := by decide +kernel
theorem dX4_wipe_10 : decode cX4_wipe 10 = .ok (.iload_n 1, 1) := by decide +kernel
theorem dX4_wipe_11 : decode cX4_wipe 11 = .ok (.ireturn, 1) := by decide +kernel
theorem dX4_fault_0 : decode cX4_fault 0 = .ok (.aload_n 0, 1) := by decide +kernel
theorem dX4_fault_1 : decode cX4_fault 1 = .ok (.getfield 16, 3) := by decide +kernel
theorem dX4_fault_4 : decode cX4_fault 4 = .ok (.aload_n 0, 1) := by decide +kernel
theorem dX4_fault_5 : decode cX4_fault 5 = .ok (.getfield 9, 3) := by decide +kernel
theorem dX4_fault_8 : decode cX4_fault 8 = .ok (.aload_n 0, 1) := by decide +kernel
theorem dX4_fault_9 : decode cX4_fault 9 = .ok (.getfield 85, 3) := by decide +kernel
theorem dX4_fault_12 : decode cX4_fault 12 = .ok (.invokevirtual 71, 3) := by decide +kernel
theorem dX4_fault_15 : decode cX4_fault 15 = .ok (.ireturn, 1) := by decide +kernel
theorem dX4_lay_0 : decode cX4_lay 0 = .ok (.aload_n 0, 1) := by decide +kernel
theorem dX4_lay_1 : decode cX4_lay 1 = .ok (.getfield 85, 3) := by decide +kernel
theorem dX4_lay_4 : decode cX4_lay 4 = .ok (.ifCond .eq 23, 3) := by decide +kernel
theorem dX4_lay_7 : decode cX4_lay 7 = .ok (.aload_n 0, 1) := by decide +kernel
theorem dX4_lay_8 : decode cX4_lay 8 = .ok (.getfield 16, 3) := by decide +kernel
theorem dX4_lay_11 : decode cX4_lay 11 = .ok (.aload_n 0, 1) := by decide +kernel
theorem dX4_lay_12 : decode cX4_lay 12 = .ok (.getfield 9, 3) := by decide +kernel
theorem dX4_lay_15 : decode cX4_lay 15 = .ok (.aload_n 0, 1) := by decide +kernel
theorem dX4_lay_16 : decode cX4_lay 16 = .ok (.getfield 85, 3) := by decide +kernel
theorem dX4_lay_19 : decode cX4_lay 19 = .ok (.invokevirtual 71, 3) := by decide +kernel
theorem dX4_lay_22 : decode cX4_lay 22 = .ok (.bipush (-4), 2) := by decide +kernel
theorem dX4_lay_24 : decode cX4_lay 24 = .ok (.if_icmp .eq 6, 3) := by decide +kernel
theorem dX4_lay_27 : decode cX4_lay 27 = .ok (.bipush (-2), 2) := by decide +kernel
theorem dX4_lay_29 : decode cX4_lay 29 = .ok (.ireturn, 1) := by decide +kernel
theorem dX4_lay_30 : decode cX4_lay 30 = .ok (.aload_n 0, 1) := by decide +kernel
theorem dX4_lay_31 : decode cX4_lay 31 = .ok (.getfield 23, 3) := by decide +kernel
theorem dX4_lay_34 : decode cX4_lay 34 = .ok (.aload_n 0, 1) := by decide +kernel
theorem dX4_lay_35 : decode cX4_lay 35 = .ok (.getfield 16, 3) := by decide +kernel
theorem dX4_lay_38 : decode cX4_lay 38 = .ok (.getfield 75, 3) := by decide +kernel
theorem dX4_lay_41 : decode cX4_lay 41 = .ok (.getfield 78, 3) := by decide +kernel
theorem dX4_lay_44 : decode cX4_lay 44 = .ok (.invokevirtual 81, 3) := by decide +kernel
theorem dX4_lay_47 : decode cX4_lay 47 = .ok (.aload_n 0, 1) := by decide +kernel
theorem dX4_lay_48 : decode cX4_lay 48 = .ok (.getfield 32, 3) := by decide +kernel
theorem dX4_lay_51 : decode cX4_lay 51 = .ok (.invokevirtual 88, 3) := by decide +kernel
theorem dX4_lay_54 : decode cX4_lay 54 = .ok (.aload_n 0, 1) := by decide +kernel
theorem dX4_lay_55 : decode cX4_lay 55 = .ok (.getfield 36, 3) := by decide +kernel
theorem dX4_lay_58 : decode cX4_lay 58 = .ok (.invokevirtual 88, 3) := by decide +kernel
theorem dX4_lay_61 : decode cX4_lay 61 = .ok (.aload_n 0, 1) := by decide +kernel
theorem dX4_lay_62 : decode cX4_lay 62 = .ok (.getfield 23, 3) := by decide +kernel
theorem dX4_lay_65 : decode cX4_lay 65 = .ok (.invokevirtual 91, 3) := by decide +kernel
theorem dX4_lay_68 : decode cX4_lay 68 = .ok (.ireturn, 1) := by decide +kernel
theorem dX4_cord_0 : decode cX4_cord 0 = .ok (.aload_n 0, 1) := by decide +kernel
theorem dX4_cord_1 : decode cX4_cord 1 = .ok (.getfield 23, 3) := by decide +kernel
theorem dX4_cord_4 : decode cX4_cord 4 = .ok (.iload_n 1, 1) := by decide +kernel
theorem dX4_cord_5 : decode cX4_cord 5 = .ok (.invokevirtual 94, 3) := by decide +kernel
theorem dX4_cord_8 : decode cX4_cord 8 = .ok (.ifCond .ne 5, 3) := by decide +kernel
theorem dX4_cord_11 : decode cX4_cord 11 = .ok (.iconst (-1), 1) := by decide +kernel
theorem dX4_cord_12 : decode cX4_cord 12 = .ok (.ireturn, 1) := by decide +kernel
theorem dX4_cord_13 : decode cX4_cord 13 = .ok (.iload_n 2, 1) := by decide +kernel
theorem dX4_cord_14 : decode cX4_cord 14 = .ok (.tableswitch 165 0 10 #[58, 67, 76, 85, 94, 103, 112, 129, 138, 147, 156], 58) := by decide +kernel
theorem dX4_cord_72 : decode cX4_cord 72 = .ok (.aload_n 0, 1) := by decide +kernel
theorem dX4_cord_73 : decode cX4_cord 73 = .ok (.getfield 23, 3) := by decide +kernel
theorem dX4_cord_76 : decode cX4_cord 76 = .ok (.iload_n 1, 1) := by decide +kernel
theorem dX4_cord_77 : decode cX4_cord 77 = .ok (.invokevirtual 98, 3) := by decide +kernel
theorem dX4_cord_80 : decode cX4_cord 80 = .ok (.ireturn, 1) := by decide +kernel
theorem dX4_cord_81 : decode cX4_cord 81 = .ok (.aload_n 0, 1) := by decide +kernel
theorem dX4_cord_82 : decode cX4_cord 82 = .ok (.getfield 23, 3) := by decide +kernel
theorem dX4_cord_85 : decode cX4_cord 85 = .ok (.iload_n 1, 1) := by decide +kernel
theorem dX4_cord_86 : decode cX4_cord 86 = .ok (.invokevirtual 102, 3) := by decide +kernel
theorem dX4_cord_89 : decode cX4_cord 89 = .ok (.ireturn, 1) := by decide +kernel
theorem dX4_cord_90 : decode cX4_cord 90 = .ok (.aload_n 0, 1) := by decide +kernel
theorem dX4_cord_91 : decode cX4_cord 91 = .ok (.getfield 23, 3) := by decide +kernel
theorem dX4_cord_94 : decode cX4_cord 94 = .ok (.iload_n 1, 1) := by decide +kernel
theorem dX4_cord_95 : decode cX4_cord 95 = .ok (.invokevirtual 105, 3) := by decide +kernel
theorem dX4_cord_98 : decode cX4_cord 98 = .ok (.ireturn, 1) := by decide +kernel
theorem dX4_cord_99 : decode cX4_cord 99 = .ok (.aload_n 0, 1) := by decide +kernel
theorem dX4_cord_100 : decode cX4_cord 100 = .ok (.getfield 23, 3) := by decide +kernel
theorem dX4_cord_103 : decode cX4_cord 103 = .ok (.iload_n 1, 1) := by decide +kernel
theorem dX4_cord_104 : decode cX4_cord 104 = .ok (.invokevirtual 108, 3) := by decide +kernel
theorem dX4_cord_107 : decode cX4_cord 107 = .ok (.ireturn, 1) := by decide +kernel
theorem dX4_cord_108 : decode cX4_cord 108 = .ok (.aload_n 0, 1) := by decide +kernel
theorem dX4_cord_109 : decode cX4_cord 109 = .ok (.getfield 23, 3) := by decide +kernel
theorem dX4_cord_112 : decode cX4_cord 112 = .ok (.iload_n 1, 1) := by decide +kernel
theorem dX4_cord_113 : decode cX4_cord 113 = .ok (.invokevirtual 111, 3) := by decide +kernel
theorem dX4_cord_116 : decode cX4_cord 116 = .ok (.ireturn, 1) := by decide +kernel
theorem dX4_cord_117 : decode cX4_cord 117 = .ok (.aload_n 0, 1) := by decide +kernel
theorem dX4_cord_118 : decode cX4_cord 118 = .ok (.getfield 23, 3) := by decide +kernel
theorem dX4_cord_121 : decode cX4_cord 121 = .ok (.iload_n 1, 1) := by decide +kernel
theorem dX4_cord_122 : decode cX4_cord 122 = .ok (.invokevirtual 114, 3) := by decide +kernel
theorem dX4_cord_125 : decode cX4_cord 125 = .ok (.ireturn, 1) := by decide +kernel
theorem dX4_cord_126 : decode cX4_cord 126 = .ok (.aload_n 0, 1) := by decide +kernel
theorem dX4_cord_127 : decode cX4_cord 127 = .ok (.getfield 23, 3) := by decide +kernel
theorem dX4_cord_130 : decode cX4_cord 130 = .ok (.iload_n 1, 1) := by decide +kernel
theorem dX4_cord_131 : decode cX4_cord 131 = .ok (.invokevirtual 117, 3) := by decide +kernel
theorem dX4_cord_134 : decode cX4_cord 134 = .ok (.ifCond .eq 7, 3) := by decide +kernel
theorem dX4_cord_137 : decode cX4_cord 137 = .ok (.iconst 1, 1) := by decide +kernel
theorem dX4_cord_138 : decode cX4_cord 138 = .ok (.goto 4, 3) := by decide +kernel
theorem dX4_cord_141 : decode cX4_cord 141 = .ok (.iconst 0, 1) := by decide +kernel
theorem dX4_cord_142 : decode cX4_cord 142 = .ok (.ireturn, 1) := by decide +kernel
theorem dX4_cord_143 : decode cX4_cord 143 = .ok (.aload_n 0, 1) := by decide +kernel
theorem dX4_cord_144 : decode cX4_cord 144 = .ok (.getfield 23, 3) := by decide +kernel
theorem dX4_cord_147 : decode cX4_cord 147 = .ok (.iload_n 1, 1) := by decide +kernel
theorem dX4_cord_148 : decode cX4_cord 148 = .ok (.invokevirtual 120, 3) := by decide +kernel
theorem dX4_cord_151 : decode cX4_cord 151 = .ok (.ireturn, 1) := by decide +kernel
theorem dX4_cord_152 : decode cX4_cord 152 = .ok (.aload_n 0, 1) := by decide +kernel
theorem dX4_cord_153 : decode cX4_cord 153 = .ok (.getfield 23, 3) := by decide +kernel
theorem dX4_cord_156 : decode cX4_cord 156 = .ok (.iload_n 1, 1) := by decide +kernel
theorem dX4_cord_157 : decode cX4_cord 157 = .ok (.invokevirtual 123, 3) := by decide +kernel
theorem dX4_cord_160 : decode cX4_cord 160 = .ok (.ireturn, 1) := by decide +kernel
theorem dX4_cord_161 : decode cX4_cord 161 = .ok (.aload_n 0, 1) := by decide +kernel
theorem dX4_cord_162 : decode cX4_cord 162 = .ok (.getfield 23, 3) := by decide +kernel
theorem dX4_cord_165 : decode cX4_cord 165 = .ok (.iload_n 1, 1) := by decide +kernel
theorem dX4_cord_166 : decode cX4_cord 166 = .ok (.invokevirtual 126, 3) := by decide +kernel
theorem dX4_cord_169 : decode cX4_cord 169 = .ok (.ireturn, 1) := by decide +kernel
theorem dX4_cord_170 : decode cX4_cord 170 = .ok (.aload_n 0, 1) := by decide +kernel
theorem dX4_cord_171 : decode cX4_cord 171 = .ok (.getfield 23, 3) := by decide +kernel
theorem dX4_cord_174 : decode cX4_cord 174 = .ok (.iload_n 1, 1) := by decide +kernel
theorem dX4_cord_175 : decode cX4_cord 175 = .ok (.invokevirtual 129, 3) := by decide +kernel
theorem dX4_cord_178 : decode cX4_cord 178 = .ok (.ireturn, 1) := by decide +kernel
theorem dX4_cord_179 : decode cX4_cord 179 = .ok (.iconst (-1), 1) := by decide +kernel
theorem dX4_cord_180 : decode cX4_cord 180 = .ok (.ireturn, 1) := by decide +kernel
theorem dX4_cluster_0 : decode cX4_cluster 0 = .ok (.aload_n 0, 1) := by decide +kernel
theorem dX4_cluster_1 : decode cX4_cluster 1 = .ok (.getfield 23, 3) := by decide +kernel
theorem dX4_cluster_4 : decode cX4_cluster 4 = .ok (.iload_n 1, 1) := by decide +kernel
theorem dX4_cluster_5 : decode cX4_cluster 5 = .ok (.iload_n 2, 1) := by decide +kernel
theorem dX4_cluster_6 : decode cX4_cluster 6 = .ok (.invokevirtual 132, 3) := by decide +kernel
theorem dX4_cluster_9 : decode cX4_cluster 9 = .ok (.ifCond .eq 15, 3) := by decide +kernel
theorem dX4_cluster_12 : decode cX4_cluster 12 = .ok (.aload_n 0, 1) := by decide +kernel
theorem dX4_cluster_13 : decode cX4_cluster 13 = .ok (.getfield 23, 3) := by decide +kernel
theorem dX4_cluster_16 : decode cX4_cluster 16 = .ok (.iload_n 1, 1) := by decide +kernel
theorem dX4_cluster_17 : decode cX4_cluster 17 = .ok (.iload_n 2, 1) := by decide +kernel
theorem dX4_cluster_18 : decode cX4_cluster 18 = .ok (.invokevirtual 136, 3) := by decide +kernel
theorem dX4_cluster_21 : decode cX4_cluster 21 = .ok (.goto 4, 3) := by decide +kernel
theorem dX4_cluster_24 : decode cX4_cluster 24 = .ok (.iconst (-1), 1) := by decide +kernel
theorem dX4_cluster_25 : decode cX4_cluster 25 = .ok (.ireturn, 1) := by decide +kernel
theorem dX4_group_0 : decode cX4_group 0 = .ok (.aload_n 0, 1) := by decide +kernel
theorem dX4_group_1 : decode cX4_group 1 = .ok (.getfield 23, 3) := by decide +kernel
theorem dX4_group_4 : decode cX4_group 4 = .ok (.iload_n 1, 1) := by decide +kernel
theorem dX4_group_5 : decode cX4_group 5 = .ok (.invokevirtual 140, 3) := by decide +kernel
theorem dX4_group_8 : decode cX4_group 8 = .ok (.ifCond .ne 5, 3) := by decide +kernel
theorem dX4_group_11 : decode cX4_group 11 = .ok (.iconst (-1), 1) := by decide +kernel
theorem dX4_group_12 : decode cX4_group 12 = .ok (.ireturn, 1) := by decide +kernel
theorem dX4_group_13 : decode cX4_group 13 = .ok (.iload_n 2, 1) := by decide +kernel
theorem dX4_group_14 : decode cX4_group 14 = .ok (.tableswitch 85 0 3 #[30, 39, 48, 57], 30) := by decide +kernel
theorem dX4_group_44 : decode cX4_group 44 = .ok (.aload_n 0, 1) := by decide +kernel
theorem dX4_group_45 : decode cX4_group 45 = .ok (.getfield 23, 3) := by decide +kernel
theorem dX4_group_48 : decode cX4_group 48 = .ok (.iload_n 1, 1) := by decide +kernel
theorem dX4_group_49 : decode cX4_group 49 = .ok (.invokevirtual 143, 3) := by decide +kernel
theorem dX4_group_52 : decode cX4_group 52 = .ok (.ireturn, 1) := by decide +kernel
theorem dX4_group_53 : decode cX4_group 53 = .ok (.aload_n 0, 1) := by decide +kernel
theorem dX4_group_54 : decode cX4_group 54 = .ok (.getfield 23, 3) := by decide +kernel
theorem dX4_group_57 : decode cX4_group 57 = .ok (.iload_n 1, 1) := by decide +kernel
theorem dX4_group_58 : decode cX4_group 58 = .ok (.invokevirtual 146, 3) := by decide +kernel
theorem dX4_group_61 : decode cX4_group 61 = .ok (.ireturn, 1) := by decide +kernel
theorem dX4_group_62 : decode cX4_group 62 = .ok (.aload_n 0, 1) := by decide +kernel
theorem dX4_group_63 : decode cX4_group 63 = .ok (.getfield 23, 3) := by decide +kernel
theorem dX4_group_66 : decode cX4_group 66 = .ok (.iload_n 1, 1) := by decide +kernel
theorem dX4_group_67 : decode cX4_group 67 = .ok (.invokevirtual 149, 3) := by decide +kernel
theorem dX4_group_70 : decode cX4_group 70 = .ok (.ireturn, 1) := by decide +kernel
theorem dX4_group_71 : decode cX4_group 71 = .ok (.aload_n 0, 1) := by decide +kernel
theorem dX4_group_72 : decode cX4_group 72 = .ok (.getfield 23, 3) := by decide +kernel
theorem dX4_group_75 : decode cX4_group 75 = .ok (.iload_n 1, 1) := by decide +kernel
theorem dX4_group_76 : decode cX4_group 76 = .ok (.invokevirtual 152, 3) := by decide +kernel
theorem dX4_group_79 : decode cX4_group 79 = .ok (.ifCond .eq 18, 3) := by decide +kernel
theorem dX4_group_82 : decode cX4_group 82 = .ok (.aload_n 0, 1) := by decide +kernel
theorem dX4_group_83 : decode cX4_group 83 = .ok (.getfield 23, 3) := by decide +kernel
theorem dX4_group_86 : decode cX4_group 86 = .ok (.iload_n 1, 1) := by decide +kernel
theorem dX4_group_87 : decode cX4_group 87 = .ok (.invokevirtual 155, 3) := by decide +kernel
theorem dX4_group_90 : decode cX4_group 90 = .ok (.ifCond .ne 7, 3) := by decide +kernel
theorem dX4_group_93 : decode cX4_group 93 = .ok (.iconst 1, 1) := by decide +kernel
theorem dX4_group_94 : decode cX4_group 94 = .ok (.goto 4, 3) := by decide +kernel
theorem dX4_group_97 : decode cX4_group 97 = .ok (.iconst 0, 1) := by decide +kernel
theorem dX4_group_98 : decode cX4_group 98 = .ok (.ireturn, 1) := by decide +kernel
theorem dX4_group_99 : decode cX4_group 99 = .ok (.iconst (-1), 1) := by decide +kernel
theorem dX4_group_100 : decode cX4_group 100 = .ok (.ireturn, 1) := by decide +kernel
theorem dX4_pendant_0 : decode cX4_pendant 0 = .ok (.aload_n 0, 1) := by decide +kernel
theorem dX4_pendant_1 : decode cX4_pendant 1 = .ok (.getfield 23, 3) := by decide +kernel
theorem dX4_pendant_4 : decode cX4_pendant 4 = .ok (.iload_n 1, 1) := by decide +kernel
theorem dX4_pendant_5 : decode cX4_pendant 5 = .ok (.invokevirtual 140, 3) := by decide +kernel
theorem dX4_pendant_8 : decode cX4_pendant 8 = .ok (.ifCond .eq 19, 3) := by decide +kernel
theorem dX4_pendant_11 : decode cX4_pendant 11 = .ok (.iload_n 2, 1) := by decide +kernel
theorem dX4_pendant_12 : decode cX4_pendant 12 = .ok (.ifCond .lt 15, 3) := by decide +kernel
theorem dX4_pendant_15 : decode cX4_pendant 15 = .ok (.aload_n 0, 1) := by decide +kernel
theorem dX4_pendant_16 : decode cX4_pendant 16 = .ok (.getfield 23, 3) := by decide +kernel
theorem dX4_pendant_19 : decode cX4_pendant 19 = .ok (.iload_n 1, 1) := by decide +kernel
theorem dX4_pendant_20 : decode cX4_pendant 20 = .ok (.iload_n 2, 1) := by decide +kernel
theorem dX4_pendant_21 : decode cX4_pendant 21 = .ok (.invokevirtual 158, 3) := by decide +kernel
theorem dX4_pendant_24 : decode cX4_pendant 24 = .ok (.goto 4, 3) := by decide +kernel
theorem dX4_pendant_27 : decode cX4_pendant 27 = .ok (.iconst (-1), 1) := by decide +kernel
theorem dX4_pendant_28 : decode cX4_pendant 28 = .ok (.ireturn, 1) := by decide +kernel
theorem dX4_tie_0 : decode cX4_tie 0 = .ok (.aload_n 0, 1) := by decide +kernel
theorem dX4_tie_1 : decode cX4_tie 1 = .ok (.getfield 23, 3) := by decide +kernel
theorem dX4_tie_4 : decode cX4_tie 4 = .ok (.iload_n 1, 1) := by decide +kernel
theorem dX4_tie_5 : decode cX4_tie 5 = .ok (.invokevirtual 94, 3) := by decide +kernel
theorem dX4_tie_8 : decode cX4_tie 8 = .ok (.ifCond .eq 7, 3) := by decide +kernel
theorem dX4_tie_11 : decode cX4_tie 11 = .ok (.iload_n 2, 1) := by decide +kernel
theorem dX4_tie_12 : decode cX4_tie 12 = .ok (.ifCond .ge 5, 3) := by decide +kernel
theorem dX4_tie_15 : decode cX4_tie 15 = .ok (.iconst (-1), 1) := by decide +kernel
theorem dX4_tie_16 : decode cX4_tie 16 = .ok (.ireturn, 1) := by decide +kernel
theorem dX4_tie_17 : decode cX4_tie 17 = .ok (.iload_n 2, 1) := by decide +kernel
theorem dX4_tie_18 : decode cX4_tie 18 = .ok (.aload_n 0, 1) := by decide +kernel
theorem dX4_tie_19 : decode cX4_tie 19 = .ok (.getfield 23, 3) := by decide +kernel
theorem dX4_tie_22 : decode cX4_tie 22 = .ok (.iload_n 1, 1) := by decide +kernel
theorem dX4_tie_23 : decode cX4_tie 23 = .ok (.invokevirtual 161, 3) := by decide +kernel
theorem dX4_tie_26 : decode cX4_tie 26 = .ok (.if_icmp .le 6, 3) := by decide +kernel
theorem dX4_tie_29 : decode cX4_tie 29 = .ok (.bipush (-2), 2) := by decide +kernel
theorem dX4_tie_31 : decode cX4_tie 31 = .ok (.ireturn, 1) := by decide +kernel
theorem dX4_tie_32 : decode cX4_tie 32 = .ok (.aload_n 0, 1) := by decide +kernel
theorem dX4_tie_33 : decode cX4_tie 33 = .ok (.getfield 23, 3) := by decide +kernel
theorem dX4_tie_36 : decode cX4_tie 36 = .ok (.iload_n 1, 1) := by decide +kernel
theorem dX4_tie_37 : decode cX4_tie 37 = .ok (.iload_n 2, 1) := by decide +kernel
theorem dX4_tie_38 : decode cX4_tie 38 = .ok (.invokevirtual 164, 3) := by decide +kernel
theorem dX4_tie_41 : decode cX4_tie 41 = .ok (.istore_n 3, 1) := by decide +kernel
theorem dX4_tie_42 : decode cX4_tie 42 = .ok (.aload_n 0, 1) := by decide +kernel
theorem dX4_tie_43 : decode cX4_tie 43 = .ok (.getfield 32, 3) := by decide +kernel
theorem dX4_tie_46 : decode cX4_tie 46 = .ok (.aload_n 0, 1) := by decide +kernel
theorem dX4_tie_47 : decode cX4_tie 47 = .ok (.getfield 23, 3) := by decide +kernel
theorem dX4_tie_50 : decode cX4_tie 50 = .ok (.getfield 78, 3) := by decide +kernel
theorem dX4_tie_53 : decode cX4_tie 53 = .ok (.invokevirtual 167, 3) := by decide +kernel
theorem dX4_tie_56 : decode cX4_tie 56 = .ok (.aload_n 0, 1) := by decide +kernel
theorem dX4_tie_57 : decode cX4_tie 57 = .ok (.getfield 23, 3) := by decide +kernel
theorem dX4_tie_60 : decode cX4_tie 60 = .ok (.iload_n 1, 1) := by decide +kernel
theorem dX4_tie_61 : decode cX4_tie 61 = .ok (.iload_n 2, 1) := by decide +kernel
theorem dX4_tie_62 : decode cX4_tie 62 = .ok (.invokevirtual 170, 3) := by decide +kernel
theorem dX4_tie_65 : decode cX4_tie 65 = .ok (.iload_n 3, 1) := by decide +kernel
theorem dX4_tie_66 : decode cX4_tie 66 = .ok (.ireturn, 1) := by decide +kernel
theorem dX4_more_0 : decode cX4_more 0 = .ok (.aload_n 0, 1) := by decide +kernel
theorem dX4_more_1 : decode cX4_more 1 = .ok (.getfield 23, 3) := by decide +kernel
theorem dX4_more_4 : decode cX4_more 4 = .ok (.iload_n 1, 1) := by decide +kernel
theorem dX4_more_5 : decode cX4_more 5 = .ok (.invokevirtual 94, 3) := by decide +kernel
theorem dX4_more_8 : decode cX4_more 8 = .ok (.ifCond .eq 17, 3) := by decide +kernel
theorem dX4_more_11 : decode cX4_more 11 = .ok (.iload_n 2, 1) := by decide +kernel
theorem dX4_more_12 : decode cX4_more 12 = .ok (.sipush (-9999), 3) := by decide +kernel
theorem dX4_more_15 : decode cX4_more 15 = .ok (.if_icmp .lt 10, 3) := by decide +kernel
theorem dX4_more_18 : decode cX4_more 18 = .ok (.iload_n 2, 1) := by decide +kernel
theorem dX4_more_19 : decode cX4_more 19 = .ok (.sipush 9999, 3) := by decide +kernel
theorem dX4_more_22 : decode cX4_more 22 = .ok (.if_icmp .le 5, 3) := by decide +kernel
theorem dX4_more_25 : decode cX4_more 25 = .ok (.iconst (-1), 1) := by decide +kernel
theorem dX4_more_26 : decode cX4_more 26 = .ok (.ireturn, 1) := by decide +kernel
theorem dX4_more_27 : decode cX4_more 27 = .ok (.aload_n 0, 1) := by decide +kernel
theorem dX4_more_28 : decode cX4_more 28 = .ok (.getfield 23, 3) := by decide +kernel
theorem dX4_more_31 : decode cX4_more 31 = .ok (.iload_n 1, 1) := by decide +kernel
theorem dX4_more_32 : decode cX4_more 32 = .ok (.invokevirtual 120, 3) := by decide +kernel
theorem dX4_more_35 : decode cX4_more 35 = .ok (.istore_n 3, 1) := by decide +kernel
theorem dX4_more_36 : decode cX4_more 36 = .ok (.iload_n 3, 1) := by decide +kernel
theorem dX4_more_37 : decode cX4_more 37 = .ok (.bipush (-4), 2) := by decide +kernel
theorem dX4_more_39 : decode cX4_more 39 = .ok (.if_icmp .eq 23, 3) := by decide +kernel
theorem dX4_more_42 : decode cX4_more 42 = .ok (.iload_n 3, 1) := by decide +kernel
theorem dX4_more_43 : decode cX4_more 43 = .ok (.iload_n 2, 1) := by decide +kernel
theorem dX4_more_44 : decode cX4_more 44 = .ok (.iadd, 1) := by decide +kernel
theorem dX4_more_45 : decode cX4_more 45 = .ok (.ifCond .lt 17, 3) := by decide +kernel
theorem dX4_more_48 : decode cX4_more 48 = .ok (.iload_n 3, 1) := by decide +kernel
theorem dX4_more_49 : decode cX4_more 49 = .ok (.iload_n 2, 1) := by decide +kernel
theorem dX4_more_50 : decode cX4_more 50 = .ok (.iadd, 1) := by decide +kernel
theorem dX4_more_51 : decode cX4_more 51 = .ok (.aload_n 0, 1) := by decide +kernel
theorem dX4_more_52 : decode cX4_more 52 = .ok (.getfield 23, 3) := by decide +kernel
theorem dX4_more_55 : decode cX4_more 55 = .ok (.iload_n 1, 1) := by decide +kernel
theorem dX4_more_56 : decode cX4_more 56 = .ok (.invokevirtual 161, 3) := by decide +kernel
theorem dX4_more_59 : decode cX4_more 59 = .ok (.if_icmp .le 6, 3) := by decide +kernel
theorem dX4_more_62 : decode cX4_more 62 = .ok (.bipush (-2), 2) := by decide +kernel
theorem dX4_more_64 : decode cX4_more 64 = .ok (.ireturn, 1) := by decide +kernel
theorem dX4_more_65 : decode cX4_more 65 = .ok (.aload_n 0, 1) := by decide +kernel
theorem dX4_more_66 : decode cX4_more 66 = .ok (.getfield 32, 3) := by decide +kernel
theorem dX4_more_69 : decode cX4_more 69 = .ok (.aload_n 0, 1) := by decide +kernel
theorem dX4_more_70 : decode cX4_more 70 = .ok (.getfield 23, 3) := by decide +kernel
theorem dX4_more_73 : decode cX4_more 73 = .ok (.getfield 78, 3) := by decide +kernel
theorem dX4_more_76 : decode cX4_more 76 = .ok (.invokevirtual 167, 3) := by decide +kernel
theorem dX4_more_79 : decode cX4_more 79 = .ok (.aload_n 0, 1) := by decide +kernel
theorem dX4_more_80 : decode cX4_more 80 = .ok (.getfield 23, 3) := by decide +kernel
theorem dX4_more_83 : decode cX4_more 83 = .ok (.iload_n 1, 1) := by decide +kernel
theorem dX4_more_84 : decode cX4_more 84 = .ok (.iload_n 3, 1) := by decide +kernel
theorem dX4_more_85 : decode cX4_more 85 = .ok (.iload_n 2, 1) := by decide +kernel
theorem dX4_more_86 : decode cX4_more 86 = .ok (.iadd, 1) := by decide +kernel
theorem dX4_more_87 : decode cX4_more 87 = .ok (.invokevirtual 170, 3) := by decide +kernel
theorem dX4_more_90 : decode cX4_more 90 = .ok (.iload_n 3, 1) := by decide +kernel
theorem dX4_more_91 : decode cX4_more 91 = .ok (.iload_n 2, 1) := by decide +kernel
theorem dX4_more_92 : decode cX4_more 92 = .ok (.iadd, 1) := by decide +kernel
theorem dX4_more_93 : decode cX4_more 93 = .ok (.ireturn, 1) := by decide +kernel
theorem dX4_knot_0 : decode cX4_knot 0 = .ok (.aload_n 0, 1) := by decide +kernel
theorem dX4_knot_1 : decode cX4_knot 1 = .ok (.getfield 23, 3) := by decide +kernel
theorem dX4_knot_4 : decode cX4_knot 4 = .ok (.iload_n 1, 1) := by decide +kernel
theorem dX4_knot_5 : decode cX4_knot 5 = .ok (.iload_n 2, 1) := by decide +kernel
theorem dX4_knot_6 : decode cX4_knot 6 = .ok (.invokevirtual 132, 3) := by decide +kernel
theorem dX4_knot_9 : decode cX4_knot 9 = .ok (.ifCond .eq 12, 3) := by decide +kernel
theorem dX4_knot_12 : decode cX4_knot 12 = .ok (.iload_n 3, 1) := by decide +kernel
theorem dX4_knot_13 : decode cX4_knot 13 = .ok (.iload 4, 2) := by decide +kernel
theorem dX4_knot_15 : decode cX4_knot 15 = .ok (.invokestatic 174, 3) := by decide +kernel
theorem dX4_knot_18 : decode cX4_knot 18 = .ok (.ifCond .ne 5, 3) := by decide +kernel
theorem dX4_knot_21 : decode cX4_knot 21 = .ok (.iconst (-1), 1) := by decide +kernel
theorem dX4_knot_22 : decode cX4_knot 22 = .ok (.ireturn, 1) := by decide +kernel
theorem dX4_knot_23 : decode cX4_knot 23 = .ok (.aload_n 0, 1) := by decide +kernel
theorem dX4_knot_24 : decode cX4_knot 24 = .ok (.getfield 32, 3) := by decide +kernel
theorem dX4_knot_27 : decode cX4_knot 27 = .ok (.aload_n 0, 1) := by decide +kernel
theorem dX4_knot_28 : decode cX4_knot 28 = .ok (.getfield 23, 3) := by decide +kernel
theorem dX4_knot_31 : decode cX4_knot 31 = .ok (.getfield 78, 3) := by decide +kernel
theorem dX4_knot_34 : decode cX4_knot 34 = .ok (.invokevirtual 167, 3) := by decide +kernel
theorem dX4_knot_37 : decode cX4_knot 37 = .ok (.aload_n 0, 1) := by decide +kernel
theorem dX4_knot_38 : decode cX4_knot 38 = .ok (.getfield 23, 3) := by decide +kernel
theorem dX4_knot_41 : decode cX4_knot 41 = .ok (.iload_n 1, 1) := by decide +kernel
theorem dX4_knot_42 : decode cX4_knot 42 = .ok (.iload_n 2, 1) := by decide +kernel
theorem dX4_knot_43 : decode cX4_knot 43 = .ok (.bipush 10, 2) := by decide +kernel
theorem dX4_knot_45 : decode cX4_knot 45 = .ok (.iload_n 3, 1) := by decide +kernel
theorem dX4_knot_46 : decode cX4_knot 46 = .ok (.imul, 1) := by decide +kernel
theorem dX4_knot_47 : decode cX4_knot 47 = .ok (.iload 4, 2) := by decide +kernel
theorem dX4_knot_49 : decode cX4_knot 49 = .ok (.iadd, 1) := by decide +kernel
theorem dX4_knot_50 : decode cX4_knot 50 = .ok (.invokevirtual 177, 3) := by decide +kernel
theorem dX4_knot_53 : decode cX4_knot 53 = .ok (.aload_n 0, 1) := by decide +kernel
theorem dX4_knot_54 : decode cX4_knot 54 = .ok (.getfield 23, 3) := by decide +kernel
theorem dX4_knot_57 : decode cX4_knot 57 = .ok (.iload_n 1, 1) := by decide +kernel
theorem dX4_knot_58 : decode cX4_knot 58 = .ok (.invokevirtual 129, 3) := by decide +kernel
theorem dX4_knot_61 : decode cX4_knot 61 = .ok (.ireturn, 1) := by decide +kernel
theorem dX4_dye_0 : decode cX4_dye 0 = .ok (.aload_n 0, 1) := by decide +kernel
theorem dX4_dye_1 : decode cX4_dye 1 = .ok (.getfield 23, 3) := by decide +kernel
theorem dX4_dye_4 : decode cX4_dye 4 = .ok (.iload_n 1, 1) := by decide +kernel
theorem dX4_dye_5 : decode cX4_dye 5 = .ok (.invokevirtual 94, 3) := by decide +kernel
theorem dX4_dye_8 : decode cX4_dye 8 = .ok (.ifCond .eq 10, 3) := by decide +kernel
theorem dX4_dye_11 : decode cX4_dye 11 = .ok (.iload_n 2, 1) := by decide +kernel
theorem dX4_dye_12 : decode cX4_dye 12 = .ok (.invokestatic 181, 3) := by decide +kernel
theorem dX4_dye_15 : decode cX4_dye 15 = .ok (.ifCond .ne 5, 3) := by decide +kernel
theorem dX4_dye_18 : decode cX4_dye 18 = .ok (.iconst (-1), 1) := by decide +kernel
theorem dX4_dye_19 : decode cX4_dye 19 = .ok (.ireturn, 1) := by decide +kernel
theorem dX4_dye_20 : decode cX4_dye 20 = .ok (.aload_n 0, 1) := by decide +kernel
theorem dX4_dye_21 : decode cX4_dye 21 = .ok (.getfield 23, 3) := by decide +kernel
theorem dX4_dye_24 : decode cX4_dye 24 = .ok (.iload_n 1, 1) := by decide +kernel
theorem dX4_dye_25 : decode cX4_dye 25 = .ok (.invokevirtual 98, 3) := by decide +kernel
theorem dX4_dye_28 : decode cX4_dye 28 = .ok (.istore_n 3, 1) := by decide +kernel
theorem dX4_dye_29 : decode cX4_dye 29 = .ok (.aload_n 0, 1) := by decide +kernel
theorem dX4_dye_30 : decode cX4_dye 30 = .ok (.getfield 32, 3) := by decide +kernel
theorem dX4_dye_33 : decode cX4_dye 33 = .ok (.aload_n 0, 1) := by decide +kernel
theorem dX4_dye_34 : decode cX4_dye 34 = .ok (.getfield 23, 3) := by decide +kernel
theorem dX4_dye_37 : decode cX4_dye 37 = .ok (.getfield 78, 3) := by decide +kernel
theorem dX4_dye_40 : decode cX4_dye 40 = .ok (.invokevirtual 167, 3) := by decide +kernel
theorem dX4_dye_43 : decode cX4_dye 43 = .ok (.aload_n 0, 1) := by decide +kernel
theorem dX4_dye_44 : decode cX4_dye 44 = .ok (.getfield 23, 3) := by decide +kernel
theorem dX4_dye_47 : decode cX4_dye 47 = .ok (.iload_n 1, 1) := by decide +kernel
theorem dX4_dye_48 : decode cX4_dye 48 = .ok (.iload_n 2, 1) := by decide +kernel
theorem dX4_dye_49 : decode cX4_dye 49 = .ok (.invokevirtual 184, 3) := by decide +kernel
theorem dX4_dye_52 : decode cX4_dye 52 = .ok (.iload_n 3, 1) := by decide +kernel
theorem dX4_dye_53 : decode cX4_dye 53 = .ok (.ireturn, 1) := by decide +kernel
theorem dX4_hang_0 : decode cX4_hang 0 = .ok (.aload_n 0, 1) := by decide +kernel
theorem dX4_hang_1 : decode cX4_hang 1 = .ok (.getfield 23, 3) := by decide +kernel
theorem dX4_hang_4 : decode cX4_hang 4 = .ok (.iload_n 1, 1) := by decide +kernel
theorem dX4_hang_5 : decode cX4_hang 5 = .ok (.invokevirtual 94, 3) := by decide +kernel
theorem dX4_hang_8 : decode cX4_hang 8 = .ok (.ifCond .eq 14, 3) := by decide +kernel
theorem dX4_hang_11 : decode cX4_hang 11 = .ok (.aload_n 0, 1) := by decide +kernel
theorem dX4_hang_12 : decode cX4_hang 12 = .ok (.getfield 23, 3) := by decide +kernel
theorem dX4_hang_15 : decode cX4_hang 15 = .ok (.iload_n 2, 1) := by decide +kernel
theorem dX4_hang_16 : decode cX4_hang 16 = .ok (.invokevirtual 140, 3) := by decide +kernel
theorem dX4_hang_19 : decode cX4_hang 19 = .ok (.ifCond .ne 5, 3) := by decide +kernel
theorem dX4_hang_22 : decode cX4_hang 22 = .ok (.iconst (-1), 1) := by decide +kernel
theorem dX4_hang_23 : decode cX4_hang 23 = .ok (.ireturn, 1) := by decide +kernel
theorem dX4_hang_24 : decode cX4_hang 24 = .ok (.aload_n 0, 1) := by decide +kernel
theorem dX4_hang_25 : decode cX4_hang 25 = .ok (.getfield 23, 3) := by decide +kernel
theorem dX4_hang_28 : decode cX4_hang 28 = .ok (.iload_n 1, 1) := by decide +kernel
theorem dX4_hang_29 : decode cX4_hang 29 = .ok (.invokevirtual 108, 3) := by decide +kernel
theorem dX4_hang_32 : decode cX4_hang 32 = .ok (.istore_n 3, 1) := by decide +kernel
theorem dX4_hang_33 : decode cX4_hang 33 = .ok (.aload_n 0, 1) := by decide +kernel
theorem dX4_hang_34 : decode cX4_hang 34 = .ok (.getfield 23, 3) := by decide +kernel
theorem dX4_hang_37 : decode cX4_hang 37 = .ok (.iload_n 1, 1) := by decide +kernel
theorem dX4_hang_38 : decode cX4_hang 38 = .ok (.invokevirtual 187, 3) := by decide +kernel
theorem dX4_hang_41 : decode cX4_hang 41 = .ok (.ifCond .eq 20, 3) := by decide +kernel
theorem dX4_hang_44 : decode cX4_hang 44 = .ok (.iload_n 3, 1) := by decide +kernel
theorem dX4_hang_45 : decode cX4_hang 45 = .ok (.iload_n 2, 1) := by decide +kernel
theorem dX4_hang_46 : decode cX4_hang 46 = .ok (.if_icmp .eq 15, 3) := by decide +kernel
theorem dX4_hang_49 : decode cX4_hang 49 = .ok (.aload_n 0, 1) := by decide +kernel
theorem dX4_hang_50 : decode cX4_hang 50 = .ok (.getfield 23, 3) := by decide +kernel
theorem dX4_hang_53 : decode cX4_hang 53 = .ok (.iload_n 3, 1) := by decide +kernel
theorem dX4_hang_54 : decode cX4_hang 54 = .ok (.invokevirtual 143, 3) := by decide +kernel
theorem dX4_hang_57 : decode cX4_hang 57 = .ok (.iconst 1, 1) := by decide +kernel
theorem dX4_hang_58 : decode cX4_hang 58 = .ok (.if_icmp .gt 6, 3) := by decide +kernel
theorem dX4_hang_61 : decode cX4_hang 61 = .ok (.bipush (-2), 2) := by decide +kernel
theorem dX4_hang_63 : decode cX4_hang 63 = .ok (.ireturn, 1) := by decide +kernel
theorem dX4_hang_64 : decode cX4_hang 64 = .ok (.aload_n 0, 1) := by decide +kernel
theorem dX4_hang_65 : decode cX4_hang 65 = .ok (.getfield 32, 3) := by decide +kernel
theorem dX4_hang_68 : decode cX4_hang 68 = .ok (.aload_n 0, 1) := by decide +kernel
theorem dX4_hang_69 : decode cX4_hang 69 = .ok (.getfield 23, 3) := by decide +kernel
theorem dX4_hang_72 : decode cX4_hang 72 = .ok (.getfield 78, 3) := by decide +kernel
theorem dX4_hang_75 : decode cX4_hang 75 = .ok (.invokevirtual 167, 3) := by decide +kernel
theorem dX4_hang_78 : decode cX4_hang 78 = .ok (.aload_n 0, 1) := by decide +kernel
theorem dX4_hang_79 : decode cX4_hang 79 = .ok (.getfield 23, 3) := by decide +kernel
theorem dX4_hang_82 : decode cX4_hang 82 = .ok (.iload_n 1, 1) := by decide +kernel
theorem dX4_hang_83 : decode cX4_hang 83 = .ok (.iload_n 2, 1) := by decide +kernel
theorem dX4_hang_84 : decode cX4_hang 84 = .ok (.invokevirtual 190, 3) := by decide +kernel
theorem dX4_hang_87 : decode cX4_hang 87 = .ok (.aload_n 0, 1) := by decide +kernel
theorem dX4_hang_88 : decode cX4_hang 88 = .ok (.getfield 23, 3) := by decide +kernel
theorem dX4_hang_91 : decode cX4_hang 91 = .ok (.iload_n 2, 1) := by decide +kernel
theorem dX4_hang_92 : decode cX4_hang 92 = .ok (.invokevirtual 143, 3) := by decide +kernel
theorem dX4_hang_95 : decode cX4_hang 95 = .ok (.ireturn, 1) := by decide +kernel
theorem dX4_undo_0 : decode cX4_undo 0 = .ok (.aload_n 0, 1) := by decide +kernel
theorem dX4_undo_1 : decode cX4_undo 1 = .ok (.getfield 32, 3) := by decide +kernel
theorem dX4_undo_4 : decode cX4_undo 4 = .ok (.getfield 193, 3) := by decide +kernel
theorem dX4_undo_7 : decode cX4_undo 7 = .ok (.ifCond .ne 6, 3) := by decide +kernel
theorem dX4_undo_10 : decode cX4_undo 10 = .ok (.bipush (-2), 2) := by decide +kernel
theorem dX4_undo_12 : decode cX4_undo 12 = .ok (.ireturn, 1) := by decide +kernel
theorem dX4_undo_13 : decode cX4_undo 13 = .ok (.aload_n 0, 1) := by decide +kernel
theorem dX4_undo_14 : decode cX4_undo 14 = .ok (.getfield 32, 3) := by decide +kernel
theorem dX4_undo_17 : decode cX4_undo 17 = .ok (.aload_n 0, 1) := by decide +kernel
theorem dX4_undo_18 : decode cX4_undo 18 = .ok (.getfield 23, 3) := by decide +kernel
theorem dX4_undo_21 : decode cX4_undo 21 = .ok (.getfield 78, 3) := by decide +kernel
theorem dX4_undo_24 : decode cX4_undo 24 = .ok (.invokevirtual 196, 3) := by decide +kernel
theorem dX4_undo_27 : decode cX4_undo 27 = .ok (.aload_n 0, 1) := by decide +kernel
theorem dX4_undo_28 : decode cX4_undo 28 = .ok (.getfield 32, 3) := by decide +kernel
theorem dX4_undo_31 : decode cX4_undo 31 = .ok (.getfield 193, 3) := by decide +kernel
theorem dX4_undo_34 : decode cX4_undo 34 = .ok (.ireturn, 1) := by decide +kernel
theorem dX4_wrong_0 : decode cX4_wrong 0 = .ok (.aload_n 0, 1) := by decide +kernel
theorem dX4_wrong_1 : decode cX4_wrong 1 = .ok (.getfield 23, 3) := by decide +kernel
theorem dX4_wrong_4 : decode cX4_wrong 4 = .ok (.iload_n 1, 1) := by decide +kernel
theorem dX4_wrong_5 : decode cX4_wrong 5 = .ok (.invokevirtual 140, 3) := by decide +kernel
theorem dX4_wrong_8 : decode cX4_wrong 8 = .ok (.ifCond .ne 5, 3) := by decide +kernel
theorem dX4_wrong_11 : decode cX4_wrong 11 = .ok (.iconst (-1), 1) := by decide +kernel
theorem dX4_wrong_12 : decode cX4_wrong 12 = .ok (.ireturn, 1) := by decide +kernel
theorem dX4_wrong_13 : decode cX4_wrong 13 = .ok (.aload_n 0, 1) := by decide +kernel
theorem dX4_wrong_14 : decode cX4_wrong 14 = .ok (.getfield 23, 3) := by decide +kernel
theorem dX4_wrong_17 : decode cX4_wrong 17 = .ok (.iload_n 1, 1) := by decide +kernel
theorem dX4_wrong_18 : decode cX4_wrong 18 = .ok (.invokevirtual 152, 3) := by decide +kernel
theorem dX4_wrong_21 : decode cX4_wrong 21 = .ok (.ifCond .eq 17, 3) := by decide +kernel
theorem dX4_wrong_24 : decode cX4_wrong 24 = .ok (.aload_n 0, 1) := by decide +kernel
theorem dX4_wrong_25 : decode cX4_wrong 25 = .ok (.getfield 23, 3) := by decide +kernel
theorem dX4_wrong_28 : decode cX4_wrong 28 = .ok (.iload_n 1, 1) := by decide +kernel
theorem dX4_wrong_29 : decode cX4_wrong 29 = .ok (.invokevirtual 155, 3) := by decide +kernel
theorem dX4_wrong_32 : decode cX4_wrong 32 = .ok (.ldc 199, 2) := by decide +kernel
theorem dX4_wrong_34 : decode cX4_wrong 34 = .ok (.iadd, 1) := by decide +kernel
theorem dX4_wrong_35 : decode cX4_wrong 35 = .ok (.goto 5, 3) := by decide +kernel
theorem dX4_wrong_38 : decode cX4_wrong 38 = .ok (.bipush (-4), 2) := by decide +kernel
theorem dX4_wrong_40 : decode cX4_wrong 40 = .ok (.ireturn, 1) := by decide +kernel
theorem dX4_mend_0 : decode cX4_mend 0 = .ok (.aload_n 0, 1) := by decide +kernel
theorem dX4_mend_1 : decode cX4_mend 1 = .ok (.getfield 23, 3) := by decide +kernel
theorem dX4_mend_4 : decode cX4_mend 4 = .ok (.iload_n 1, 1) := by decide +kernel
theorem dX4_mend_5 : decode cX4_mend 5 = .ok (.invokevirtual 140, 3) := by decide +kernel
theorem dX4_mend_8 : decode cX4_mend 8 = .ok (.ifCond .ne 5, 3) := by decide +kernel
theorem dX4_mend_11 : decode cX4_mend 11 = .ok (.iconst (-1), 1) := by decide +kernel
theorem dX4_mend_12 : decode cX4_mend 12 = .ok (.ireturn, 1) := by decide +kernel
theorem dX4_mend_13 : decode cX4_mend 13 = .ok (.aload_n 0, 1) := by decide +kernel
theorem dX4_mend_14 : decode cX4_mend 14 = .ok (.getfield 23, 3) := by decide +kernel
theorem dX4_mend_17 : decode cX4_mend 17 = .ok (.iload_n 1, 1) := by decide +kernel
theorem dX4_mend_18 : decode cX4_mend 18 = .ok (.invokevirtual 152, 3) := by decide +kernel
theorem dX4_mend_21 : decode cX4_mend 21 = .ok (.ifCond .ne 6, 3) := by decide +kernel
theorem dX4_mend_24 : decode cX4_mend 24 = .ok (.bipush (-4), 2) := by decide +kernel
theorem dX4_mend_26 : decode cX4_mend 26 = .ok (.ireturn, 1) := by decide +kernel
theorem dX4_mend_27 : decode cX4_mend 27 = .ok (.aload_n 0, 1) := by decide +kernel
theorem dX4_mend_28 : decode cX4_mend 28 = .ok (.iload_n 1, 1) := by decide +kernel
theorem dX4_mend_29 : decode cX4_mend 29 = .ok (.invokevirtual 200, 3) := by decide +kernel
theorem dX4_mend_32 : decode cX4_mend 32 = .ok (.aload_n 0, 1) := by decide +kernel
theorem dX4_mend_33 : decode cX4_mend 33 = .ok (.getfield 46, 3) := by decide +kernel
theorem dX4_mend_36 : decode cX4_mend 36 = .ok (.aload_n 0, 1) := by decide +kernel
theorem dX4_mend_37 : decode cX4_mend 37 = .ok (.getfield 50, 3) := by decide +kernel
theorem dX4_mend_40 : decode cX4_mend 40 = .ok (.iconst 0, 1) := by decide +kernel
theorem dX4_mend_41 : decode cX4_mend 41 = .ok (.aload_n 0, 1) := by decide +kernel
theorem dX4_mend_42 : decode cX4_mend 42 = .ok (.getfield 23, 3) := by decide +kernel
theorem dX4_mend_45 : decode cX4_mend 45 = .ok (.iload_n 1, 1) := by decide +kernel
theorem dX4_mend_46 : decode cX4_mend 46 = .ok (.invokevirtual 155, 3) := by decide +kernel
theorem dX4_mend_49 : decode cX4_mend 49 = .ok (.ineg, 1) := by decide +kernel
theorem dX4_mend_50 : decode cX4_mend 50 = .ok (.invokestatic 203, 3) := by decide +kernel
theorem dX4_mend_53 : decode cX4_mend 53 = .ok (.ireturn, 1) := by decide +kernel
theorem dX4_slip_0 : decode cX4_slip 0 = .ok (.aload_n 0, 1) := by decide +kernel
theorem dX4_slip_1 : decode cX4_slip 1 = .ok (.getfield 23, 3) := by decide +kernel
theorem dX4_slip_4 : decode cX4_slip 4 = .ok (.iload_n 1, 1) := by decide +kernel
theorem dX4_slip_5 : decode cX4_slip 5 = .ok (.invokevirtual 140, 3) := by decide +kernel
theorem dX4_slip_8 : decode cX4_slip 8 = .ok (.ifCond .eq 12, 3) := by decide +kernel
theorem dX4_slip_11 : decode cX4_slip 11 = .ok (.iload_n 2, 1) := by decide +kernel
theorem dX4_slip_12 : decode cX4_slip 12 = .ok (.ifCond .lt 8, 3) := by decide +kernel
theorem dX4_slip_15 : decode cX4_slip 15 = .ok (.iload_n 2, 1) := by decide +kernel
theorem dX4_slip_16 : decode cX4_slip 16 = .ok (.iconst 1, 1) := by decide +kernel
theorem dX4_slip_17 : decode cX4_slip 17 = .ok (.if_icmp .le 5, 3) := by decide +kernel
theorem dX4_slip_20 : decode cX4_slip 20 = .ok (.iconst (-1), 1) := by decide +kernel
theorem dX4_slip_21 : decode cX4_slip 21 = .ok (.ireturn, 1) := by decide +kernel
theorem dX4_slip_22 : decode cX4_slip 22 = .ok (.iconst 0, 1) := by decide +kernel
theorem dX4_slip_23 : decode cX4_slip 23 = .ok (.istore_n 3, 1) := by decide +kernel
theorem dX4_slip_24 : decode cX4_slip 24 = .ok (.bipush (-4), 2) := by decide +kernel
theorem dX4_slip_26 : decode cX4_slip 26 = .ok (.istore 4, 2) := by decide +kernel
theorem dX4_slip_28 : decode cX4_slip 28 = .ok (.aload_n 0, 1) := by decide +kernel
theorem dX4_slip_29 : decode cX4_slip 29 = .ok (.getfield 23, 3) := by decide +kernel
theorem dX4_slip_32 : decode cX4_slip 32 = .ok (.iload_n 1, 1) := by decide +kernel
theorem dX4_slip_33 : decode cX4_slip 33 = .ok (.invokevirtual 152, 3) := by decide +kernel
theorem dX4_slip_36 : decode cX4_slip 36 = .ok (.ifCond .eq 125, 3) := by decide +kernel
theorem dX4_slip_39 : decode cX4_slip 39 = .ok (.aload_n 0, 1) := by decide +kernel
theorem dX4_slip_40 : decode cX4_slip 40 = .ok (.getfield 23, 3) := by decide +kernel
theorem dX4_slip_43 : decode cX4_slip 43 = .ok (.iload_n 1, 1) := by decide +kernel
theorem dX4_slip_44 : decode cX4_slip 44 = .ok (.invokevirtual 155, 3) := by decide +kernel
theorem dX4_slip_47 : decode cX4_slip 47 = .ok (.istore 5, 2) := by decide +kernel
theorem dX4_slip_49 : decode cX4_slip 49 = .ok (.iconst 0, 1) := by decide +kernel
theorem dX4_slip_50 : decode cX4_slip 50 = .ok (.istore 6, 2) := by decide +kernel
theorem dX4_slip_52 : decode cX4_slip 52 = .ok (.iload 6, 2) := by decide +kernel
theorem dX4_slip_54 : decode cX4_slip 54 = .ok (.aload_n 0, 1) := by decide +kernel
theorem dX4_slip_55 : decode cX4_slip 55 = .ok (.getfield 23, 3) := by decide +kernel
theorem dX4_slip_58 : decode cX4_slip 58 = .ok (.invokevirtual 91, 3) := by decide +kernel
theorem dX4_slip_61 : decode cX4_slip 61 = .ok (.if_icmp .ge 100, 3) := by decide +kernel
theorem dX4_slip_64 : decode cX4_slip 64 = .ok (.iconst 0, 1) := by decide +kernel
theorem dX4_slip_65 : decode cX4_slip 65 = .ok (.istore 7, 2) := by decide +kernel
theorem dX4_slip_67 : decode cX4_slip 67 = .ok (.iload 7, 2) := by decide +kernel
theorem dX4_slip_69 : decode cX4_slip 69 = .ok (.aload_n 0, 1) := by decide +kernel
theorem dX4_slip_70 : decode cX4_slip 70 = .ok (.getfield 23, 3) := by decide +kernel
theorem dX4_slip_73 : decode cX4_slip 73 = .ok (.iload 6, 2) := by decide +kernel
theorem dX4_slip_75 : decode cX4_slip 75 = .ok (.invokevirtual 102, 3) := by decide +kernel
theorem dX4_slip_78 : decode cX4_slip 78 = .ok (.if_icmp .ge 77, 3) := by decide +kernel
theorem dX4_slip_81 : decode cX4_slip 81 = .ok (.aload_n 0, 1) := by decide +kernel
theorem dX4_slip_82 : decode cX4_slip 82 = .ok (.getfield 23, 3) := by decide +kernel
theorem dX4_slip_85 : decode cX4_slip 85 = .ok (.iload 6, 2) := by decide +kernel
theorem dX4_slip_87 : decode cX4_slip 87 = .ok (.iload_n 1, 1) := by decide +kernel
theorem dX4_slip_88 : decode cX4_slip 88 = .ok (.invokevirtual 207, 3) := by decide +kernel
theorem dX4_slip_91 : decode cX4_slip 91 = .ok (.ifCond .eq 16, 3) := by decide +kernel
theorem dX4_slip_94 : decode cX4_slip 94 = .ok (.aload_n 0, 1) := by decide +kernel
theorem dX4_slip_95 : decode cX4_slip 95 = .ok (.iload 6, 2) := by decide +kernel
theorem dX4_slip_97 : decode cX4_slip 97 = .ok (.iload 7, 2) := by decide +kernel
theorem dX4_slip_99 : decode cX4_slip 99 = .ok (.iload 5, 2) := by decide +kernel
theorem dX4_slip_101 : decode cX4_slip 101 = .ok (.invokevirtual 210, 3) := by decide +kernel
theorem dX4_slip_104 : decode cX4_slip 104 = .ok (.goto 5, 3) := by decide +kernel
theorem dX4_slip_107 : decode cX4_slip 107 = .ok (.bipush (-4), 2) := by decide +kernel
theorem dX4_slip_109 : decode cX4_slip 109 = .ok (.istore 8, 2) := by decide +kernel
theorem dX4_slip_111 : decode cX4_slip 111 = .ok (.iload 8, 2) := by decide +kernel
theorem dX4_slip_113 : decode cX4_slip 113 = .ok (.bipush (-4), 2) := by decide +kernel
theorem dX4_slip_115 : decode cX4_slip 115 = .ok (.if_icmp .eq 34, 3) := by decide +kernel
theorem dX4_slip_118 : decode cX4_slip 118 = .ok (.iinc 3 1, 3) := by decide +kernel
theorem dX4_slip_121 : decode cX4_slip 121 = .ok (.iload 4, 2) := by decide +kernel
theorem dX4_slip_123 : decode cX4_slip 123 = .ok (.bipush (-4), 2) := by decide +kernel
theorem dX4_slip_125 : decode cX4_slip 125 = .ok (.if_icmp .ne 20, 3) := by decide +kernel
theorem dX4_slip_128 : decode cX4_slip 128 = .ok (.bipush 100, 2) := by decide +kernel
theorem dX4_slip_130 : decode cX4_slip 130 = .ok (.iload 6, 2) := by decide +kernel
theorem dX4_slip_132 : decode cX4_slip 132 = .ok (.imul, 1) := by decide +kernel
theorem dX4_slip_133 : decode cX4_slip 133 = .ok (.bipush 10, 2) := by decide +kernel
theorem dX4_slip_135 : decode cX4_slip 135 = .ok (.iload 7, 2) := by decide +kernel
theorem dX4_slip_137 : decode cX4_slip 137 = .ok (.imul, 1) := by decide +kernel
theorem dX4_slip_138 : decode cX4_slip 138 = .ok (.iadd, 1) := by decide +kernel
theorem dX4_slip_139 : decode cX4_slip 139 = .ok (.iload 8, 2) := by decide +kernel
theorem dX4_slip_141 : decode cX4_slip 141 = .ok (.iadd, 1) := by decide +kernel
theorem dX4_slip_142 : decode cX4_slip 142 = .ok (.goto 5, 3) := by decide +kernel
theorem dX4_slip_145 : decode cX4_slip 145 = .ok (.iload 4, 2) := by decide +kernel
theorem dX4_slip_147 : decode cX4_slip 147 = .ok (.istore 4, 2) := by decide +kernel
theorem dX4_slip_149 : decode cX4_slip 149 = .ok (.iinc 7 1, 3) := by decide +kernel
theorem dX4_slip_152 : decode cX4_slip 152 = .ok (.goto (-85), 3) := by decide +kernel
theorem dX4_slip_155 : decode cX4_slip 155 = .ok (.iinc 6 1, 3) := by decide +kernel
theorem dX4_slip_158 : decode cX4_slip 158 = .ok (.goto (-106), 3) := by decide +kernel
theorem dX4_slip_161 : decode cX4_slip 161 = .ok (.iload_n 2, 1) := by decide +kernel
theorem dX4_slip_162 : decode cX4_slip 162 = .ok (.ifCond .ne 7, 3) := by decide +kernel
theorem dX4_slip_165 : decode cX4_slip 165 = .ok (.iload_n 3, 1) := by decide +kernel
theorem dX4_slip_166 : decode cX4_slip 166 = .ok (.goto 5, 3) := by decide +kernel
theorem dX4_slip_169 : decode cX4_slip 169 = .ok (.iload 4, 2) := by decide +kernel
theorem dX4_slip_171 : decode cX4_slip 171 = .ok (.ireturn, 1) := by decide +kernel
theorem dX4_lost_0 : decode cX4_lost 0 = .ok (.aload_n 0, 1) := by decide +kernel
theorem dX4_lost_1 : decode cX4_lost 1 = .ok (.getfield 23, 3) := by decide +kernel
theorem dX4_lost_4 : decode cX4_lost 4 = .ok (.iload_n 1, 1) := by decide +kernel
theorem dX4_lost_5 : decode cX4_lost 5 = .ok (.invokevirtual 94, 3) := by decide +kernel
theorem dX4_lost_8 : decode cX4_lost 8 = .ok (.ifCond .ne 5, 3) := by decide +kernel
theorem dX4_lost_11 : decode cX4_lost 11 = .ok (.iconst (-1), 1) := by decide +kernel
theorem dX4_lost_12 : decode cX4_lost 12 = .ok (.ireturn, 1) := by decide +kernel
theorem dX4_lost_13 : decode cX4_lost 13 = .ok (.aload_n 0, 1) := by decide +kernel
theorem dX4_lost_14 : decode cX4_lost 14 = .ok (.getfield 23, 3) := by decide +kernel
theorem dX4_lost_17 : decode cX4_lost 17 = .ok (.iload_n 1, 1) := by decide +kernel
theorem dX4_lost_18 : decode cX4_lost 18 = .ok (.invokevirtual 187, 3) := by decide +kernel
theorem dX4_lost_21 : decode cX4_lost 21 = .ok (.ifCond .ne 6, 3) := by decide +kernel
theorem dX4_lost_24 : decode cX4_lost 24 = .ok (.bipush (-2), 2) := by decide +kernel
theorem dX4_lost_26 : decode cX4_lost 26 = .ok (.ireturn, 1) := by decide +kernel
theorem dX4_lost_27 : decode cX4_lost 27 = .ok (.aload_n 0, 1) := by decide +kernel
theorem dX4_lost_28 : decode cX4_lost 28 = .ok (.getfield 23, 3) := by decide +kernel
theorem dX4_lost_31 : decode cX4_lost 31 = .ok (.iload_n 1, 1) := by decide +kernel
theorem dX4_lost_32 : decode cX4_lost 32 = .ok (.invokevirtual 108, 3) := by decide +kernel
theorem dX4_lost_35 : decode cX4_lost 35 = .ok (.istore_n 2, 1) := by decide +kernel
theorem dX4_lost_36 : decode cX4_lost 36 = .ok (.aload_n 0, 1) := by decide +kernel
theorem dX4_lost_37 : decode cX4_lost 37 = .ok (.getfield 23, 3) := by decide +kernel
theorem dX4_lost_40 : decode cX4_lost 40 = .ok (.iload_n 2, 1) := by decide +kernel
theorem dX4_lost_41 : decode cX4_lost 41 = .ok (.invokevirtual 146, 3) := by decide +kernel
theorem dX4_lost_44 : decode cX4_lost 44 = .ok (.bipush (-4), 2) := by decide +kernel
theorem dX4_lost_46 : decode cX4_lost 46 = .ok (.if_icmp .ne 8, 3) := by decide +kernel
theorem dX4_lost_49 : decode cX4_lost 49 = .ok (.bipush (-4), 2) := by decide +kernel
theorem dX4_lost_51 : decode cX4_lost 51 = .ok (.goto 18, 3) := by decide +kernel
theorem dX4_lost_54 : decode cX4_lost 54 = .ok (.aload_n 0, 1) := by decide +kernel
theorem dX4_lost_55 : decode cX4_lost 55 = .ok (.getfield 23, 3) := by decide +kernel
theorem dX4_lost_58 : decode cX4_lost 58 = .ok (.aload_n 0, 1) := by decide +kernel
theorem dX4_lost_59 : decode cX4_lost 59 = .ok (.getfield 23, 3) := by decide +kernel
theorem dX4_lost_62 : decode cX4_lost 62 = .ok (.iload_n 2, 1) := by decide +kernel
theorem dX4_lost_63 : decode cX4_lost 63 = .ok (.invokevirtual 146, 3) := by decide +kernel
theorem dX4_lost_66 : decode cX4_lost 66 = .ok (.invokevirtual 123, 3) := by decide +kernel
theorem dX4_lost_69 : decode cX4_lost 69 = .ok (.istore_n 3, 1) := by decide +kernel
theorem dX4_lost_70 : decode cX4_lost 70 = .ok (.iload_n 3, 1) := by decide +kernel
theorem dX4_lost_71 : decode cX4_lost 71 = .ok (.bipush (-4), 2) := by decide +kernel
theorem dX4_lost_73 : decode cX4_lost 73 = .ok (.if_icmp .ne 6, 3) := by decide +kernel
theorem dX4_lost_76 : decode cX4_lost 76 = .ok (.bipush (-4), 2) := by decide +kernel
theorem dX4_lost_78 : decode cX4_lost 78 = .ok (.ireturn, 1) := by decide +kernel
theorem dX4_lost_79 : decode cX4_lost 79 = .ok (.iconst 0, 1) := by decide +kernel
theorem dX4_lost_80 : decode cX4_lost 80 = .ok (.istore 4, 2) := by decide +kernel
theorem dX4_lost_82 : decode cX4_lost 82 = .ok (.iload 4, 2) := by decide +kernel
theorem dX4_lost_84 : decode cX4_lost 84 = .ok (.aload_n 0, 1) := by decide +kernel
theorem dX4_lost_85 : decode cX4_lost 85 = .ok (.getfield 23, 3) := by decide +kernel
theorem dX4_lost_88 : decode cX4_lost 88 = .ok (.invokevirtual 91, 3) := by decide +kernel
theorem dX4_lost_91 : decode cX4_lost 91 = .ok (.if_icmp .ge 85, 3) := by decide +kernel
theorem dX4_lost_94 : decode cX4_lost 94 = .ok (.aload_n 0, 1) := by decide +kernel
theorem dX4_lost_95 : decode cX4_lost 95 = .ok (.getfield 23, 3) := by decide +kernel
theorem dX4_lost_98 : decode cX4_lost 98 = .ok (.aload_n 0, 1) := by decide +kernel
theorem dX4_lost_99 : decode cX4_lost 99 = .ok (.getfield 23, 3) := by decide +kernel
theorem dX4_lost_102 : decode cX4_lost 102 = .ok (.iload 4, 2) := by decide +kernel
theorem dX4_lost_104 : decode cX4_lost 104 = .ok (.invokevirtual 214, 3) := by decide +kernel
theorem dX4_lost_107 : decode cX4_lost 107 = .ok (.invokevirtual 187, 3) := by decide +kernel
theorem dX4_lost_110 : decode cX4_lost 110 = .ok (.ifCond .eq 20, 3) := by decide +kernel
theorem dX4_lost_113 : decode cX4_lost 113 = .ok (.aload_n 0, 1) := by decide +kernel
theorem dX4_lost_114 : decode cX4_lost 114 = .ok (.getfield 23, 3) := by decide +kernel
theorem dX4_lost_117 : decode cX4_lost 117 = .ok (.iload 4, 2) := by decide +kernel
theorem dX4_lost_119 : decode cX4_lost 119 = .ok (.invokevirtual 108, 3) := by decide +kernel
theorem dX4_lost_122 : decode cX4_lost 122 = .ok (.iload_n 2, 1) := by decide +kernel
theorem dX4_lost_123 : decode cX4_lost 123 = .ok (.if_icmp .ne 7, 3) := by decide +kernel
theorem dX4_lost_126 : decode cX4_lost 126 = .ok (.iconst 1, 1) := by decide +kernel
theorem dX4_lost_127 : decode cX4_lost 127 = .ok (.goto 4, 3) := by decide +kernel
theorem dX4_lost_130 : decode cX4_lost 130 = .ok (.iconst 0, 1) := by decide +kernel
theorem dX4_lost_131 : decode cX4_lost 131 = .ok (.istore 5, 2) := by decide +kernel
theorem dX4_lost_133 : decode cX4_lost 133 = .ok (.iload 5, 2) := by decide +kernel
theorem dX4_lost_135 : decode cX4_lost 135 = .ok (.ifCond .eq 35, 3) := by decide +kernel
theorem dX4_lost_138 : decode cX4_lost 138 = .ok (.iload 4, 2) := by decide +kernel
theorem dX4_lost_140 : decode cX4_lost 140 = .ok (.iload_n 1, 1) := by decide +kernel
theorem dX4_lost_141 : decode cX4_lost 141 = .ok (.if_icmp .eq 29, 3) := by decide +kernel
theorem dX4_lost_144 : decode cX4_lost 144 = .ok (.aload_n 0, 1) := by decide +kernel
theorem dX4_lost_145 : decode cX4_lost 145 = .ok (.getfield 23, 3) := by decide +kernel
theorem dX4_lost_148 : decode cX4_lost 148 = .ok (.iload 4, 2) := by decide +kernel
theorem dX4_lost_150 : decode cX4_lost 150 = .ok (.invokevirtual 120, 3) := by decide +kernel
theorem dX4_lost_153 : decode cX4_lost 153 = .ok (.istore 6, 2) := by decide +kernel
theorem dX4_lost_155 : decode cX4_lost 155 = .ok (.iload 6, 2) := by decide +kernel
theorem dX4_lost_157 : decode cX4_lost 157 = .ok (.bipush (-4), 2) := by decide +kernel
theorem dX4_lost_159 : decode cX4_lost 159 = .ok (.if_icmp .ne 6, 3) := by decide +kernel
theorem dX4_lost_162 : decode cX4_lost 162 = .ok (.bipush (-4), 2) := by decide +kernel
theorem dX4_lost_164 : decode cX4_lost 164 = .ok (.ireturn, 1) := by decide +kernel
theorem dX4_lost_165 : decode cX4_lost 165 = .ok (.iload_n 3, 1) := by decide +kernel
theorem dX4_lost_166 : decode cX4_lost 166 = .ok (.iload 6, 2) := by decide +kernel
theorem dX4_lost_168 : decode cX4_lost 168 = .ok (.isub, 1) := by decide +kernel
theorem dX4_lost_169 : decode cX4_lost 169 = .ok (.istore_n 3, 1) := by decide +kernel
theorem dX4_lost_170 : decode cX4_lost 170 = .ok (.iinc 4 1, 3) := by decide +kernel
theorem dX4_lost_173 : decode cX4_lost 173 = .ok (.goto (-91), 3) := by decide +kernel
theorem dX4_lost_176 : decode cX4_lost 176 = .ok (.iload_n 3, 1) := by decide +kernel
theorem dX4_lost_177 : decode cX4_lost 177 = .ok (.ifCond .lt 14, 3) := by decide +kernel
theorem dX4_lost_180 : decode cX4_lost 180 = .ok (.iload_n 3, 1) := by decide +kernel
theorem dX4_lost_181 : decode cX4_lost 181 = .ok (.sipush 9999, 3) := by decide +kernel
theorem dX4_lost_184 : decode cX4_lost 184 = .ok (.if_icmp .gt 7, 3) := by decide +kernel
theorem dX4_lost_187 : decode cX4_lost 187 = .ok (.iload_n 3, 1) := by decide +kernel
theorem dX4_lost_188 : decode cX4_lost 188 = .ok (.goto 5, 3) := by decide +kernel
theorem dX4_lost_191 : decode cX4_lost 191 = .ok (.bipush (-4), 2) := by decide +kernel
theorem dX4_lost_193 : decode cX4_lost 193 = .ok (.ireturn, 1) := by decide +kernel
theorem dX4_closed_0 : decode cX4_closed 0 = .ok (.aload_n 0, 1) := by decide +kernel
theorem dX4_closed_1 : decode cX4_closed 1 = .ok (.getfield 23, 3) := by decide +kernel
theorem dX4_closed_4 : decode cX4_closed 4 = .ok (.iload_n 1, 1) := by decide +kernel
theorem dX4_closed_5 : decode cX4_closed 5 = .ok (.invokevirtual 94, 3) := by decide +kernel
theorem dX4_closed_8 : decode cX4_closed 8 = .ok (.ifCond .eq 23, 3) := by decide +kernel
theorem dX4_closed_11 : decode cX4_closed 11 = .ok (.iload_n 2, 1) := by decide +kernel
theorem dX4_closed_12 : decode cX4_closed 12 = .ok (.iconst 1, 1) := by decide +kernel
theorem dX4_closed_13 : decode cX4_closed 13 = .ok (.if_icmp .lt 18, 3) := by decide +kernel
theorem dX4_closed_16 : decode cX4_closed 16 = .ok (.iload_n 2, 1) := by decide +kernel
theorem dX4_closed_17 : decode cX4_closed 17 = .ok (.bipush 6, 2) := by decide +kernel
theorem dX4_closed_19 : decode cX4_closed 19 = .ok (.if_icmp .gt 12, 3) := by decide +kernel
theorem dX4_closed_22 : decode cX4_closed 22 = .ok (.iload_n 3, 1) := by decide +kernel
theorem dX4_closed_23 : decode cX4_closed 23 = .ok (.ifCond .lt 8, 3) := by decide +kernel
theorem dX4_closed_26 : decode cX4_closed 26 = .ok (.iload_n 3, 1) := by decide +kernel
theorem dX4_closed_27 : decode cX4_closed 27 = .ok (.iconst 1, 1) := by decide +kernel
theorem dX4_closed_28 : decode cX4_closed 28 = .ok (.if_icmp .le 5, 3) := by decide +kernel
theorem dX4_closed_31 : decode cX4_closed 31 = .ok (.iconst (-1), 1) := by decide +kernel
theorem dX4_closed_32 : decode cX4_closed 32 = .ok (.ireturn, 1) := by decide +kernel
theorem dX4_closed_33 : decode cX4_closed 33 = .ok (.iconst 0, 1) := by decide +kernel
theorem dX4_closed_34 : decode cX4_closed 34 = .ok (.istore 4, 2) := by decide +kernel
theorem dX4_closed_36 : decode cX4_closed 36 = .ok (.iconst 0, 1) := by decide +kernel
theorem dX4_closed_37 : decode cX4_closed 37 = .ok (.istore 5, 2) := by decide +kernel
theorem dX4_closed_39 : decode cX4_closed 39 = .ok (.iconst 1, 1) := by decide +kernel
theorem dX4_closed_40 : decode cX4_closed 40 = .ok (.istore 6, 2) := by decide +kernel
theorem dX4_closed_42 : decode cX4_closed 42 = .ok (.iconst 0, 1) := by decide +kernel
theorem dX4_closed_43 : decode cX4_closed 43 = .ok (.istore 7, 2) := by decide +kernel
theorem dX4_closed_45 : decode cX4_closed 45 = .ok (.iload 7, 2) := by decide +kernel
theorem dX4_closed_47 : decode cX4_closed 47 = .ok (.aload_n 0, 1) := by decide +kernel
theorem dX4_closed_48 : decode cX4_closed 48 = .ok (.getfield 23, 3) := by decide +kernel
