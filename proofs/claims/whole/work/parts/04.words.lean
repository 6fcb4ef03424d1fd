theorem fl_X1_29 : Cond.fieldLink RX1 29 "ToldInKnots$Reader" "depth" "I" ∈ TBL := tbl_in (List.mem_of_getElem? (i := 103) (by decide +kernel)) rfl
theorem fl_X1_25 : Cond.fieldLink RX1 25 "ToldInKnots$Reader" "state" "I" ∈ TBL := tbl_in (List.mem_of_getElem? (i := 102) (by decide +kernel)) rfl
theorem fl_X2_27 : Cond.fieldLink RX2 27 "ToldInKnots$Sets" "members" "I" ∈ TBL := tbl_in (List.mem_of_getElem? (i := 149) (by decide +kernel)) rfl
theorem fl_X3_25 : Cond.fieldLink RX3 25 "ToldInKnots$Shelf" "used" "I" ∈ TBL := tbl_in (List.mem_of_getElem? (i := 129) (by decide +kernel)) rfl
theorem fl_X4_85 : Cond.fieldLink RX4 85 "ToldInKnots" "length" "I" ∈ TBL := tbl_in (List.mem_of_getElem? (i := 317) (by decide +kernel)) rfl
theorem fl_X4_9 : Cond.fieldLink RX4 9 "ToldInKnots" "letters" "[C" ∈ TBL := tbl_in (List.mem_of_getElem? (i := 316) (by decide +kernel)) rfl
theorem cl_X4_296 : Cond.constantLong RX4 296 7919 ∈ TBL := tbl_in (List.mem_of_getElem? (i := 728) (by decide +kernel)) rfl
theorem cl_X4_298 : Cond.constantLong RX4 298 6151 ∈ TBL := tbl_in (List.mem_of_getElem? (i := 729) (by decide +kernel)) rfl
theorem cl_X4_300 : Cond.constantLong RX4 300 65521 ∈ TBL := tbl_in (List.mem_of_getElem? (i := 730) (by decide +kernel)) rfl
theorem cl_X4_302 : Cond.constantLong RX4 302 8 ∈ TBL := tbl_in (List.mem_of_getElem? (i := 731) (by decide +kernel)) rfl
theorem cl_X4_304 : Cond.constantLong RX4 304 21 ∈ TBL := tbl_in (List.mem_of_getElem? (i := 732) (by decide +kernel)) rfl
theorem fl_X4_311 : Cond.fieldLink RX4 311 "ToldInKnots" "TENS" "[I" ∈ TBL := tbl_in (List.mem_of_getElem? (i := 428) (by decide +kernel)) rfl
theorem fl_X5_22 : Cond.fieldLink RX5 22 "ToldInKnotsModel" "read" "[I" ∈ TBL := tbl_in (List.mem_of_getElem? (i := 790) (by decide +kernel)) rfl
theorem fl_X5_62 : Cond.fieldLink RX5 62 "ToldInKnotsModel" "size" "I" ∈ TBL := tbl_in (List.mem_of_getElem? (i := 789) (by decide +kernel)) rfl
theorem fl_X5_66 : Cond.fieldLink RX5 66 "ToldInKnotsModel" "state" "I" ∈ TBL := tbl_in (List.mem_of_getElem? (i := 791) (by decide +kernel)) rfl
theorem fl_X5_7 : Cond.fieldLink RX5 7 "ToldInKnotsModel" "now" "[I" ∈ TBL := tbl_in (List.mem_of_getElem? (i := 783) (by decide +kernel)) rfl
theorem fl_X5_37 : Cond.fieldLink RX5 37 "ToldInKnotsModel" "row" "[I" ∈ TBL := tbl_in (List.mem_of_getElem? (i := 798) (by decide +kernel)) rfl
theorem ct_J6_265 : Cond.constant RJ6 265 1431655765 ∈ TBL := tbl_in (List.mem_of_getElem? (i := 627) (by decide +kernel)) rfl
theorem ct_J6_266 : Cond.constant RJ6 266 858993459 ∈ TBL := tbl_in (List.mem_of_getElem? (i := 628) (by decide +kernel)) rfl
theorem ct_J6_267 : Cond.constant RJ6 267 252645135 ∈ TBL := tbl_in (List.mem_of_getElem? (i := 629) (by decide +kernel)) rfl
theorem fl_X2_11 : Cond.fieldLink RX2 11 "ToldInKnots$Sets" "member" "[I" ∈ TBL := tbl_in (List.mem_of_getElem? (i := 144) (by decide +kernel)) rfl
theorem st_X4_put : Cond.static yX4_put ∈ TBL := tbl_in (List.mem_of_getElem? (i := 260) (by decide +kernel)) rfl
theorem fl_X2_15 : Cond.fieldLink RX2 15 "ToldInKnots$Sets" "value" "[I" ∈ TBL := tbl_in (List.mem_of_getElem? (i := 145) (by decide +kernel)) rfl
theorem fl_X2_72 : Cond.fieldLink RX2 72 "ToldInKnots$Sets" "keyCount" "I" ∈ TBL := tbl_in (List.mem_of_getElem? (i := 150) (by decide +kernel)) rfl
theorem fl_X2_21 : Cond.fieldLink RX2 21 "ToldInKnots$Sets" "keys" "[I" ∈ TBL := tbl_in (List.mem_of_getElem? (i := 147) (by decide +kernel)) rfl
theorem st_X4_at : Cond.static yX4_at ∈ TBL := tbl_in (List.mem_of_getElem? (i := 252) (by decide +kernel)) rfl
theorem fl_X2_24 : Cond.fieldLink RX2 24 "ToldInKnots$Sets" "spare" "[I" ∈ TBL := tbl_in (List.mem_of_getElem? (i := 148) (by decide +kernel)) rfl
theorem fl_X2_18 : Cond.fieldLink RX2 18 "ToldInKnots$Sets" "highSums" "[I" ∈ TBL := tbl_in (List.mem_of_getElem? (i := 146) (by decide +kernel)) rfl
theorem ml_X4_306 : Cond.methodLink RX4 306 yJ6_bitCount_0f7a4 ∈ TBL := tbl_in (List.mem_of_getElem? (i := 624) (by decide +kernel)) rfl
theorem st_J6_bitCount_0f7a4 : Cond.static yJ6_bitCount_0f7a4 ∈ TBL := tbl_in (List.mem_of_getElem? (i := 625) (by decide +kernel)) rfl
theorem ml_X4_217 : Cond.methodLink RX4 217 yX4_kindOf ∈ TBL := tbl_in (List.mem_of_getElem? (i := 419) (by decide +kernel)) rfl
theorem st_X4_kindOf : Cond.static yX4_kindOf ∈ TBL := tbl_in (List.mem_of_getElem? (i := 420) (by decide +kernel)) rfl
theorem ml_X4_220 : Cond.methodLink RX4 220 yX4_countOf ∈ TBL := tbl_in (List.mem_of_getElem? (i := 450) (by decide +kernel)) rfl
theorem st_X4_countOf : Cond.static yX4_countOf ∈ TBL := tbl_in (List.mem_of_getElem? (i := 423) (by decide +kernel)) rfl
theorem ml_X4_314 : Cond.methodLink RX4 314 arraycopyName ∈ TBL := tbl_in (List.mem_of_getElem? (i := 313) (by decide +kernel)) rfl
theorem ml_X5_54 : Cond.methodLink RX5 54 yX5_in ∈ TBL := tbl_in (List.mem_of_getElem? (i := 841) (by decide +kernel)) rfl
theorem st_X5_in : Cond.static yX5_in ∈ TBL := tbl_in (List.mem_of_getElem? (i := 842) (by decide +kernel)) rfl
theorem cl_X5_58 : Cond.constantLong RX5 58 32 ∈ TBL := tbl_in (List.mem_of_getElem? (i := 839) (by decide +kernel)) rfl
theorem cl_X5_60 : Cond.constantLong RX5 60 126 ∈ TBL := tbl_in (List.mem_of_getElem? (i := 840) (by decide +kernel)) rfl
theorem fl_X5_19 : Cond.fieldLink RX5 19 "ToldInKnotsModel" "text" "[I" ∈ TBL := tbl_in (List.mem_of_getElem? (i := 788) (by decide +kernel)) rfl
theorem fl_X5_69 : Cond.fieldLink RX5 69 "ToldInKnotsModel" "depth" "I" ∈ TBL := tbl_in (List.mem_of_getElem? (i := 792) (by decide +kernel)) rfl
theorem fl_X5_25 : Cond.fieldLink RX5 25 "ToldInKnotsModel" "over" "[I" ∈ TBL := tbl_in (List.mem_of_getElem? (i := 794) (by decide +kernel)) rfl
theorem fl_X5_72 : Cond.fieldLink RX5 72 "ToldInKnotsModel" "isTop" "Z" ∈ TBL := tbl_in (List.mem_of_getElem? (i := 793) (by decide +kernel)) rfl
theorem ml_X5_76 : Cond.methodLink RX5 76 yX5_goesTo ∈ TBL := tbl_in (List.mem_of_getElem? (i := 860) (by decide +kernel)) rfl
theorem im_X5_goesTo : Cond.instanceMethod yX5_goesTo ∈ TBL := tbl_in (List.mem_of_getElem? (i := 862) (by decide +kernel)) rfl
theorem sl_X5_goesTo : Cond.selects yX5_goesTo.cls yX5_goesTo yX5_goesTo ∈ TBL := tbl_in (List.mem_of_getElem? (i := 22) (by decide +kernel)) rfl
theorem ml_X5_80 : Cond.methodLink RX5 80 yX5_newest ∈ TBL := tbl_in (List.mem_of_getElem? (i := 878) (by decide +kernel)) rfl
theorem im_X5_newest : Cond.instanceMethod yX5_newest ∈ TBL := tbl_in (List.mem_of_getElem? (i := 880) (by decide +kernel)) rfl
theorem sl_X5_newest : Cond.selects yX5_newest.cls yX5_newest yX5_newest ∈ TBL := tbl_in (List.mem_of_getElem? (i := 26) (by decide +kernel)) rfl
theorem ml_X5_118 : Cond.methodLink RX5 118 yX5_copies ∈ TBL := tbl_in (List.mem_of_getElem? (i := 780) (by decide +kernel)) rfl
theorem st_X5_copies : Cond.static yX5_copies ∈ TBL := tbl_in (List.mem_of_getElem? (i := 781) (by decide +kernel)) rfl
theorem fl_X5_122 : Cond.fieldLink RX5 122 "ToldInKnotsModel" "undos" "I" ∈ TBL := tbl_in (List.mem_of_getElem? (i := 785) (by decide +kernel)) rfl
theorem fl_X5_125 : Cond.fieldLink RX5 125 "ToldInKnotsModel" "keptMany" "I" ∈ TBL := tbl_in (List.mem_of_getElem? (i := 787) (by decide +kernel)) rfl
theorem ml_X5_131 : Cond.methodLink RX5 131 yX5_isPendant ∈ TBL := tbl_in (List.mem_of_getElem? (i := 907) (by decide +kernel)) rfl
theorem im_X5_isPendant : Cond.instanceMethod yX5_isPendant ∈ TBL := tbl_in (List.mem_of_getElem? (i := 909) (by decide +kernel)) rfl
theorem sl_X5_isPendant : Cond.selects yX5_isPendant.cls yX5_isPendant yX5_isPendant ∈ TBL := tbl_in (List.mem_of_getElem? (i := 30) (by decide +kernel)) rfl
theorem ml_X5_134 : Cond.methodLink RX5 134 yX5_knot0 ∈ TBL := tbl_in (List.mem_of_getElem? (i := 927) (by decide +kernel)) rfl
theorem im_X5_knot0 : Cond.instanceMethod yX5_knot0 ∈ TBL := tbl_in (List.mem_of_getElem? (i := 929) (by decide +kernel)) rfl
theorem sl_X5_knot0 : Cond.selects yX5_knot0.cls yX5_knot0 yX5_knot0 ∈ TBL := tbl_in (List.mem_of_getElem? (i := 35) (by decide +kernel)) rfl
theorem ml_X5_153 : Cond.methodLink RX5 153 yX5_knotsOf ∈ TBL := tbl_in (List.mem_of_getElem? (i := 947) (by decide +kernel)) rfl
theorem st_X5_knotsOf : Cond.static yX5_knotsOf ∈ TBL := tbl_in (List.mem_of_getElem? (i := 948) (by decide +kernel)) rfl
theorem fl_X5_13 : Cond.fieldLink RX5 13 "ToldInKnotsModel" "past" "[I" ∈ TBL := tbl_in (List.mem_of_getElem? (i := 784) (by decide +kernel)) rfl
theorem ml_X5_195 : Cond.methodLink RX5 195 yX5_clusterFor ∈ TBL := tbl_in (List.mem_of_getElem? (i := 1006) (by decide +kernel)) rfl
theorem st_X5_clusterFor : Cond.static yX5_clusterFor ∈ TBL := tbl_in (List.mem_of_getElem? (i := 1007) (by decide +kernel)) rfl
theorem cl_X5_217 : Cond.constantLong RX5 217 2 ∈ TBL := tbl_in (List.mem_of_getElem? (i := 1031) (by decide +kernel)) rfl
theorem cl_X5_215 : Cond.constantLong RX5 215 9 ∈ TBL := tbl_in (List.mem_of_getElem? (i := 1030) (by decide +kernel)) rfl
theorem ml_X5_162 : Cond.methodLink RX5 162 yX5_hanging ∈ TBL := tbl_in (List.mem_of_getElem? (i := 915) (by decide +kernel)) rfl
theorem im_X5_hanging : Cond.instanceMethod yX5_hanging ∈ TBL := tbl_in (List.mem_of_getElem? (i := 917) (by decide +kernel)) rfl
theorem sl_X5_hanging : Cond.selects yX5_hanging.cls yX5_hanging yX5_hanging ∈ TBL := tbl_in (List.mem_of_getElem? (i := 32) (by decide +kernel)) rfl
theorem fl_X5_16 : Cond.fieldLink RX5 16 "ToldInKnotsModel" "kept" "[I" ∈ TBL := tbl_in (List.mem_of_getElem? (i := 786) (by decide +kernel)) rfl
theorem fl_X0_11 : Cond.fieldLink RX0 11 "ToldInKnots$Bundle" "row" "[I" ∈ TBL := tbl_in (List.mem_of_getElem? (i := 92) (by decide +kernel)) rfl
theorem ml_X0_19 : Cond.methodLink RX0 19 yJ7_fill_53178 ∈ TBL := tbl_in (List.mem_of_getElem? (i := 236) (by decide +kernel)) rfl
theorem st_J7_fill_53178 : Cond.static yJ7_fill_53178 ∈ TBL := tbl_in (List.mem_of_getElem? (i := 237) (by decide +kernel)) rfl
theorem st_X4_isColour : Cond.static yX4_isColour ∈ TBL := tbl_in (List.mem_of_getElem? (i := 267) (by decide +kernel)) rfl
theorem fl_X1_12 : Cond.fieldLink RX1 12 "ToldInKnots$Reader" "draft" "LToldInKnots$Bundle;" ∈ TBL := tbl_in (List.mem_of_getElem? (i := 99) (by decide +kernel)) rfl
theorem ml_X1_71 : Cond.methodLink RX1 71 yX0_cords ∈ TBL := tbl_in (List.mem_of_getElem? (i := 269) (by decide +kernel)) rfl
theorem im_X0_cords : Cond.instanceMethod yX0_cords ∈ TBL := tbl_in (List.mem_of_getElem? (i := 270) (by decide +kernel)) rfl
theorem sl_X0_cords : Cond.selects yX0_cords.cls yX0_cords yX0_cords ∈ TBL := tbl_in (List.mem_of_getElem? (i := 271) (by decide +kernel)) rfl
theorem fl_X1_18 : Cond.fieldLink RX1 18 "ToldInKnots$Reader" "latest" "[I" ∈ TBL := tbl_in (List.mem_of_getElem? (i := 101) (by decide +kernel)) rfl
theorem fl_X1_32 : Cond.fieldLink RX1 32 "ToldInKnots$Reader" "inTop" "Z" ∈ TBL := tbl_in (List.mem_of_getElem? (i := 104) (by decide +kernel)) rfl
theorem ml_X1_82 : Cond.methodLink RX1 82 yX0_addCord ∈ TBL := tbl_in (List.mem_of_getElem? (i := 275) (by decide +kernel)) rfl
theorem im_X0_addCord : Cond.instanceMethod yX0_addCord ∈ TBL := tbl_in (List.mem_of_getElem? (i := 276) (by decide +kernel)) rfl
theorem sl_X0_addCord : Cond.selects yX0_addCord.cls yX0_addCord yX0_addCord ∈ TBL := tbl_in (List.mem_of_getElem? (i := 277) (by decide +kernel)) rfl
theorem st_X4_canCount : Cond.static yX4_canCount ∈ TBL := tbl_in (List.mem_of_getElem? (i := 292) (by decide +kernel)) rfl
theorem ml_X1_93 : Cond.methodLink RX1 93 yX0_addCluster ∈ TBL := tbl_in (List.mem_of_getElem? (i := 294) (by decide +kernel)) rfl
theorem im_X0_addCluster : Cond.instanceMethod yX0_addCluster ∈ TBL := tbl_in (List.mem_of_getElem? (i := 295) (by decide +kernel)) rfl
theorem sl_X0_addCluster : Cond.selects yX0_addCluster.cls yX0_addCluster yX0_addCluster ∈ TBL := tbl_in (List.mem_of_getElem? (i := 296) (by decide +kernel)) rfl
theorem ml_X2_54 : Cond.methodLink RX2 54 yX2_sumAt ∈ TBL := tbl_in (List.mem_of_getElem? (i := 669) (by decide +kernel)) rfl
theorem im_X2_sumAt : Cond.instanceMethod yX2_sumAt ∈ TBL := tbl_in (List.mem_of_getElem? (i := 671) (by decide +kernel)) rfl
theorem sl_X2_sumAt : Cond.selects yX2_sumAt.cls yX2_sumAt yX2_sumAt ∈ TBL := tbl_in (List.mem_of_getElem? (i := 13) (by decide +kernel)) rfl
theorem ml_X2_67 : Cond.methodLink RX2 67 Lib.Math.abs.name ∈ TBL := tbl_in (List.mem_of_getElem? (i := 677) (by decide +kernel)) rfl
theorem ml_X2_75 : Cond.methodLink RX2 75 yX2_bitsAt ∈ TBL := tbl_in (List.mem_of_getElem? (i := 678) (by decide +kernel)) rfl
theorem im_X2_bitsAt : Cond.instanceMethod yX2_bitsAt ∈ TBL := tbl_in (List.mem_of_getElem? (i := 680) (by decide +kernel)) rfl
theorem sl_X2_bitsAt : Cond.selects yX2_bitsAt.cls yX2_bitsAt yX2_bitsAt ∈ TBL := tbl_in (List.mem_of_getElem? (i := 15) (by decide +kernel)) rfl
theorem fl_X2_47 : Cond.fieldLink RX2 47 "ToldInKnots$Sets" "unlike" "I" ∈ TBL := tbl_in (List.mem_of_getElem? (i := 153) (by decide +kernel)) rfl
theorem ml_X2_83 : Cond.methodLink RX2 83 yX2_mergeWith ∈ TBL := tbl_in (List.mem_of_getElem? (i := 657) (by decide +kernel)) rfl
theorem im_X2_mergeWith : Cond.instanceMethod yX2_mergeWith ∈ TBL := tbl_in (List.mem_of_getElem? (i := 659) (by decide +kernel)) rfl
theorem sl_X2_mergeWith : Cond.selects yX2_mergeWith.cls yX2_mergeWith yX2_mergeWith ∈ TBL := tbl_in (List.mem_of_getElem? (i := 10) (by decide +kernel)) rfl
theorem fl_X3_13 : Cond.fieldLink RX3 13 "ToldInKnots$Shelf" "places" "I" ∈ TBL := tbl_in (List.mem_of_getElem? (i := 127) (by decide +kernel)) rfl
theorem fl_X3_21 : Cond.fieldLink RX3 21 "ToldInKnots$Shelf" "slots" "[I" ∈ TBL := tbl_in (List.mem_of_getElem? (i := 128) (by decide +kernel)) rfl
theorem st_X4_copyRow : Cond.static yX4_copyRow ∈ TBL := tbl_in (List.mem_of_getElem? (i := 311) (by decide +kernel)) rfl
theorem ml_X4_223 : Cond.methodLink RX4 223 yX4_tens ∈ TBL := tbl_in (List.mem_of_getElem? (i := 608) (by decide +kernel)) rfl
theorem st_X4_tens : Cond.static yX4_tens ∈ TBL := tbl_in (List.mem_of_getElem? (i := 426) (by decide +kernel)) rfl
theorem fl_X4_23 : Cond.fieldLink RX4 23 "ToldInKnots" "bundle" "LToldInKnots$Bundle;" ∈ TBL := tbl_in (List.mem_of_getElem? (i := 319) (by decide +kernel)) rfl
theorem ml_X4_136 : Cond.methodLink RX4 136 yX0_codeOf ∈ TBL := tbl_in (List.mem_of_getElem? (i := 460) (by decide +kernel)) rfl
theorem im_X0_codeOf : Cond.instanceMethod yX0_codeOf ∈ TBL := tbl_in (List.mem_of_getElem? (i := 413) (by decide +kernel)) rfl
theorem sl_X0_codeOf : Cond.selects yX0_codeOf.cls yX0_codeOf yX0_codeOf ∈ TBL := tbl_in (List.mem_of_getElem? (i := 414) (by decide +kernel)) rfl
theorem ml_X4_117 : Cond.methodLink RX4 117 yX0_isTop ∈ TBL := tbl_in (List.mem_of_getElem? (i := 403) (by decide +kernel)) rfl
theorem im_X0_isTop : Cond.instanceMethod yX0_isTop ∈ TBL := tbl_in (List.mem_of_getElem? (i := 404) (by decide +kernel)) rfl
theorem sl_X0_isTop : Cond.selects yX0_isTop.cls yX0_isTop yX0_isTop ∈ TBL := tbl_in (List.mem_of_getElem? (i := 405) (by decide +kernel)) rfl
theorem ml_X5_84 : Cond.methodLink RX5 84 yX5_takesCluster ∈ TBL := tbl_in (List.mem_of_getElem? (i := 882) (by decide +kernel)) rfl
theorem im_X5_takesCluster : Cond.instanceMethod yX5_takesCluster ∈ TBL := tbl_in (List.mem_of_getElem? (i := 884) (by decide +kernel)) rfl
theorem sl_X5_takesCluster : Cond.selects yX5_takesCluster.cls yX5_takesCluster yX5_takesCluster ∈ TBL := tbl_in (List.mem_of_getElem? (i := 27) (by decide +kernel)) rfl
theorem cl_X5_87 : Cond.constantLong RX5 87 48 ∈ TBL := tbl_in (List.mem_of_getElem? (i := 864) (by decide +kernel)) rfl
theorem cl_X5_89 : Cond.constantLong RX5 89 57 ∈ TBL := tbl_in (List.mem_of_getElem? (i := 865) (by decide +kernel)) rfl
theorem ml_X5_91 : Cond.methodLink RX5 91 yX5_hasRoom ∈ TBL := tbl_in (List.mem_of_getElem? (i := 866) (by decide +kernel)) rfl
theorem im_X5_hasRoom : Cond.instanceMethod yX5_hasRoom ∈ TBL := tbl_in (List.mem_of_getElem? (i := 868) (by decide +kernel)) rfl
theorem sl_X5_hasRoom : Cond.selects yX5_hasRoom.cls yX5_hasRoom yX5_hasRoom ∈ TBL := tbl_in (List.mem_of_getElem? (i := 23) (by decide +kernel)) rfl
theorem ml_X5_95 : Cond.methodLink RX5 95 yX5_takesColour ∈ TBL := tbl_in (List.mem_of_getElem? (i := 870) (by decide +kernel)) rfl
theorem im_X5_takesColour : Cond.instanceMethod yX5_takesColour ∈ TBL := tbl_in (List.mem_of_getElem? (i := 872) (by decide +kernel)) rfl
theorem sl_X5_takesColour : Cond.selects yX5_takesColour.cls yX5_takesColour yX5_takesColour ∈ TBL := tbl_in (List.mem_of_getElem? (i := 24) (by decide +kernel)) rfl
theorem ml_X5_138 : Cond.methodLink RX5 138 yX5_told ∈ TBL := tbl_in (List.mem_of_getElem? (i := 923) (by decide +kernel)) rfl
theorem im_X5_told : Cond.instanceMethod yX5_told ∈ TBL := tbl_in (List.mem_of_getElem? (i := 925) (by decide +kernel)) rfl
theorem sl_X5_told : Cond.selects yX5_told.cls yX5_told yX5_told ∈ TBL := tbl_in (List.mem_of_getElem? (i := 34) (by decide +kernel)) rfl
theorem ml_X5_156 : Cond.methodLink RX5 156 yX5_isCord ∈ TBL := tbl_in (List.mem_of_getElem? (i := 903) (by decide +kernel)) rfl
theorem im_X5_isCord : Cond.instanceMethod yX5_isCord ∈ TBL := tbl_in (List.mem_of_getElem? (i := 905) (by decide +kernel)) rfl
theorem sl_X5_isCord : Cond.selects yX5_isCord.cls yX5_isCord yX5_isCord ∈ TBL := tbl_in (List.mem_of_getElem? (i := 29) (by decide +kernel)) rfl
theorem ml_X5_170 : Cond.methodLink RX5 170 yX5_isPlain ∈ TBL := tbl_in (List.mem_of_getElem? (i := 970) (by decide +kernel)) rfl
theorem im_X5_isPlain : Cond.instanceMethod yX5_isPlain ∈ TBL := tbl_in (List.mem_of_getElem? (i := 972) (by decide +kernel)) rfl
theorem sl_X5_isPlain : Cond.selects yX5_isPlain.cls yX5_isPlain yX5_isPlain ∈ TBL := tbl_in (List.mem_of_getElem? (i := 43) (by decide +kernel)) rfl
theorem ml_X5_198 : Cond.methodLink RX5 198 yX5_remember ∈ TBL := tbl_in (List.mem_of_getElem? (i := 1013) (by decide +kernel)) rfl
theorem im_X5_remember : Cond.instanceMethod yX5_remember ∈ TBL := tbl_in (List.mem_of_getElem? (i := 1015) (by decide +kernel)) rfl
theorem sl_X5_remember : Cond.selects yX5_remember.cls yX5_remember yX5_remember ∈ TBL := tbl_in (List.mem_of_getElem? (i := 50) (by decide +kernel)) rfl
theorem ml_X5_219 : Cond.methodLink RX5 219 yX5_isKnot ∈ TBL := tbl_in (List.mem_of_getElem? (i := 1027) (by decide +kernel)) rfl
theorem st_X5_isKnot : Cond.static yX5_isKnot ∈ TBL := tbl_in (List.mem_of_getElem? (i := 1028) (by decide +kernel)) rfl
theorem ml_X5_168 : Cond.methodLink RX5 168 yX5_knots_ ∈ TBL := tbl_in (List.mem_of_getElem? (i := 943) (by decide +kernel)) rfl
theorem im_X5_knots_ : Cond.instanceMethod yX5_knots_ ∈ TBL := tbl_in (List.mem_of_getElem? (i := 945) (by decide +kernel)) rfl
theorem sl_X5_knots_ : Cond.selects yX5_knots_.cls yX5_knots_ yX5_knots_ ∈ TBL := tbl_in (List.mem_of_getElem? (i := 39) (by decide +kernel)) rfl
theorem cl_X5_233 : Cond.constantLong RX5 233 6 ∈ TBL := tbl_in (List.mem_of_getElem? (i := 1075) (by decide +kernel)) rfl
theorem ml_X5_230 : Cond.methodLink RX5 230 yX5_isTwo ∈ TBL := tbl_in (List.mem_of_getElem? (i := 1064) (by decide +kernel)) rfl
theorem st_X5_isTwo : Cond.static yX5_isTwo ∈ TBL := tbl_in (List.mem_of_getElem? (i := 1065) (by decide +kernel)) rfl
theorem fl_X5_34 : Cond.fieldLink RX5 34 "ToldInKnotsModel" "knotted" "[I" ∈ TBL := tbl_in (List.mem_of_getElem? (i := 797) (by decide +kernel)) rfl
theorem ml_X5_201 : Cond.methodLink RX5 201 yX5_power ∈ TBL := tbl_in (List.mem_of_getElem? (i := 999) (by decide +kernel)) rfl
theorem st_X5_power : Cond.static yX5_power ∈ TBL := tbl_in (List.mem_of_getElem? (i := 1000) (by decide +kernel)) rfl
theorem ml_X5_244 : Cond.methodLink RX5 244 yX5_areAlike ∈ TBL := tbl_in (List.mem_of_getElem? (i := 1111) (by decide +kernel)) rfl
theorem im_X5_areAlike : Cond.instanceMethod yX5_areAlike ∈ TBL := tbl_in (List.mem_of_getElem? (i := 1113) (by decide +kernel)) rfl
theorem sl_X5_areAlike : Cond.selects yX5_areAlike.cls yX5_areAlike yX5_areAlike ∈ TBL := tbl_in (List.mem_of_getElem? (i := 54) (by decide +kernel)) rfl
theorem ml_X5_247 : Cond.methodLink RX5 247 yX5_hangingAt ∈ TBL := tbl_in (List.mem_of_getElem? (i := 1115) (by decide +kernel)) rfl
theorem im_X5_hangingAt : Cond.instanceMethod yX5_hangingAt ∈ TBL := tbl_in (List.mem_of_getElem? (i := 1117) (by decide +kernel)) rfl
theorem sl_X5_hangingAt : Cond.selects yX5_hangingAt.cls yX5_hangingAt yX5_hangingAt ∈ TBL := tbl_in (List.mem_of_getElem? (i := 55) (by decide +kernel)) rfl
theorem ml_X0_29 : Cond.methodLink RX0 29 yX0_cords ∈ TBL := tbl_in (List.mem_of_getElem? (i := 380) (by decide +kernel)) rfl
theorem ml_X0_41 : Cond.methodLink RX0 41 yX0_groups ∈ TBL := tbl_in (List.mem_of_getElem? (i := 258) (by decide +kernel)) rfl
theorem im_X0_groups : Cond.instanceMethod yX0_groups ∈ TBL := tbl_in (List.mem_of_getElem? (i := 248) (by decide +kernel)) rfl
theorem sl_X0_groups : Cond.selects yX0_groups.cls yX0_groups yX0_groups ∈ TBL := tbl_in (List.mem_of_getElem? (i := 249) (by decide +kernel)) rfl
theorem ml_X0_37 : Cond.methodLink RX0 37 yX0_sizeOf ∈ TBL := tbl_in (List.mem_of_getElem? (i := 411) (by decide +kernel)) rfl
theorem im_X0_sizeOf : Cond.instanceMethod yX0_sizeOf ∈ TBL := tbl_in (List.mem_of_getElem? (i := 284) (by decide +kernel)) rfl
theorem sl_X0_sizeOf : Cond.selects yX0_sizeOf.cls yX0_sizeOf yX0_sizeOf ∈ TBL := tbl_in (List.mem_of_getElem? (i := 285) (by decide +kernel)) rfl
theorem ml_X0_48 : Cond.methodLink RX0 48 yX0_codeOf ∈ TBL := tbl_in (List.mem_of_getElem? (i := 412) (by decide +kernel)) rfl
theorem st_X4_isWellPlaced : Cond.static yX4_isWellPlaced ∈ TBL := tbl_in (List.mem_of_getElem? (i := 417) (by decide +kernel)) rfl
theorem st_X4_knotsIn : Cond.static yX4_knotsIn ∈ TBL := tbl_in (List.mem_of_getElem? (i := 448) (by decide +kernel)) rfl
theorem st_X4_codeToTell : Cond.static yX4_codeToTell ∈ TBL := tbl_in (List.mem_of_getElem? (i := 520) (by decide +kernel)) rfl
theorem ml_X0_76 : Cond.methodLink RX0 76 yX0_setCode ∈ TBL := tbl_in (List.mem_of_getElem? (i := 531) (by decide +kernel)) rfl
theorem im_X0_setCode : Cond.instanceMethod yX0_setCode ∈ TBL := tbl_in (List.mem_of_getElem? (i := 532) (by decide +kernel)) rfl
theorem sl_X0_setCode : Cond.selects yX0_setCode.cls yX0_setCode yX0_setCode ∈ TBL := tbl_in (List.mem_of_getElem? (i := 533) (by decide +kernel)) rfl
theorem ml_X0_80 : Cond.methodLink RX0 80 yX0_colourOf ∈ TBL := tbl_in (List.mem_of_getElem? (i := 720) (by decide +kernel)) rfl
theorem im_X0_colourOf : Cond.instanceMethod yX0_colourOf ∈ TBL := tbl_in (List.mem_of_getElem? (i := 382) (by decide +kernel)) rfl
theorem sl_X0_colourOf : Cond.selects yX0_colourOf.cls yX0_colourOf yX0_colourOf ∈ TBL := tbl_in (List.mem_of_getElem? (i := 383) (by decide +kernel)) rfl
theorem ml_X0_83 : Cond.methodLink RX0 83 yX0_depthOf ∈ TBL := tbl_in (List.mem_of_getElem? (i := 487) (by decide +kernel)) rfl
theorem im_X0_depthOf : Cond.instanceMethod yX0_depthOf ∈ TBL := tbl_in (List.mem_of_getElem? (i := 395) (by decide +kernel)) rfl
theorem sl_X0_depthOf : Cond.selects yX0_depthOf.cls yX0_depthOf yX0_depthOf ∈ TBL := tbl_in (List.mem_of_getElem? (i := 396) (by decide +kernel)) rfl
theorem ml_X0_89 : Cond.methodLink RX0 89 yX0_groupOf ∈ TBL := tbl_in (List.mem_of_getElem? (i := 473) (by decide +kernel)) rfl
theorem im_X0_groupOf : Cond.instanceMethod yX0_groupOf ∈ TBL := tbl_in (List.mem_of_getElem? (i := 391) (by decide +kernel)) rfl
theorem sl_X0_groupOf : Cond.selects yX0_groupOf.cls yX0_groupOf yX0_groupOf ∈ TBL := tbl_in (List.mem_of_getElem? (i := 392) (by decide +kernel)) rfl
theorem ml_X0_92 : Cond.methodLink RX0 92 yX0_holderOf ∈ TBL := tbl_in (List.mem_of_getElem? (i := 402) (by decide +kernel)) rfl
theorem im_X0_holderOf : Cond.instanceMethod yX0_holderOf ∈ TBL := tbl_in (List.mem_of_getElem? (i := 387) (by decide +kernel)) rfl
theorem sl_X0_holderOf : Cond.selects yX0_holderOf.cls yX0_holderOf yX0_holderOf ∈ TBL := tbl_in (List.mem_of_getElem? (i := 388) (by decide +kernel)) rfl
theorem ml_X0_86 : Cond.methodLink RX0 86 yX0_isTop ∈ TBL := tbl_in (List.mem_of_getElem? (i := 478) (by decide +kernel)) rfl
theorem ml_X1_60 : Cond.methodLink RX1 60 yX0_groups ∈ TBL := tbl_in (List.mem_of_getElem? (i := 247) (by decide +kernel)) rfl
theorem ml_X1_64 : Cond.methodLink RX1 64 yX0_addGroup ∈ TBL := tbl_in (List.mem_of_getElem? (i := 254) (by decide +kernel)) rfl
theorem im_X0_addGroup : Cond.instanceMethod yX0_addGroup ∈ TBL := tbl_in (List.mem_of_getElem? (i := 255) (by decide +kernel)) rfl
theorem sl_X0_addGroup : Cond.selects yX0_addGroup.cls yX0_addGroup yX0_addGroup ∈ TBL := tbl_in (List.mem_of_getElem? (i := 256) (by decide +kernel)) rfl
theorem ml_X1_86 : Cond.methodLink RX1 86 yX0_sizeOf ∈ TBL := tbl_in (List.mem_of_getElem? (i := 283) (by decide +kernel)) rfl
theorem ml_X1_50 : Cond.methodLink RX1 50 yX1_endsCluster ∈ TBL := tbl_in (List.mem_of_getElem? (i := 287) (by decide +kernel)) rfl
theorem im_X1_endsCluster : Cond.instanceMethod yX1_endsCluster ∈ TBL := tbl_in (List.mem_of_getElem? (i := 289) (by decide +kernel)) rfl
theorem sl_X1_endsCluster : Cond.selects yX1_endsCluster.cls yX1_endsCluster yX1_endsCluster ∈ TBL := tbl_in (List.mem_of_getElem? (i := 4) (by decide +kernel)) rfl
theorem ml_X1_44 : Cond.methodLink RX1 44 yX1_opensCord ∈ TBL := tbl_in (List.mem_of_getElem? (i := 262) (by decide +kernel)) rfl
theorem im_X1_opensCord : Cond.instanceMethod yX1_opensCord ∈ TBL := tbl_in (List.mem_of_getElem? (i := 264) (by decide +kernel)) rfl
theorem sl_X1_opensCord : Cond.selects yX1_opensCord.cls yX1_opensCord yX1_opensCord ∈ TBL := tbl_in (List.mem_of_getElem? (i := 2) (by decide +kernel)) rfl
theorem ml_X2_35 : Cond.methodLink RX2 35 yX2_spreadLow ∈ TBL := tbl_in (List.mem_of_getElem? (i := 652) (by decide +kernel)) rfl
theorem im_X2_spreadLow : Cond.instanceMethod yX2_spreadLow ∈ TBL := tbl_in (List.mem_of_getElem? (i := 654) (by decide +kernel)) rfl
theorem sl_X2_spreadLow : Cond.selects yX2_spreadLow.cls yX2_spreadLow yX2_spreadLow ∈ TBL := tbl_in (List.mem_of_getElem? (i := 9) (by decide +kernel)) rfl
theorem ml_X2_39 : Cond.methodLink RX2 39 yX2_spreadHigh ∈ TBL := tbl_in (List.mem_of_getElem? (i := 661) (by decide +kernel)) rfl
theorem im_X2_spreadHigh : Cond.instanceMethod yX2_spreadHigh ∈ TBL := tbl_in (List.mem_of_getElem? (i := 663) (by decide +kernel)) rfl
theorem sl_X2_spreadHigh : Cond.selects yX2_spreadHigh.cls yX2_spreadHigh yX2_spreadHigh ∈ TBL := tbl_in (List.mem_of_getElem? (i := 11) (by decide +kernel)) rfl
theorem ml_X2_50 : Cond.methodLink RX2 50 yX2_firstFrom ∈ TBL := tbl_in (List.mem_of_getElem? (i := 665) (by decide +kernel)) rfl
theorem im_X2_firstFrom : Cond.instanceMethod yX2_firstFrom ∈ TBL := tbl_in (List.mem_of_getElem? (i := 667) (by decide +kernel)) rfl
theorem sl_X2_firstFrom : Cond.selects yX2_firstFrom.cls yX2_firstFrom yX2_firstFrom ∈ TBL := tbl_in (List.mem_of_getElem? (i := 12) (by decide +kernel)) rfl
theorem ml_X2_61 : Cond.methodLink RX2 61 yX2_asCords ∈ TBL := tbl_in (List.mem_of_getElem? (i := 682) (by decide +kernel)) rfl
theorem im_X2_asCords : Cond.instanceMethod yX2_asCords ∈ TBL := tbl_in (List.mem_of_getElem? (i := 684) (by decide +kernel)) rfl
theorem sl_X2_asCords : Cond.selects yX2_asCords.cls yX2_asCords yX2_asCords ∈ TBL := tbl_in (List.mem_of_getElem? (i := 16) (by decide +kernel)) rfl
theorem fl_X2_64 : Cond.fieldLink RX2 64 "ToldInKnots$Sets" "found" "I" ∈ TBL := tbl_in (List.mem_of_getElem? (i := 151) (by decide +kernel)) rfl
theorem ml_X2_57 : Cond.methodLink RX2 57 yX2_better ∈ TBL := tbl_in (List.mem_of_getElem? (i := 673) (by decide +kernel)) rfl
theorem im_X2_better : Cond.instanceMethod yX2_better ∈ TBL := tbl_in (List.mem_of_getElem? (i := 675) (by decide +kernel)) rfl
theorem sl_X2_better : Cond.selects yX2_better.cls yX2_better yX2_better ∈ TBL := tbl_in (List.mem_of_getElem? (i := 14) (by decide +kernel)) rfl
theorem ml_X2_78 : Cond.methodLink RX2 78 yJ6_bitCount_0f7a4 ∈ TBL := tbl_in (List.mem_of_getElem? (i := 694) (by decide +kernel)) rfl
theorem ml_X4_140 : Cond.methodLink RX4 140 yX0_hasGroup ∈ TBL := tbl_in (List.mem_of_getElem? (i := 465) (by decide +kernel)) rfl
theorem im_X0_hasGroup : Cond.instanceMethod yX0_hasGroup ∈ TBL := tbl_in (List.mem_of_getElem? (i := 466) (by decide +kernel)) rfl
theorem sl_X0_hasGroup : Cond.selects yX0_hasGroup.cls yX0_hasGroup yX0_hasGroup ∈ TBL := tbl_in (List.mem_of_getElem? (i := 467) (by decide +kernel)) rfl
theorem ml_X4_158 : Cond.methodLink RX4 158 yX0_pendantAt ∈ TBL := tbl_in (List.mem_of_getElem? (i := 503) (by decide +kernel)) rfl
theorem im_X0_pendantAt : Cond.instanceMethod yX0_pendantAt ∈ TBL := tbl_in (List.mem_of_getElem? (i := 504) (by decide +kernel)) rfl
theorem sl_X0_pendantAt : Cond.selects yX0_pendantAt.cls yX0_pendantAt yX0_pendantAt ∈ TBL := tbl_in (List.mem_of_getElem? (i := 505) (by decide +kernel)) rfl
theorem ml_X4_94 : Cond.methodLink RX4 94 yX0_hasCord ∈ TBL := tbl_in (List.mem_of_getElem? (i := 376) (by decide +kernel)) rfl
theorem im_X0_hasCord : Cond.instanceMethod yX0_hasCord ∈ TBL := tbl_in (List.mem_of_getElem? (i := 377) (by decide +kernel)) rfl
theorem sl_X0_hasCord : Cond.selects yX0_hasCord.cls yX0_hasCord yX0_hasCord ∈ TBL := tbl_in (List.mem_of_getElem? (i := 378) (by decide +kernel)) rfl
theorem ml_X4_161 : Cond.methodLink RX4 161 yX0_mostOn ∈ TBL := tbl_in (List.mem_of_getElem? (i := 511) (by decide +kernel)) rfl
theorem im_X0_mostOn : Cond.instanceMethod yX0_mostOn ∈ TBL := tbl_in (List.mem_of_getElem? (i := 512) (by decide +kernel)) rfl
theorem sl_X0_mostOn : Cond.selects yX0_mostOn.cls yX0_mostOn yX0_mostOn ∈ TBL := tbl_in (List.mem_of_getElem? (i := 513) (by decide +kernel)) rfl
theorem ml_X4_164 : Cond.methodLink RX4 164 yX0_workToTell ∈ TBL := tbl_in (List.mem_of_getElem? (i := 515) (by decide +kernel)) rfl
theorem im_X0_workToTell : Cond.instanceMethod yX0_workToTell ∈ TBL := tbl_in (List.mem_of_getElem? (i := 516) (by decide +kernel)) rfl
theorem sl_X0_workToTell : Cond.selects yX0_workToTell.cls yX0_workToTell yX0_workToTell ∈ TBL := tbl_in (List.mem_of_getElem? (i := 517) (by decide +kernel)) rfl
theorem fl_X4_32 : Cond.fieldLink RX4 32 "ToldInKnots" "undone" "LToldInKnots$Shelf;" ∈ TBL := tbl_in (List.mem_of_getElem? (i := 320) (by decide +kernel)) rfl
theorem ml_X4_167 : Cond.methodLink RX4 167 yX3_add ∈ TBL := tbl_in (List.mem_of_getElem? (i := 522) (by decide +kernel)) rfl
theorem im_X3_add : Cond.instanceMethod yX3_add ∈ TBL := tbl_in (List.mem_of_getElem? (i := 523) (by decide +kernel)) rfl
theorem sl_X3_add : Cond.selects yX3_add.cls yX3_add yX3_add ∈ TBL := tbl_in (List.mem_of_getElem? (i := 524) (by decide +kernel)) rfl
theorem ml_X4_170 : Cond.methodLink RX4 170 yX0_tell ∈ TBL := tbl_in (List.mem_of_getElem? (i := 527) (by decide +kernel)) rfl
theorem im_X0_tell : Cond.instanceMethod yX0_tell ∈ TBL := tbl_in (List.mem_of_getElem? (i := 528) (by decide +kernel)) rfl
theorem sl_X0_tell : Cond.selects yX0_tell.cls yX0_tell yX0_tell ∈ TBL := tbl_in (List.mem_of_getElem? (i := 529) (by decide +kernel)) rfl
theorem ml_X4_120 : Cond.methodLink RX4 120 yX0_valueOf ∈ TBL := tbl_in (List.mem_of_getElem? (i := 407) (by decide +kernel)) rfl
theorem im_X0_valueOf : Cond.instanceMethod yX0_valueOf ∈ TBL := tbl_in (List.mem_of_getElem? (i := 408) (by decide +kernel)) rfl
theorem sl_X0_valueOf : Cond.selects yX0_valueOf.cls yX0_valueOf yX0_valueOf ∈ TBL := tbl_in (List.mem_of_getElem? (i := 409) (by decide +kernel)) rfl
theorem ml_X4_181 : Cond.methodLink RX4 181 yX4_isColour ∈ TBL := tbl_in (List.mem_of_getElem? (i := 549) (by decide +kernel)) rfl
theorem ml_X4_98 : Cond.methodLink RX4 98 yX0_colourOf ∈ TBL := tbl_in (List.mem_of_getElem? (i := 381) (by decide +kernel)) rfl
theorem ml_X4_184 : Cond.methodLink RX4 184 yX0_setColour ∈ TBL := tbl_in (List.mem_of_getElem? (i := 550) (by decide +kernel)) rfl
theorem im_X0_setColour : Cond.instanceMethod yX0_setColour ∈ TBL := tbl_in (List.mem_of_getElem? (i := 551) (by decide +kernel)) rfl
theorem sl_X0_setColour : Cond.selects yX0_setColour.cls yX0_setColour yX0_setColour ∈ TBL := tbl_in (List.mem_of_getElem? (i := 552) (by decide +kernel)) rfl
theorem ml_X4_196 : Cond.methodLink RX4 196 yX3_takeInto ∈ TBL := tbl_in (List.mem_of_getElem? (i := 567) (by decide +kernel)) rfl
theorem im_X3_takeInto : Cond.instanceMethod yX3_takeInto ∈ TBL := tbl_in (List.mem_of_getElem? (i := 568) (by decide +kernel)) rfl
theorem sl_X3_takeInto : Cond.selects yX3_takeInto.cls yX3_takeInto yX3_takeInto ∈ TBL := tbl_in (List.mem_of_getElem? (i := 569) (by decide +kernel)) rfl
theorem ml_X4_102 : Cond.methodLink RX4 102 yX0_sizeOf ∈ TBL := tbl_in (List.mem_of_getElem? (i := 385) (by decide +kernel)) rfl
theorem ml_X4_226 : Cond.methodLink RX4 226 yX4_choices ∈ TBL := tbl_in (List.mem_of_getElem? (i := 621) (by decide +kernel)) rfl
theorem st_X4_choices : Cond.static yX4_choices ∈ TBL := tbl_in (List.mem_of_getElem? (i := 622) (by decide +kernel)) rfl
theorem ml_X4_143 : Cond.methodLink RX4 143 yX0_pendantsIn ∈ TBL := tbl_in (List.mem_of_getElem? (i := 469) (by decide +kernel)) rfl
theorem im_X0_pendantsIn : Cond.instanceMethod yX0_pendantsIn ∈ TBL := tbl_in (List.mem_of_getElem? (i := 470) (by decide +kernel)) rfl
theorem sl_X0_pendantsIn : Cond.selects yX0_pendantsIn.cls yX0_pendantsIn yX0_pendantsIn ∈ TBL := tbl_in (List.mem_of_getElem? (i := 471) (by decide +kernel)) rfl
theorem fl_X4_53 : Cond.fieldLink RX4 53 "ToldInKnots" "lined" "[I" ∈ TBL := tbl_in (List.mem_of_getElem? (i := 325) (by decide +kernel)) rfl
theorem ml_X4_229 : Cond.methodLink RX4 229 yX4_at ∈ TBL := tbl_in (List.mem_of_getElem? (i := 589) (by decide +kernel)) rfl
theorem fl_X4_56 : Cond.fieldLink RX4 56 "ToldInKnots" "runs" "[I" ∈ TBL := tbl_in (List.mem_of_getElem? (i := 326) (by decide +kernel)) rfl
theorem ml_X4_233 : Cond.methodLink RX4 233 Lib.Math.max.name ∈ TBL := tbl_in (List.mem_of_getElem? (i := 634) (by decide +kernel)) rfl
theorem ml_X4_238 : Cond.methodLink RX4 238 yX4_put ∈ TBL := tbl_in (List.mem_of_getElem? (i := 590) (by decide +kernel)) rfl
theorem fl_X4_36 : Cond.fieldLink RX4 36 "ToldInKnots" "kept" "LToldInKnots$Shelf;" ∈ TBL := tbl_in (List.mem_of_getElem? (i := 321) (by decide +kernel)) rfl
theorem ml_X4_88 : Cond.methodLink RX4 88 yX3_clear ∈ TBL := tbl_in (List.mem_of_getElem? (i := 367) (by decide +kernel)) rfl
theorem im_X3_clear : Cond.instanceMethod yX3_clear ∈ TBL := tbl_in (List.mem_of_getElem? (i := 368) (by decide +kernel)) rfl
theorem sl_X3_clear : Cond.selects yX3_clear.cls yX3_clear yX3_clear ∈ TBL := tbl_in (List.mem_of_getElem? (i := 369) (by decide +kernel)) rfl
theorem fl_X4_46 : Cond.fieldLink RX4 46 "ToldInKnots" "up" "[I" ∈ TBL := tbl_in (List.mem_of_getElem? (i := 323) (by decide +kernel)) rfl
theorem ml_X4_284 : Cond.methodLink RX4 284 yJ7_fill_53178 ∈ TBL := tbl_in (List.mem_of_getElem? (i := 584) (by decide +kernel)) rfl
theorem fl_X4_50 : Cond.fieldLink RX4 50 "ToldInKnots" "down" "[I" ∈ TBL := tbl_in (List.mem_of_getElem? (i := 324) (by decide +kernel)) rfl
theorem ml_X4_91 : Cond.methodLink RX4 91 yX0_cords ∈ TBL := tbl_in (List.mem_of_getElem? (i := 371) (by decide +kernel)) rfl
theorem ml_X4_207 : Cond.methodLink RX4 207 yX0_isIn ∈ TBL := tbl_in (List.mem_of_getElem? (i := 585) (by decide +kernel)) rfl
theorem im_X0_isIn : Cond.instanceMethod yX0_isIn ∈ TBL := tbl_in (List.mem_of_getElem? (i := 586) (by decide +kernel)) rfl
theorem sl_X0_isIn : Cond.selects yX0_isIn.cls yX0_isIn yX0_isIn ∈ TBL := tbl_in (List.mem_of_getElem? (i := 587) (by decide +kernel)) rfl
theorem cl_X5_113 : Cond.constantLong RX5 113 50 ∈ TBL := tbl_in (List.mem_of_getElem? (i := 893) (by decide +kernel)) rfl
theorem cl_X5_111 : Cond.constantLong RX5 111 49 ∈ TBL := tbl_in (List.mem_of_getElem? (i := 892) (by decide +kernel)) rfl
theorem ml_X5_108 : Cond.methodLink RX5 108 yX5_takesBehind ∈ TBL := tbl_in (List.mem_of_getElem? (i := 888) (by decide +kernel)) rfl
theorem im_X5_takesBehind : Cond.instanceMethod yX5_takesBehind ∈ TBL := tbl_in (List.mem_of_getElem? (i := 890) (by decide +kernel)) rfl
theorem sl_X5_takesBehind : Cond.selects yX5_takesBehind.cls yX5_takesBehind yX5_takesBehind ∈ TBL := tbl_in (List.mem_of_getElem? (i := 28) (by decide +kernel)) rfl
theorem cl_X5_104 : Cond.constantLong RX5 104 97 ∈ TBL := tbl_in (List.mem_of_getElem? (i := 886) (by decide +kernel)) rfl
theorem cl_X5_106 : Cond.constantLong RX5 106 122 ∈ TBL := tbl_in (List.mem_of_getElem? (i := 887) (by decide +kernel)) rfl
theorem ml_X5_101 : Cond.methodLink RX5 101 yX5_takesKnots ∈ TBL := tbl_in (List.mem_of_getElem? (i := 874) (by decide +kernel)) rfl
theorem im_X5_takesKnots : Cond.instanceMethod yX5_takesKnots ∈ TBL := tbl_in (List.mem_of_getElem? (i := 876) (by decide +kernel)) rfl
theorem sl_X5_takesKnots : Cond.selects yX5_takesKnots.cls yX5_takesKnots yX5_takesKnots ∈ TBL := tbl_in (List.mem_of_getElem? (i := 25) (by decide +kernel)) rfl
theorem ml_X5_98 : Cond.methodLink RX5 98 yX5_takesGroup ∈ TBL := tbl_in (List.mem_of_getElem? (i := 856) (by decide +kernel)) rfl
theorem im_X5_takesGroup : Cond.instanceMethod yX5_takesGroup ∈ TBL := tbl_in (List.mem_of_getElem? (i := 858) (by decide +kernel)) rfl
theorem sl_X5_takesGroup : Cond.selects yX5_takesGroup.cls yX5_takesGroup yX5_takesGroup ∈ TBL := tbl_in (List.mem_of_getElem? (i := 21) (by decide +kernel)) rfl
theorem ml_X5_142 : Cond.methodLink RX5 142 yX5_isUnder ∈ TBL := tbl_in (List.mem_of_getElem? (i := 939) (by decide +kernel)) rfl
theorem im_X5_isUnder : Cond.instanceMethod yX5_isUnder ∈ TBL := tbl_in (List.mem_of_getElem? (i := 941) (by decide +kernel)) rfl
theorem sl_X5_isUnder : Cond.selects yX5_isUnder.cls yX5_isUnder yX5_isUnder ∈ TBL := tbl_in (List.mem_of_getElem? (i := 38) (by decide +kernel)) rfl
theorem ml_X5_146 : Cond.methodLink RX5 146 yX5_value ∈ TBL := tbl_in (List.mem_of_getElem? (i := 919) (by decide +kernel)) rfl
theorem im_X5_value : Cond.instanceMethod yX5_value ∈ TBL := tbl_in (List.mem_of_getElem? (i := 921) (by decide +kernel)) rfl
theorem sl_X5_value : Cond.selects yX5_value.cls yX5_value yX5_value ∈ TBL := tbl_in (List.mem_of_getElem? (i := 33) (by decide +kernel)) rfl
theorem ml_X5_173 : Cond.methodLink RX5 173 yX5_isOf ∈ TBL := tbl_in (List.mem_of_getElem? (i := 966) (by decide +kernel)) rfl
theorem im_X5_isOf : Cond.instanceMethod yX5_isOf ∈ TBL := tbl_in (List.mem_of_getElem? (i := 968) (by decide +kernel)) rfl
theorem sl_X5_isOf : Cond.selects yX5_isOf.cls yX5_isOf yX5_isOf ∈ TBL := tbl_in (List.mem_of_getElem? (i := 42) (by decide +kernel)) rfl
theorem ml_X5_204 : Cond.methodLink RX5 204 yX5_workFor ∈ TBL := tbl_in (List.mem_of_getElem? (i := 1002) (by decide +kernel)) rfl
theorem im_X5_workFor : Cond.instanceMethod yX5_workFor ∈ TBL := tbl_in (List.mem_of_getElem? (i := 1004) (by decide +kernel)) rfl
theorem sl_X5_workFor : Cond.selects yX5_workFor.cls yX5_workFor yX5_workFor ∈ TBL := tbl_in (List.mem_of_getElem? (i := 48) (by decide +kernel)) rfl
theorem ml_X5_207 : Cond.methodLink RX5 207 yX5_ties ∈ TBL := tbl_in (List.mem_of_getElem? (i := 1009) (by decide +kernel)) rfl
theorem im_X5_ties : Cond.instanceMethod yX5_ties ∈ TBL := tbl_in (List.mem_of_getElem? (i := 1011) (by decide +kernel)) rfl
theorem sl_X5_ties : Cond.selects yX5_ties.cls yX5_ties yX5_ties ∈ TBL := tbl_in (List.mem_of_getElem? (i := 49) (by decide +kernel)) rfl
theorem cl_X5_211 : Cond.constantLong RX5 211 (-9999) ∈ TBL := tbl_in (List.mem_of_getElem? (i := 1021) (by decide +kernel)) rfl
theorem cl_X5_213 : Cond.constantLong RX5 213 9999 ∈ TBL := tbl_in (List.mem_of_getElem? (i := 1022) (by decide +kernel)) rfl
theorem fl_X5_28 : Cond.fieldLink RX5 28 "ToldInKnotsModel" "up" "[I" ∈ TBL := tbl_in (List.mem_of_getElem? (i := 795) (by decide +kernel)) rfl
theorem fl_X5_31 : Cond.fieldLink RX5 31 "ToldInKnotsModel" "down" "[I" ∈ TBL := tbl_in (List.mem_of_getElem? (i := 796) (by decide +kernel)) rfl
theorem ml_X5_250 : Cond.methodLink RX5 250 yX5_areAlikeBelow ∈ TBL := tbl_in (List.mem_of_getElem? (i := 1119) (by decide +kernel)) rfl
theorem im_X5_areAlikeBelow : Cond.instanceMethod yX5_areAlikeBelow ∈ TBL := tbl_in (List.mem_of_getElem? (i := 1121) (by decide +kernel)) rfl
theorem sl_X5_areAlikeBelow : Cond.selects yX5_areAlikeBelow.cls yX5_areAlikeBelow yX5_areAlikeBelow ∈ TBL := tbl_in (List.mem_of_getElem? (i := 56) (by decide +kernel)) rfl
theorem cl_X5_253 : Cond.constantLong RX5 253 7919 ∈ TBL := tbl_in (List.mem_of_getElem? (i := 1127) (by decide +kernel)) rfl
theorem cl_X5_255 : Cond.constantLong RX5 255 6151 ∈ TBL := tbl_in (List.mem_of_getElem? (i := 1128) (by decide +kernel)) rfl
theorem cl_X5_257 : Cond.constantLong RX5 257 65521 ∈ TBL := tbl_in (List.mem_of_getElem? (i := 1129) (by decide +kernel)) rfl
theorem ml_X0_33 : Cond.methodLink RX0 33 yX0_hasCord ∈ TBL := tbl_in (List.mem_of_getElem? (i := 459) (by decide +kernel)) rfl
theorem ml_X0_62 : Cond.methodLink RX0 62 yX0_valueOf ∈ TBL := tbl_in (List.mem_of_getElem? (i := 438) (by decide +kernel)) rfl
theorem ml_X0_65 : Cond.methodLink RX0 65 Lib.Math.max.name ∈ TBL := tbl_in (List.mem_of_getElem? (i := 703) (by decide +kernel)) rfl
theorem ml_X0_95 : Cond.methodLink RX0 95 yX0_isFrom ∈ TBL := tbl_in (List.mem_of_getElem? (i := 434) (by decide +kernel)) rfl
theorem im_X0_isFrom : Cond.instanceMethod yX0_isFrom ∈ TBL := tbl_in (List.mem_of_getElem? (i := 435) (by decide +kernel)) rfl
theorem sl_X0_isFrom : Cond.selects yX0_isFrom.cls yX0_isFrom yX0_isFrom ∈ TBL := tbl_in (List.mem_of_getElem? (i := 436) (by decide +kernel)) rfl
theorem ml_X0_110 : Cond.methodLink RX0 110 yX0_knotsOf ∈ TBL := tbl_in (List.mem_of_getElem? (i := 761) (by decide +kernel)) rfl
theorem im_X0_knotsOf : Cond.instanceMethod yX0_knotsOf ∈ TBL := tbl_in (List.mem_of_getElem? (i := 444) (by decide +kernel)) rfl
theorem sl_X0_knotsOf : Cond.selects yX0_knotsOf.cls yX0_knotsOf yX0_knotsOf ∈ TBL := tbl_in (List.mem_of_getElem? (i := 445) (by decide +kernel)) rfl
theorem ml_X1_57 : Cond.methodLink RX1 57 yX1_comesBehindCord ∈ TBL := tbl_in (List.mem_of_getElem? (i := 302) (by decide +kernel)) rfl
theorem im_X1_comesBehindCord : Cond.instanceMethod yX1_comesBehindCord ∈ TBL := tbl_in (List.mem_of_getElem? (i := 304) (by decide +kernel)) rfl
theorem sl_X1_comesBehindCord : Cond.selects yX1_comesBehindCord.cls yX1_comesBehindCord yX1_comesBehindCord ∈ TBL := tbl_in (List.mem_of_getElem? (i := 6) (by decide +kernel)) rfl
theorem ml_X1_47 : Cond.methodLink RX1 47 yX1_opensCluster ∈ TBL := tbl_in (List.mem_of_getElem? (i := 279) (by decide +kernel)) rfl
theorem im_X1_opensCluster : Cond.instanceMethod yX1_opensCluster ∈ TBL := tbl_in (List.mem_of_getElem? (i := 281) (by decide +kernel)) rfl
theorem sl_X1_opensCluster : Cond.selects yX1_opensCluster.cls yX1_opensCluster yX1_opensCluster ∈ TBL := tbl_in (List.mem_of_getElem? (i := 3) (by decide +kernel)) rfl
theorem ml_X1_54 : Cond.methodLink RX1 54 yX1_opensHanging ∈ TBL := tbl_in (List.mem_of_getElem? (i := 298) (by decide +kernel)) rfl
theorem im_X1_opensHanging : Cond.instanceMethod yX1_opensHanging ∈ TBL := tbl_in (List.mem_of_getElem? (i := 300) (by decide +kernel)) rfl
theorem sl_X1_opensHanging : Cond.selects yX1_opensHanging.cls yX1_opensHanging yX1_opensHanging ∈ TBL := tbl_in (List.mem_of_getElem? (i := 5) (by decide +kernel)) rfl
theorem ml_X1_40 : Cond.methodLink RX1 40 yX1_opensGroup ∈ TBL := tbl_in (List.mem_of_getElem? (i := 243) (by decide +kernel)) rfl
theorem im_X1_opensGroup : Cond.instanceMethod yX1_opensGroup ∈ TBL := tbl_in (List.mem_of_getElem? (i := 245) (by decide +kernel)) rfl
theorem sl_X1_opensGroup : Cond.selects yX1_opensGroup.cls yX1_opensGroup yX1_opensGroup ∈ TBL := tbl_in (List.mem_of_getElem? (i := 1) (by decide +kernel)) rfl
theorem ml_X4_129 : Cond.methodLink RX4 129 yX0_knotsOf ∈ TBL := tbl_in (List.mem_of_getElem? (i := 443) (by decide +kernel)) rfl
theorem ml_X4_126 : Cond.methodLink RX4 126 yX0_valueFromOtherEnd ∈ TBL := tbl_in (List.mem_of_getElem? (i := 439) (by decide +kernel)) rfl
theorem im_X0_valueFromOtherEnd : Cond.instanceMethod yX0_valueFromOtherEnd ∈ TBL := tbl_in (List.mem_of_getElem? (i := 440) (by decide +kernel)) rfl
theorem sl_X0_valueFromOtherEnd : Cond.selects yX0_valueFromOtherEnd.cls yX0_valueFromOtherEnd yX0_valueFromOtherEnd ∈ TBL := tbl_in (List.mem_of_getElem? (i := 441) (by decide +kernel)) rfl
theorem ml_X4_123 : Cond.methodLink RX4 123 yX0_wholeOf ∈ TBL := tbl_in (List.mem_of_getElem? (i := 430) (by decide +kernel)) rfl
theorem im_X0_wholeOf : Cond.instanceMethod yX0_wholeOf ∈ TBL := tbl_in (List.mem_of_getElem? (i := 431) (by decide +kernel)) rfl
theorem sl_X0_wholeOf : Cond.selects yX0_wholeOf.cls yX0_wholeOf yX0_wholeOf ∈ TBL := tbl_in (List.mem_of_getElem? (i := 432) (by decide +kernel)) rfl
theorem ml_X4_114 : Cond.methodLink RX4 114 yX0_hangingFrom ∈ TBL := tbl_in (List.mem_of_getElem? (i := 398) (by decide +kernel)) rfl
theorem im_X0_hangingFrom : Cond.instanceMethod yX0_hangingFrom ∈ TBL := tbl_in (List.mem_of_getElem? (i := 399) (by decide +kernel)) rfl
theorem sl_X0_hangingFrom : Cond.selects yX0_hangingFrom.cls yX0_hangingFrom yX0_hangingFrom ∈ TBL := tbl_in (List.mem_of_getElem? (i := 400) (by decide +kernel)) rfl
theorem ml_X4_111 : Cond.methodLink RX4 111 yX0_depthOf ∈ TBL := tbl_in (List.mem_of_getElem? (i := 394) (by decide +kernel)) rfl
theorem ml_X4_108 : Cond.methodLink RX4 108 yX0_groupOf ∈ TBL := tbl_in (List.mem_of_getElem? (i := 390) (by decide +kernel)) rfl
theorem ml_X4_105 : Cond.methodLink RX4 105 yX0_holderOf ∈ TBL := tbl_in (List.mem_of_getElem? (i := 386) (by decide +kernel)) rfl
theorem ml_X4_132 : Cond.methodLink RX4 132 yX0_hasCluster ∈ TBL := tbl_in (List.mem_of_getElem? (i := 455) (by decide +kernel)) rfl
theorem im_X0_hasCluster : Cond.instanceMethod yX0_hasCluster ∈ TBL := tbl_in (List.mem_of_getElem? (i := 456) (by decide +kernel)) rfl
theorem sl_X0_hasCluster : Cond.selects yX0_hasCluster.cls yX0_hasCluster yX0_hasCluster ∈ TBL := tbl_in (List.mem_of_getElem? (i := 457) (by decide +kernel)) rfl
theorem ml_X4_174 : Cond.methodLink RX4 174 yX4_canCount ∈ TBL := tbl_in (List.mem_of_getElem? (i := 543) (by decide +kernel)) rfl
theorem ml_X4_177 : Cond.methodLink RX4 177 yX0_setCode ∈ TBL := tbl_in (List.mem_of_getElem? (i := 544) (by decide +kernel)) rfl
theorem ml_X4_187 : Cond.methodLink RX4 187 yX0_isPlainPendant ∈ TBL := tbl_in (List.mem_of_getElem? (i := 558) (by decide +kernel)) rfl
theorem im_X0_isPlainPendant : Cond.instanceMethod yX0_isPlainPendant ∈ TBL := tbl_in (List.mem_of_getElem? (i := 484) (by decide +kernel)) rfl
theorem sl_X0_isPlainPendant : Cond.selects yX0_isPlainPendant.cls yX0_isPlainPendant yX0_isPlainPendant ∈ TBL := tbl_in (List.mem_of_getElem? (i := 485) (by decide +kernel)) rfl
theorem ml_X4_190 : Cond.methodLink RX4 190 yX0_moveBehind ∈ TBL := tbl_in (List.mem_of_getElem? (i := 559) (by decide +kernel)) rfl
theorem im_X0_moveBehind : Cond.instanceMethod yX0_moveBehind ∈ TBL := tbl_in (List.mem_of_getElem? (i := 560) (by decide +kernel)) rfl
theorem sl_X0_moveBehind : Cond.selects yX0_moveBehind.cls yX0_moveBehind yX0_moveBehind ∈ TBL := tbl_in (List.mem_of_getElem? (i := 561) (by decide +kernel)) rfl
theorem ml_X4_146 : Cond.methodLink RX4 146 yX0_topOf ∈ TBL := tbl_in (List.mem_of_getElem? (i := 474) (by decide +kernel)) rfl
theorem im_X0_topOf : Cond.instanceMethod yX0_topOf ∈ TBL := tbl_in (List.mem_of_getElem? (i := 475) (by decide +kernel)) rfl
theorem sl_X0_topOf : Cond.selects yX0_topOf.cls yX0_topOf yX0_topOf ∈ TBL := tbl_in (List.mem_of_getElem? (i := 476) (by decide +kernel)) rfl
theorem ml_X4_214 : Cond.methodLink RX4 214 yX0_pendantAbove ∈ TBL := tbl_in (List.mem_of_getElem? (i := 613) (by decide +kernel)) rfl
theorem im_X0_pendantAbove : Cond.instanceMethod yX0_pendantAbove ∈ TBL := tbl_in (List.mem_of_getElem? (i := 614) (by decide +kernel)) rfl
theorem sl_X0_pendantAbove : Cond.selects yX0_pendantAbove.cls yX0_pendantAbove yX0_pendantAbove ∈ TBL := tbl_in (List.mem_of_getElem? (i := 615) (by decide +kernel)) rfl
theorem fl_X4_42 : Cond.fieldLink RX4 42 "ToldInKnots" "sets" "LToldInKnots$Sets;" ∈ TBL := tbl_in (List.mem_of_getElem? (i := 322) (by decide +kernel)) rfl
theorem ml_X4_242 : Cond.methodLink RX4 242 yX2_clear ∈ TBL := tbl_in (List.mem_of_getElem? (i := 639) (by decide +kernel)) rfl
theorem im_X2_clear : Cond.instanceMethod yX2_clear ∈ TBL := tbl_in (List.mem_of_getElem? (i := 640) (by decide +kernel)) rfl
theorem sl_X2_clear : Cond.selects yX2_clear.cls yX2_clear yX2_clear ∈ TBL := tbl_in (List.mem_of_getElem? (i := 641) (by decide +kernel)) rfl
theorem ml_X4_245 : Cond.methodLink RX4 245 yX2_findEvenest ∈ TBL := tbl_in (List.mem_of_getElem? (i := 648) (by decide +kernel)) rfl
theorem im_X2_findEvenest : Cond.instanceMethod yX2_findEvenest ∈ TBL := tbl_in (List.mem_of_getElem? (i := 649) (by decide +kernel)) rfl
theorem sl_X2_findEvenest : Cond.selects yX2_findEvenest.cls yX2_findEvenest yX2_findEvenest ∈ TBL := tbl_in (List.mem_of_getElem? (i := 650) (by decide +kernel)) rfl
theorem ml_X4_243 : Cond.methodLink RX4 243 yX2_add ∈ TBL := tbl_in (List.mem_of_getElem? (i := 643) (by decide +kernel)) rfl
theorem im_X2_add : Cond.instanceMethod yX2_add ∈ TBL := tbl_in (List.mem_of_getElem? (i := 644) (by decide +kernel)) rfl
theorem sl_X2_add : Cond.selects yX2_add.cls yX2_add yX2_add ∈ TBL := tbl_in (List.mem_of_getElem? (i := 645) (by decide +kernel)) rfl
theorem ml_X4_254 : Cond.methodLink RX4 254 yX2_findFewest ∈ TBL := tbl_in (List.mem_of_getElem? (i := 690) (by decide +kernel)) rfl
theorem im_X2_findFewest : Cond.instanceMethod yX2_findFewest ∈ TBL := tbl_in (List.mem_of_getElem? (i := 691) (by decide +kernel)) rfl
theorem sl_X2_findFewest : Cond.selects yX2_findFewest.cls yX2_findFewest yX2_findFewest ∈ TBL := tbl_in (List.mem_of_getElem? (i := 692) (by decide +kernel)) rfl
theorem ml_X4_257 : Cond.methodLink RX4 257 yX0_told ∈ TBL := tbl_in (List.mem_of_getElem? (i := 699) (by decide +kernel)) rfl
theorem im_X0_told : Cond.instanceMethod yX0_told ∈ TBL := tbl_in (List.mem_of_getElem? (i := 700) (by decide +kernel)) rfl
theorem sl_X0_told : Cond.selects yX0_told.cls yX0_told yX0_told ∈ TBL := tbl_in (List.mem_of_getElem? (i := 701) (by decide +kernel)) rfl
theorem ml_X4_260 : Cond.methodLink RX4 260 yX0_cordsFrom ∈ TBL := tbl_in (List.mem_of_getElem? (i := 712) (by decide +kernel)) rfl
theorem im_X0_cordsFrom : Cond.instanceMethod yX0_cordsFrom ∈ TBL := tbl_in (List.mem_of_getElem? (i := 713) (by decide +kernel)) rfl
theorem sl_X0_cordsFrom : Cond.selects yX0_cordsFrom.cls yX0_cordsFrom yX0_cordsFrom ∈ TBL := tbl_in (List.mem_of_getElem? (i := 714) (by decide +kernel)) rfl
theorem ml_X4_263 : Cond.methodLink RX4 263 yX0_looksLike ∈ TBL := tbl_in (List.mem_of_getElem? (i := 716) (by decide +kernel)) rfl
theorem im_X0_looksLike : Cond.instanceMethod yX0_looksLike ∈ TBL := tbl_in (List.mem_of_getElem? (i := 717) (by decide +kernel)) rfl
theorem sl_X0_looksLike : Cond.selects yX0_looksLike.cls yX0_looksLike yX0_looksLike ∈ TBL := tbl_in (List.mem_of_getElem? (i := 718) (by decide +kernel)) rfl
theorem ml_X4_266 : Cond.methodLink RX4 266 yX4_drawn ∈ TBL := tbl_in (List.mem_of_getElem? (i := 725) (by decide +kernel)) rfl
theorem st_X4_drawn : Cond.static yX4_drawn ∈ TBL := tbl_in (List.mem_of_getElem? (i := 726) (by decide +kernel)) rfl
theorem ml_X4_269 : Cond.methodLink RX4 269 Lib.Math.min.name ∈ TBL := tbl_in (List.mem_of_getElem? (i := 733) (by decide +kernel)) rfl
theorem ml_X4_281 : Cond.methodLink RX4 281 yX0_allKnots ∈ TBL := tbl_in (List.mem_of_getElem? (i := 757) (by decide +kernel)) rfl
theorem im_X0_allKnots : Cond.instanceMethod yX0_allKnots ∈ TBL := tbl_in (List.mem_of_getElem? (i := 758) (by decide +kernel)) rfl
theorem sl_X0_allKnots : Cond.selects yX0_allKnots.cls yX0_allKnots yX0_allKnots ∈ TBL := tbl_in (List.mem_of_getElem? (i := 759) (by decide +kernel)) rfl
theorem ml_X4_278 : Cond.methodLink RX4 278 yX0_wellKnotted ∈ TBL := tbl_in (List.mem_of_getElem? (i := 753) (by decide +kernel)) rfl
theorem im_X0_wellKnotted : Cond.instanceMethod yX0_wellKnotted ∈ TBL := tbl_in (List.mem_of_getElem? (i := 754) (by decide +kernel)) rfl
theorem sl_X0_wellKnotted : Cond.selects yX0_wellKnotted.cls yX0_wellKnotted yX0_wellKnotted ∈ TBL := tbl_in (List.mem_of_getElem? (i := 755) (by decide +kernel)) rfl
theorem ml_X4_275 : Cond.methodLink RX4 275 yX0_tops ∈ TBL := tbl_in (List.mem_of_getElem? (i := 749) (by decide +kernel)) rfl
theorem im_X0_tops : Cond.instanceMethod yX0_tops ∈ TBL := tbl_in (List.mem_of_getElem? (i := 750) (by decide +kernel)) rfl
theorem sl_X0_tops : Cond.selects yX0_tops.cls yX0_tops yX0_tops ∈ TBL := tbl_in (List.mem_of_getElem? (i := 751) (by decide +kernel)) rfl
theorem ml_X4_272 : Cond.methodLink RX4 272 yX0_groups ∈ TBL := tbl_in (List.mem_of_getElem? (i := 748) (by decide +kernel)) rfl
theorem ml_X5_115 : Cond.methodLink RX5 115 yX5_takes ∈ TBL := tbl_in (List.mem_of_getElem? (i := 852) (by decide +kernel)) rfl
theorem im_X5_takes : Cond.instanceMethod yX5_takes ∈ TBL := tbl_in (List.mem_of_getElem? (i := 854) (by decide +kernel)) rfl
theorem sl_X5_takes : Cond.selects yX5_takes.cls yX5_takes yX5_takes ∈ TBL := tbl_in (List.mem_of_getElem? (i := 20) (by decide +kernel)) rfl
theorem ml_X5_150 : Cond.methodLink RX5 150 yX5_beneath ∈ TBL := tbl_in (List.mem_of_getElem? (i := 935) (by decide +kernel)) rfl
theorem im_X5_beneath : Cond.instanceMethod yX5_beneath ∈ TBL := tbl_in (List.mem_of_getElem? (i := 937) (by decide +kernel)) rfl
theorem sl_X5_beneath : Cond.selects yX5_beneath.cls yX5_beneath yX5_beneath ∈ TBL := tbl_in (List.mem_of_getElem? (i := 37) (by decide +kernel)) rfl
theorem ml_X5_183 : Cond.methodLink RX5 183 yX5_isGroup ∈ TBL := tbl_in (List.mem_of_getElem? (i := 958) (by decide +kernel)) rfl
theorem im_X5_isGroup : Cond.instanceMethod yX5_isGroup ∈ TBL := tbl_in (List.mem_of_getElem? (i := 960) (by decide +kernel)) rfl
theorem sl_X5_isGroup : Cond.selects yX5_isGroup.cls yX5_isGroup yX5_isGroup ∈ TBL := tbl_in (List.mem_of_getElem? (i := 40) (by decide +kernel)) rfl
theorem ml_X5_192 : Cond.methodLink RX5 192 yX5_pendantAt ∈ TBL := tbl_in (List.mem_of_getElem? (i := 991) (by decide +kernel)) rfl
theorem im_X5_pendantAt : Cond.instanceMethod yX5_pendantAt ∈ TBL := tbl_in (List.mem_of_getElem? (i := 993) (by decide +kernel)) rfl
theorem sl_X5_pendantAt : Cond.selects yX5_pendantAt.cls yX5_pendantAt yX5_pendantAt ∈ TBL := tbl_in (List.mem_of_getElem? (i := 47) (by decide +kernel)) rfl
theorem ml_X5_186 : Cond.methodLink RX5 186 yX5_manyOf ∈ TBL := tbl_in (List.mem_of_getElem? (i := 962) (by decide +kernel)) rfl
theorem im_X5_manyOf : Cond.instanceMethod yX5_manyOf ∈ TBL := tbl_in (List.mem_of_getElem? (i := 964) (by decide +kernel)) rfl
theorem sl_X5_manyOf : Cond.selects yX5_manyOf.cls yX5_manyOf yX5_manyOf ∈ TBL := tbl_in (List.mem_of_getElem? (i := 41) (by decide +kernel)) rfl
theorem fl_X5_40 : Cond.fieldLink RX5 40 "ToldInKnotsModel" "longest" "[I" ∈ TBL := tbl_in (List.mem_of_getElem? (i := 799) (by decide +kernel)) rfl
theorem ml_X5_235 : Cond.methodLink RX5 235 yX5_layValues ∈ TBL := tbl_in (List.mem_of_getElem? (i := 1084) (by decide +kernel)) rfl
theorem im_X5_layValues : Cond.instanceMethod yX5_layValues ∈ TBL := tbl_in (List.mem_of_getElem? (i := 1086) (by decide +kernel)) rfl
theorem sl_X5_layValues : Cond.selects yX5_layValues.cls yX5_layValues yX5_layValues ∈ TBL := tbl_in (List.mem_of_getElem? (i := 52) (by decide +kernel)) rfl
theorem ml_X5_238 : Cond.methodLink RX5 238 yX5_tellOf ∈ TBL := tbl_in (List.mem_of_getElem? (i := 1088) (by decide +kernel)) rfl
theorem im_X5_tellOf : Cond.instanceMethod yX5_tellOf ∈ TBL := tbl_in (List.mem_of_getElem? (i := 1090) (by decide +kernel)) rfl
theorem sl_X5_tellOf : Cond.selects yX5_tellOf.cls yX5_tellOf yX5_tellOf ∈ TBL := tbl_in (List.mem_of_getElem? (i := 53) (by decide +kernel)) rfl
theorem ct_X5_226 : Cond.constant RX5 226 1000000 ∈ TBL := tbl_in (List.mem_of_getElem? (i := 1056) (by decide +kernel)) rfl
theorem ml_X5_227 : Cond.methodLink RX5 227 yX5_plain ∈ TBL := tbl_in (List.mem_of_getElem? (i := 1057) (by decide +kernel)) rfl
theorem st_X5_plain : Cond.static yX5_plain ∈ TBL := tbl_in (List.mem_of_getElem? (i := 1058) (by decide +kernel)) rfl
theorem ml_X5_241 : Cond.methodLink RX5 241 yX5_bits ∈ TBL := tbl_in (List.mem_of_getElem? (i := 1096) (by decide +kernel)) rfl
theorem st_X5_bits : Cond.static yX5_bits ∈ TBL := tbl_in (List.mem_of_getElem? (i := 1097) (by decide +kernel)) rfl
theorem ml_X0_98 : Cond.methodLink RX0 98 yX0_isPlainPendant ∈ TBL := tbl_in (List.mem_of_getElem? (i := 483) (by decide +kernel)) rfl
theorem ml_X0_101 : Cond.methodLink RX0 101 yX0_wholeOf ∈ TBL := tbl_in (List.mem_of_getElem? (i := 488) (by decide +kernel)) rfl
theorem ml_X1_22 : Cond.methodLink RX1 22 yX0_clear ∈ TBL := tbl_in (List.mem_of_getElem? (i := 232) (by decide +kernel)) rfl
theorem im_X0_clear : Cond.instanceMethod yX0_clear ∈ TBL := tbl_in (List.mem_of_getElem? (i := 233) (by decide +kernel)) rfl
theorem sl_X0_clear : Cond.selects yX0_clear.cls yX0_clear yX0_clear ∈ TBL := tbl_in (List.mem_of_getElem? (i := 234) (by decide +kernel)) rfl
theorem ml_X1_36 : Cond.methodLink RX1 36 yX1_takes ∈ TBL := tbl_in (List.mem_of_getElem? (i := 239) (by decide +kernel)) rfl
theorem im_X1_takes : Cond.instanceMethod yX1_takes ∈ TBL := tbl_in (List.mem_of_getElem? (i := 241) (by decide +kernel)) rfl
theorem sl_X1_takes : Cond.selects yX1_takes.cls yX1_takes yX1_takes ∈ TBL := tbl_in (List.mem_of_getElem? (i := 0) (by decide +kernel)) rfl
theorem ml_X5_128 : Cond.methodLink RX5 128 yX5_fault ∈ TBL := tbl_in (List.mem_of_getElem? (i := 898) (by decide +kernel)) rfl
theorem im_X5_fault : Cond.instanceMethod yX5_fault ∈ TBL := tbl_in (List.mem_of_getElem? (i := 849) (by decide +kernel)) rfl
theorem sl_X5_fault : Cond.selects yX5_fault.cls yX5_fault yX5_fault ∈ TBL := tbl_in (List.mem_of_getElem? (i := 850) (by decide +kernel)) rfl
theorem ml_X5_51 : Cond.methodLink RX5 51 yX5_begins ∈ TBL := tbl_in (List.mem_of_getElem? (i := 776) (by decide +kernel)) rfl
theorem im_X5_begins : Cond.instanceMethod yX5_begins ∈ TBL := tbl_in (List.mem_of_getElem? (i := 778) (by decide +kernel)) rfl
theorem sl_X5_begins : Cond.selects yX5_begins.cls yX5_begins yX5_begins ∈ TBL := tbl_in (List.mem_of_getElem? (i := 19) (by decide +kernel)) rfl
theorem ml_X5_165 : Cond.methodLink RX5 165 yX5_whole ∈ TBL := tbl_in (List.mem_of_getElem? (i := 931) (by decide +kernel)) rfl
theorem im_X5_whole : Cond.instanceMethod yX5_whole ∈ TBL := tbl_in (List.mem_of_getElem? (i := 933) (by decide +kernel)) rfl
theorem sl_X5_whole : Cond.selects yX5_whole.cls yX5_whole yX5_whole ∈ TBL := tbl_in (List.mem_of_getElem? (i := 36) (by decide +kernel)) rfl
theorem ml_X5_159 : Cond.methodLink RX5 159 yX5_depthOf ∈ TBL := tbl_in (List.mem_of_getElem? (i := 911) (by decide +kernel)) rfl
theorem im_X5_depthOf : Cond.instanceMethod yX5_depthOf ∈ TBL := tbl_in (List.mem_of_getElem? (i := 913) (by decide +kernel)) rfl
theorem sl_X5_depthOf : Cond.selects yX5_depthOf.cls yX5_depthOf yX5_depthOf ∈ TBL := tbl_in (List.mem_of_getElem? (i := 31) (by decide +kernel)) rfl
theorem ml_X5_176 : Cond.methodLink RX5 176 yX5_topOf ∈ TBL := tbl_in (List.mem_of_getElem? (i := 974) (by decide +kernel)) rfl
theorem im_X5_topOf : Cond.instanceMethod yX5_topOf ∈ TBL := tbl_in (List.mem_of_getElem? (i := 976) (by decide +kernel)) rfl
theorem sl_X5_topOf : Cond.selects yX5_topOf.cls yX5_topOf yX5_topOf ∈ TBL := tbl_in (List.mem_of_getElem? (i := 44) (by decide +kernel)) rfl
theorem ml_X0_104 : Cond.methodLink RX0 104 yX0_topOf ∈ TBL := tbl_in (List.mem_of_getElem? (i := 493) (by decide +kernel)) rfl
theorem ml_X0_107 : Cond.methodLink RX0 107 yX0_sumOf ∈ TBL := tbl_in (List.mem_of_getElem? (i := 494) (by decide +kernel)) rfl
theorem im_X0_sumOf : Cond.instanceMethod yX0_sumOf ∈ TBL := tbl_in (List.mem_of_getElem? (i := 480) (by decide +kernel)) rfl
theorem sl_X0_sumOf : Cond.selects yX0_sumOf.cls yX0_sumOf yX0_sumOf ∈ TBL := tbl_in (List.mem_of_getElem? (i := 481) (by decide +kernel)) rfl
theorem fl_X4_16 : Cond.fieldLink RX4 16 "ToldInKnots" "reader" "LToldInKnots$Reader;" ∈ TBL := tbl_in (List.mem_of_getElem? (i := 318) (by decide +kernel)) rfl
theorem ml_X4_71 : Cond.methodLink RX4 71 yX1_read ∈ TBL := tbl_in (List.mem_of_getElem? (i := 228) (by decide +kernel)) rfl
theorem im_X1_read : Cond.instanceMethod yX1_read ∈ TBL := tbl_in (List.mem_of_getElem? (i := 229) (by decide +kernel)) rfl
theorem sl_X1_read : Cond.selects yX1_read.cls yX1_read yX1_read ∈ TBL := tbl_in (List.mem_of_getElem? (i := 230) (by decide +kernel)) rfl
theorem ml_X4_81 : Cond.methodLink RX4 81 yX0_becomeAs ∈ TBL := tbl_in (List.mem_of_getElem? (i := 306) (by decide +kernel)) rfl
theorem im_X0_becomeAs : Cond.instanceMethod yX0_becomeAs ∈ TBL := tbl_in (List.mem_of_getElem? (i := 307) (by decide +kernel)) rfl
theorem sl_X0_becomeAs : Cond.selects yX0_becomeAs.cls yX0_becomeAs yX0_becomeAs ∈ TBL := tbl_in (List.mem_of_getElem? (i := 308) (by decide +kernel)) rfl
theorem ml_X4_152 : Cond.methodLink RX4 152 yX0_canBeCompared ∈ TBL := tbl_in (List.mem_of_getElem? (i := 489) (by decide +kernel)) rfl
theorem im_X0_canBeCompared : Cond.instanceMethod yX0_canBeCompared ∈ TBL := tbl_in (List.mem_of_getElem? (i := 490) (by decide +kernel)) rfl
theorem sl_X0_canBeCompared : Cond.selects yX0_canBeCompared.cls yX0_canBeCompared yX0_canBeCompared ∈ TBL := tbl_in (List.mem_of_getElem? (i := 491) (by decide +kernel)) rfl
theorem ml_X4_155 : Cond.methodLink RX4 155 yX0_excessOf ∈ TBL := tbl_in (List.mem_of_getElem? (i := 495) (by decide +kernel)) rfl
theorem im_X0_excessOf : Cond.instanceMethod yX0_excessOf ∈ TBL := tbl_in (List.mem_of_getElem? (i := 496) (by decide +kernel)) rfl
theorem sl_X0_excessOf : Cond.selects yX0_excessOf.cls yX0_excessOf yX0_excessOf ∈ TBL := tbl_in (List.mem_of_getElem? (i := 497) (by decide +kernel)) rfl
theorem ml_X4_149 : Cond.methodLink RX4 149 yX0_sumOf ∈ TBL := tbl_in (List.mem_of_getElem? (i := 479) (by decide +kernel)) rfl
theorem ct_X4_199 : Cond.constant RX4 199 100000 ∈ TBL := tbl_in (List.mem_of_getElem? (i := 575) (by decide +kernel)) rfl
theorem ml_X4_210 : Cond.methodLink RX4 210 yX4_slipAt ∈ TBL := tbl_in (List.mem_of_getElem? (i := 604) (by decide +kernel)) rfl
theorem im_X4_slipAt : Cond.instanceMethod yX4_slipAt ∈ TBL := tbl_in (List.mem_of_getElem? (i := 606) (by decide +kernel)) rfl
theorem sl_X4_slipAt : Cond.selects yX4_slipAt.cls yX4_slipAt yX4_slipAt ∈ TBL := tbl_in (List.mem_of_getElem? (i := 8) (by decide +kernel)) rfl
theorem ml_X4_293 : Cond.methodLink RX4 293 yJ9_floorMod_7cf53 ∈ TBL := tbl_in (List.mem_of_getElem? (i := 597) (by decide +kernel)) rfl
theorem st_J9_floorMod_7cf53 : Cond.static yJ9_floorMod_7cf53 ∈ TBL := tbl_in (List.mem_of_getElem? (i := 598) (by decide +kernel)) rfl
theorem ml_X4_290 : Cond.methodLink RX4 290 Lib.Math.abs.name ∈ TBL := tbl_in (List.mem_of_getElem? (i := 594) (by decide +kernel)) rfl
theorem ml_X4_203 : Cond.methodLink RX4 203 yX4_leastMoves ∈ TBL := tbl_in (List.mem_of_getElem? (i := 591) (by decide +kernel)) rfl
theorem st_X4_leastMoves : Cond.static yX4_leastMoves ∈ TBL := tbl_in (List.mem_of_getElem? (i := 592) (by decide +kernel)) rfl
theorem ml_X5_179 : Cond.methodLink RX5 179 yX5_sumOf ∈ TBL := tbl_in (List.mem_of_getElem? (i := 978) (by decide +kernel)) rfl
theorem im_X5_sumOf : Cond.instanceMethod yX5_sumOf ∈ TBL := tbl_in (List.mem_of_getElem? (i := 980) (by decide +kernel)) rfl
theorem sl_X5_sumOf : Cond.selects yX5_sumOf.cls yX5_sumOf yX5_sumOf ∈ TBL := tbl_in (List.mem_of_getElem? (i := 45) (by decide +kernel)) rfl
theorem ct_X5_182 : Cond.constant RX5 182 100000 ∈ TBL := tbl_in (List.mem_of_getElem? (i := 986) (by decide +kernel)) rfl
theorem ml_X4_200 : Cond.methodLink RX4 200 yX4_measureRoom ∈ TBL := tbl_in (List.mem_of_getElem? (i := 580) (by decide +kernel)) rfl
theorem im_X4_measureRoom : Cond.instanceMethod yX4_measureRoom ∈ TBL := tbl_in (List.mem_of_getElem? (i := 582) (by decide +kernel)) rfl
theorem sl_X4_measureRoom : Cond.selects yX4_measureRoom.cls yX4_measureRoom yX4_measureRoom ∈ TBL := tbl_in (List.mem_of_getElem? (i := 7) (by decide +kernel)) rfl
theorem ml_X5_189 : Cond.methodLink RX5 189 yX5_wrongBy ∈ TBL := tbl_in (List.mem_of_getElem? (i := 982) (by decide +kernel)) rfl
theorem im_X5_wrongBy : Cond.instanceMethod yX5_wrongBy ∈ TBL := tbl_in (List.mem_of_getElem? (i := 984) (by decide +kernel)) rfl
theorem sl_X5_wrongBy : Cond.selects yX5_wrongBy.cls yX5_wrongBy yX5_wrongBy ∈ TBL := tbl_in (List.mem_of_getElem? (i := 46) (by decide +kernel)) rfl
theorem ml_X5_222 : Cond.methodLink RX5 222 yX5_layRoom ∈ TBL := tbl_in (List.mem_of_getElem? (i := 1052) (by decide +kernel)) rfl
theorem im_X5_layRoom : Cond.instanceMethod yX5_layRoom ∈ TBL := tbl_in (List.mem_of_getElem? (i := 1054) (by decide +kernel)) rfl
theorem sl_X5_layRoom : Cond.selects yX5_layRoom.cls yX5_layRoom yX5_layRoom ∈ TBL := tbl_in (List.mem_of_getElem? (i := 51) (by decide +kernel)) rfl
theorem ml_L_13 : Cond.methodLink RL 13 yX4_write ∈ TBL := tbl_in (List.mem_of_getElem? (i := 351) (by decide +kernel)) rfl
theorem im_X4_write : Cond.instanceMethod yX4_write ∈ TBL := tbl_in (List.mem_of_getElem? (i := 352) (by decide +kernel)) rfl
theorem sl_X4_write : Cond.selects yX4_write.cls yX4_write yX4_write ∈ TBL := tbl_in (List.mem_of_getElem? (i := 353) (by decide +kernel)) rfl
theorem ml_L_17 : Cond.methodLink RL 17 yX5_write ∈ TBL := tbl_in (List.mem_of_getElem? (i := 835) (by decide +kernel)) rfl
theorem im_X5_write : Cond.instanceMethod yX5_write ∈ TBL := tbl_in (List.mem_of_getElem? (i := 836) (by decide +kernel)) rfl
theorem sl_X5_write : Cond.selects yX5_write.cls yX5_write yX5_write ∈ TBL := tbl_in (List.mem_of_getElem? (i := 837) (by decide +kernel)) rfl
theorem ml_L_18 : Cond.methodLink RL 18 yX4_wipe ∈ TBL := tbl_in (List.mem_of_getElem? (i := 355) (by decide +kernel)) rfl
theorem im_X4_wipe : Cond.instanceMethod yX4_wipe ∈ TBL := tbl_in (List.mem_of_getElem? (i := 356) (by decide +kernel)) rfl
theorem sl_X4_wipe : Cond.selects yX4_wipe.cls yX4_wipe yX4_wipe ∈ TBL := tbl_in (List.mem_of_getElem? (i := 357) (by decide +kernel)) rfl
theorem ml_L_22 : Cond.methodLink RL 22 yX5_wipe ∈ TBL := tbl_in (List.mem_of_getElem? (i := 844) (by decide +kernel)) rfl
theorem im_X5_wipe : Cond.instanceMethod yX5_wipe ∈ TBL := tbl_in (List.mem_of_getElem? (i := 845) (by decide +kernel)) rfl
theorem sl_X5_wipe : Cond.selects yX5_wipe.cls yX5_wipe yX5_wipe ∈ TBL := tbl_in (List.mem_of_getElem? (i := 846) (by decide +kernel)) rfl
theorem ml_L_23 : Cond.methodLink RL 23 yX4_fault ∈ TBL := tbl_in (List.mem_of_getElem? (i := 359) (by decide +kernel)) rfl
theorem im_X4_fault : Cond.instanceMethod yX4_fault ∈ TBL := tbl_in (List.mem_of_getElem? (i := 360) (by decide +kernel)) rfl
theorem sl_X4_fault : Cond.selects yX4_fault.cls yX4_fault yX4_fault ∈ TBL := tbl_in (List.mem_of_getElem? (i := 361) (by decide +kernel)) rfl
theorem ml_L_26 : Cond.methodLink RL 26 yX5_fault ∈ TBL := tbl_in (List.mem_of_getElem? (i := 848) (by decide +kernel)) rfl
theorem ml_L_27 : Cond.methodLink RL 27 yX4_lay ∈ TBL := tbl_in (List.mem_of_getElem? (i := 363) (by decide +kernel)) rfl
theorem im_X4_lay : Cond.instanceMethod yX4_lay ∈ TBL := tbl_in (List.mem_of_getElem? (i := 364) (by decide +kernel)) rfl
theorem sl_X4_lay : Cond.selects yX4_lay.cls yX4_lay yX4_lay ∈ TBL := tbl_in (List.mem_of_getElem? (i := 365) (by decide +kernel)) rfl
theorem ml_L_30 : Cond.methodLink RL 30 yX5_lay ∈ TBL := tbl_in (List.mem_of_getElem? (i := 894) (by decide +kernel)) rfl
theorem im_X5_lay : Cond.instanceMethod yX5_lay ∈ TBL := tbl_in (List.mem_of_getElem? (i := 895) (by decide +kernel)) rfl
theorem sl_X5_lay : Cond.selects yX5_lay.cls yX5_lay yX5_lay ∈ TBL := tbl_in (List.mem_of_getElem? (i := 896) (by decide +kernel)) rfl
theorem ml_L_31 : Cond.methodLink RL 31 yX4_cord ∈ TBL := tbl_in (List.mem_of_getElem? (i := 372) (by decide +kernel)) rfl
theorem im_X4_cord : Cond.instanceMethod yX4_cord ∈ TBL := tbl_in (List.mem_of_getElem? (i := 373) (by decide +kernel)) rfl
theorem sl_X4_cord : Cond.selects yX4_cord.cls yX4_cord yX4_cord ∈ TBL := tbl_in (List.mem_of_getElem? (i := 374) (by decide +kernel)) rfl
theorem ml_L_35 : Cond.methodLink RL 35 yX5_cord ∈ TBL := tbl_in (List.mem_of_getElem? (i := 899) (by decide +kernel)) rfl
theorem im_X5_cord : Cond.instanceMethod yX5_cord ∈ TBL := tbl_in (List.mem_of_getElem? (i := 900) (by decide +kernel)) rfl
theorem sl_X5_cord : Cond.selects yX5_cord.cls yX5_cord yX5_cord ∈ TBL := tbl_in (List.mem_of_getElem? (i := 901) (by decide +kernel)) rfl
theorem ml_L_36 : Cond.methodLink RL 36 yX4_cluster ∈ TBL := tbl_in (List.mem_of_getElem? (i := 451) (by decide +kernel)) rfl
theorem im_X4_cluster : Cond.instanceMethod yX4_cluster ∈ TBL := tbl_in (List.mem_of_getElem? (i := 452) (by decide +kernel)) rfl
theorem sl_X4_cluster : Cond.selects yX4_cluster.cls yX4_cluster yX4_cluster ∈ TBL := tbl_in (List.mem_of_getElem? (i := 453) (by decide +kernel)) rfl
theorem ml_L_39 : Cond.methodLink RL 39 yX5_cluster ∈ TBL := tbl_in (List.mem_of_getElem? (i := 950) (by decide +kernel)) rfl
theorem im_X5_cluster : Cond.instanceMethod yX5_cluster ∈ TBL := tbl_in (List.mem_of_getElem? (i := 951) (by decide +kernel)) rfl
theorem sl_X5_cluster : Cond.selects yX5_cluster.cls yX5_cluster yX5_cluster ∈ TBL := tbl_in (List.mem_of_getElem? (i := 952) (by decide +kernel)) rfl
theorem ml_L_40 : Cond.methodLink RL 40 yX4_group ∈ TBL := tbl_in (List.mem_of_getElem? (i := 461) (by decide +kernel)) rfl
theorem im_X4_group : Cond.instanceMethod yX4_group ∈ TBL := tbl_in (List.mem_of_getElem? (i := 462) (by decide +kernel)) rfl
theorem sl_X4_group : Cond.selects yX4_group.cls yX4_group yX4_group ∈ TBL := tbl_in (List.mem_of_getElem? (i := 463) (by decide +kernel)) rfl
theorem ml_L_43 : Cond.methodLink RL 43 yX5_group ∈ TBL := tbl_in (List.mem_of_getElem? (i := 954) (by decide +kernel)) rfl
theorem im_X5_group : Cond.instanceMethod yX5_group ∈ TBL := tbl_in (List.mem_of_getElem? (i := 955) (by decide +kernel)) rfl
theorem sl_X5_group : Cond.selects yX5_group.cls yX5_group yX5_group ∈ TBL := tbl_in (List.mem_of_getElem? (i := 956) (by decide +kernel)) rfl
theorem ml_L_44 : Cond.methodLink RL 44 yX4_pendant ∈ TBL := tbl_in (List.mem_of_getElem? (i := 499) (by decide +kernel)) rfl
theorem im_X4_pendant : Cond.instanceMethod yX4_pendant ∈ TBL := tbl_in (List.mem_of_getElem? (i := 500) (by decide +kernel)) rfl
theorem sl_X4_pendant : Cond.selects yX4_pendant.cls yX4_pendant yX4_pendant ∈ TBL := tbl_in (List.mem_of_getElem? (i := 501) (by decide +kernel)) rfl
theorem ml_L_47 : Cond.methodLink RL 47 yX5_pendant ∈ TBL := tbl_in (List.mem_of_getElem? (i := 987) (by decide +kernel)) rfl
theorem im_X5_pendant : Cond.instanceMethod yX5_pendant ∈ TBL := tbl_in (List.mem_of_getElem? (i := 988) (by decide +kernel)) rfl
theorem sl_X5_pendant : Cond.selects yX5_pendant.cls yX5_pendant yX5_pendant ∈ TBL := tbl_in (List.mem_of_getElem? (i := 989) (by decide +kernel)) rfl
theorem ml_L_48 : Cond.methodLink RL 48 yX4_tie ∈ TBL := tbl_in (List.mem_of_getElem? (i := 507) (by decide +kernel)) rfl
theorem im_X4_tie : Cond.instanceMethod yX4_tie ∈ TBL := tbl_in (List.mem_of_getElem? (i := 508) (by decide +kernel)) rfl
theorem sl_X4_tie : Cond.selects yX4_tie.cls yX4_tie yX4_tie ∈ TBL := tbl_in (List.mem_of_getElem? (i := 509) (by decide +kernel)) rfl
theorem ml_L_51 : Cond.methodLink RL 51 yX5_tie ∈ TBL := tbl_in (List.mem_of_getElem? (i := 995) (by decide +kernel)) rfl
theorem im_X5_tie : Cond.instanceMethod yX5_tie ∈ TBL := tbl_in (List.mem_of_getElem? (i := 996) (by decide +kernel)) rfl
theorem sl_X5_tie : Cond.selects yX5_tie.cls yX5_tie yX5_tie ∈ TBL := tbl_in (List.mem_of_getElem? (i := 997) (by decide +kernel)) rfl
theorem ml_L_52 : Cond.methodLink RL 52 yX4_more ∈ TBL := tbl_in (List.mem_of_getElem? (i := 535) (by decide +kernel)) rfl
theorem im_X4_more : Cond.instanceMethod yX4_more ∈ TBL := tbl_in (List.mem_of_getElem? (i := 536) (by decide +kernel)) rfl
theorem sl_X4_more : Cond.selects yX4_more.cls yX4_more yX4_more ∈ TBL := tbl_in (List.mem_of_getElem? (i := 537) (by decide +kernel)) rfl
theorem ml_L_55 : Cond.methodLink RL 55 yX5_more ∈ TBL := tbl_in (List.mem_of_getElem? (i := 1017) (by decide +kernel)) rfl
theorem im_X5_more : Cond.instanceMethod yX5_more ∈ TBL := tbl_in (List.mem_of_getElem? (i := 1018) (by decide +kernel)) rfl
theorem sl_X5_more : Cond.selects yX5_more.cls yX5_more yX5_more ∈ TBL := tbl_in (List.mem_of_getElem? (i := 1019) (by decide +kernel)) rfl
theorem ml_L_56 : Cond.methodLink RL 56 yX4_knot ∈ TBL := tbl_in (List.mem_of_getElem? (i := 539) (by decide +kernel)) rfl
theorem im_X4_knot : Cond.instanceMethod yX4_knot ∈ TBL := tbl_in (List.mem_of_getElem? (i := 540) (by decide +kernel)) rfl
theorem sl_X4_knot : Cond.selects yX4_knot.cls yX4_knot yX4_knot ∈ TBL := tbl_in (List.mem_of_getElem? (i := 541) (by decide +kernel)) rfl
theorem ml_L_60 : Cond.methodLink RL 60 yX5_knot ∈ TBL := tbl_in (List.mem_of_getElem? (i := 1023) (by decide +kernel)) rfl
theorem im_X5_knot : Cond.instanceMethod yX5_knot ∈ TBL := tbl_in (List.mem_of_getElem? (i := 1024) (by decide +kernel)) rfl
theorem sl_X5_knot : Cond.selects yX5_knot.cls yX5_knot yX5_knot ∈ TBL := tbl_in (List.mem_of_getElem? (i := 1025) (by decide +kernel)) rfl
theorem ml_L_61 : Cond.methodLink RL 61 yX4_dye ∈ TBL := tbl_in (List.mem_of_getElem? (i := 545) (by decide +kernel)) rfl
theorem im_X4_dye : Cond.instanceMethod yX4_dye ∈ TBL := tbl_in (List.mem_of_getElem? (i := 546) (by decide +kernel)) rfl
theorem sl_X4_dye : Cond.selects yX4_dye.cls yX4_dye yX4_dye ∈ TBL := tbl_in (List.mem_of_getElem? (i := 547) (by decide +kernel)) rfl
theorem ml_L_64 : Cond.methodLink RL 64 yX5_dye ∈ TBL := tbl_in (List.mem_of_getElem? (i := 1032) (by decide +kernel)) rfl
theorem im_X5_dye : Cond.instanceMethod yX5_dye ∈ TBL := tbl_in (List.mem_of_getElem? (i := 1033) (by decide +kernel)) rfl
theorem sl_X5_dye : Cond.selects yX5_dye.cls yX5_dye yX5_dye ∈ TBL := tbl_in (List.mem_of_getElem? (i := 1034) (by decide +kernel)) rfl
theorem ml_L_65 : Cond.methodLink RL 65 yX4_hang ∈ TBL := tbl_in (List.mem_of_getElem? (i := 554) (by decide +kernel)) rfl
theorem im_X4_hang : Cond.instanceMethod yX4_hang ∈ TBL := tbl_in (List.mem_of_getElem? (i := 555) (by decide +kernel)) rfl
theorem sl_X4_hang : Cond.selects yX4_hang.cls yX4_hang yX4_hang ∈ TBL := tbl_in (List.mem_of_getElem? (i := 556) (by decide +kernel)) rfl
theorem ml_L_68 : Cond.methodLink RL 68 yX5_hang ∈ TBL := tbl_in (List.mem_of_getElem? (i := 1036) (by decide +kernel)) rfl
theorem im_X5_hang : Cond.instanceMethod yX5_hang ∈ TBL := tbl_in (List.mem_of_getElem? (i := 1037) (by decide +kernel)) rfl
theorem sl_X5_hang : Cond.selects yX5_hang.cls yX5_hang yX5_hang ∈ TBL := tbl_in (List.mem_of_getElem? (i := 1038) (by decide +kernel)) rfl
theorem ml_L_69 : Cond.methodLink RL 69 yX4_undo ∈ TBL := tbl_in (List.mem_of_getElem? (i := 563) (by decide +kernel)) rfl
theorem im_X4_undo : Cond.instanceMethod yX4_undo ∈ TBL := tbl_in (List.mem_of_getElem? (i := 564) (by decide +kernel)) rfl
theorem sl_X4_undo : Cond.selects yX4_undo.cls yX4_undo yX4_undo ∈ TBL := tbl_in (List.mem_of_getElem? (i := 565) (by decide +kernel)) rfl
theorem ml_L_72 : Cond.methodLink RL 72 yX5_undo ∈ TBL := tbl_in (List.mem_of_getElem? (i := 1040) (by decide +kernel)) rfl
theorem im_X5_undo : Cond.instanceMethod yX5_undo ∈ TBL := tbl_in (List.mem_of_getElem? (i := 1041) (by decide +kernel)) rfl
theorem sl_X5_undo : Cond.selects yX5_undo.cls yX5_undo yX5_undo ∈ TBL := tbl_in (List.mem_of_getElem? (i := 1042) (by decide +kernel)) rfl
theorem ml_L_73 : Cond.methodLink RL 73 yX4_wrong ∈ TBL := tbl_in (List.mem_of_getElem? (i := 571) (by decide +kernel)) rfl
theorem im_X4_wrong : Cond.instanceMethod yX4_wrong ∈ TBL := tbl_in (List.mem_of_getElem? (i := 572) (by decide +kernel)) rfl
theorem sl_X4_wrong : Cond.selects yX4_wrong.cls yX4_wrong yX4_wrong ∈ TBL := tbl_in (List.mem_of_getElem? (i := 573) (by decide +kernel)) rfl
theorem ml_L_76 : Cond.methodLink RL 76 yX5_wrong ∈ TBL := tbl_in (List.mem_of_getElem? (i := 1044) (by decide +kernel)) rfl
theorem im_X5_wrong : Cond.instanceMethod yX5_wrong ∈ TBL := tbl_in (List.mem_of_getElem? (i := 1045) (by decide +kernel)) rfl
theorem sl_X5_wrong : Cond.selects yX5_wrong.cls yX5_wrong yX5_wrong ∈ TBL := tbl_in (List.mem_of_getElem? (i := 1046) (by decide +kernel)) rfl
theorem ml_L_77 : Cond.methodLink RL 77 yX4_mend ∈ TBL := tbl_in (List.mem_of_getElem? (i := 576) (by decide +kernel)) rfl
theorem im_X4_mend : Cond.instanceMethod yX4_mend ∈ TBL := tbl_in (List.mem_of_getElem? (i := 577) (by decide +kernel)) rfl
theorem sl_X4_mend : Cond.selects yX4_mend.cls yX4_mend yX4_mend ∈ TBL := tbl_in (List.mem_of_getElem? (i := 578) (by decide +kernel)) rfl
theorem ml_L_80 : Cond.methodLink RL 80 yX5_mend ∈ TBL := tbl_in (List.mem_of_getElem? (i := 1048) (by decide +kernel)) rfl
theorem im_X5_mend : Cond.instanceMethod yX5_mend ∈ TBL := tbl_in (List.mem_of_getElem? (i := 1049) (by decide +kernel)) rfl
theorem sl_X5_mend : Cond.selects yX5_mend.cls yX5_mend yX5_mend ∈ TBL := tbl_in (List.mem_of_getElem? (i := 1050) (by decide +kernel)) rfl
theorem ml_L_81 : Cond.methodLink RL 81 yX4_slip ∈ TBL := tbl_in (List.mem_of_getElem? (i := 600) (by decide +kernel)) rfl
theorem im_X4_slip : Cond.instanceMethod yX4_slip ∈ TBL := tbl_in (List.mem_of_getElem? (i := 601) (by decide +kernel)) rfl
theorem sl_X4_slip : Cond.selects yX4_slip.cls yX4_slip yX4_slip ∈ TBL := tbl_in (List.mem_of_getElem? (i := 602) (by decide +kernel)) rfl
theorem ml_L_84 : Cond.methodLink RL 84 yX5_slip ∈ TBL := tbl_in (List.mem_of_getElem? (i := 1060) (by decide +kernel)) rfl
theorem im_X5_slip : Cond.instanceMethod yX5_slip ∈ TBL := tbl_in (List.mem_of_getElem? (i := 1061) (by decide +kernel)) rfl
theorem sl_X5_slip : Cond.selects yX5_slip.cls yX5_slip yX5_slip ∈ TBL := tbl_in (List.mem_of_getElem? (i := 1062) (by decide +kernel)) rfl
theorem ml_L_85 : Cond.methodLink RL 85 yX4_lost ∈ TBL := tbl_in (List.mem_of_getElem? (i := 609) (by decide +kernel)) rfl
theorem im_X4_lost : Cond.instanceMethod yX4_lost ∈ TBL := tbl_in (List.mem_of_getElem? (i := 610) (by decide +kernel)) rfl
theorem sl_X4_lost : Cond.selects yX4_lost.cls yX4_lost yX4_lost ∈ TBL := tbl_in (List.mem_of_getElem? (i := 611) (by decide +kernel)) rfl
theorem ml_L_88 : Cond.methodLink RL 88 yX5_lost ∈ TBL := tbl_in (List.mem_of_getElem? (i := 1067) (by decide +kernel)) rfl
theorem im_X5_lost : Cond.instanceMethod yX5_lost ∈ TBL := tbl_in (List.mem_of_getElem? (i := 1068) (by decide +kernel)) rfl
theorem sl_X5_lost : Cond.selects yX5_lost.cls yX5_lost yX5_lost ∈ TBL := tbl_in (List.mem_of_getElem? (i := 1069) (by decide +kernel)) rfl
theorem ml_L_89 : Cond.methodLink RL 89 yX4_closed ∈ TBL := tbl_in (List.mem_of_getElem? (i := 617) (by decide +kernel)) rfl
theorem im_X4_closed : Cond.instanceMethod yX4_closed ∈ TBL := tbl_in (List.mem_of_getElem? (i := 618) (by decide +kernel)) rfl
theorem sl_X4_closed : Cond.selects yX4_closed.cls yX4_closed yX4_closed ∈ TBL := tbl_in (List.mem_of_getElem? (i := 619) (by decide +kernel)) rfl
theorem ml_L_93 : Cond.methodLink RL 93 yX5_closed ∈ TBL := tbl_in (List.mem_of_getElem? (i := 1071) (by decide +kernel)) rfl
theorem im_X5_closed : Cond.instanceMethod yX5_closed ∈ TBL := tbl_in (List.mem_of_getElem? (i := 1072) (by decide +kernel)) rfl
theorem sl_X5_closed : Cond.selects yX5_closed.cls yX5_closed yX5_closed ∈ TBL := tbl_in (List.mem_of_getElem? (i := 1073) (by decide +kernel)) rfl
theorem ml_L_94 : Cond.methodLink RL 94 yX4_order ∈ TBL := tbl_in (List.mem_of_getElem? (i := 630) (by decide +kernel)) rfl
theorem im_X4_order : Cond.instanceMethod yX4_order ∈ TBL := tbl_in (List.mem_of_getElem? (i := 631) (by decide +kernel)) rfl
theorem sl_X4_order : Cond.selects yX4_order.cls yX4_order yX4_order ∈ TBL := tbl_in (List.mem_of_getElem? (i := 632) (by decide +kernel)) rfl
theorem ml_L_97 : Cond.methodLink RL 97 yX5_order ∈ TBL := tbl_in (List.mem_of_getElem? (i := 1076) (by decide +kernel)) rfl
theorem im_X5_order : Cond.instanceMethod yX5_order ∈ TBL := tbl_in (List.mem_of_getElem? (i := 1077) (by decide +kernel)) rfl
theorem sl_X5_order : Cond.selects yX5_order.cls yX5_order yX5_order ∈ TBL := tbl_in (List.mem_of_getElem? (i := 1078) (by decide +kernel)) rfl
theorem ml_L_98 : Cond.methodLink RL 98 yX4_share ∈ TBL := tbl_in (List.mem_of_getElem? (i := 635) (by decide +kernel)) rfl
theorem im_X4_share : Cond.instanceMethod yX4_share ∈ TBL := tbl_in (List.mem_of_getElem? (i := 636) (by decide +kernel)) rfl
theorem sl_X4_share : Cond.selects yX4_share.cls yX4_share yX4_share ∈ TBL := tbl_in (List.mem_of_getElem? (i := 637) (by decide +kernel)) rfl
theorem ml_L_101 : Cond.methodLink RL 101 yX5_share ∈ TBL := tbl_in (List.mem_of_getElem? (i := 1080) (by decide +kernel)) rfl
theorem im_X5_share : Cond.instanceMethod yX5_share ∈ TBL := tbl_in (List.mem_of_getElem? (i := 1081) (by decide +kernel)) rfl
theorem sl_X5_share : Cond.selects yX5_share.cls yX5_share yX5_share ∈ TBL := tbl_in (List.mem_of_getElem? (i := 1082) (by decide +kernel)) rfl
theorem ml_L_102 : Cond.methodLink RL 102 yX4_make ∈ TBL := tbl_in (List.mem_of_getElem? (i := 686) (by decide +kernel)) rfl
theorem im_X4_make : Cond.instanceMethod yX4_make ∈ TBL := tbl_in (List.mem_of_getElem? (i := 687) (by decide +kernel)) rfl
theorem sl_X4_make : Cond.selects yX4_make.cls yX4_make yX4_make ∈ TBL := tbl_in (List.mem_of_getElem? (i := 688) (by decide +kernel)) rfl
theorem ml_L_105 : Cond.methodLink RL 105 yX5_make ∈ TBL := tbl_in (List.mem_of_getElem? (i := 1092) (by decide +kernel)) rfl
theorem im_X5_make : Cond.instanceMethod yX5_make ∈ TBL := tbl_in (List.mem_of_getElem? (i := 1093) (by decide +kernel)) rfl
theorem sl_X5_make : Cond.selects yX5_make.cls yX5_make yX5_make ∈ TBL := tbl_in (List.mem_of_getElem? (i := 1094) (by decide +kernel)) rfl
theorem ml_L_106 : Cond.methodLink RL 106 yX4_colours ∈ TBL := tbl_in (List.mem_of_getElem? (i := 695) (by decide +kernel)) rfl
theorem im_X4_colours : Cond.instanceMethod yX4_colours ∈ TBL := tbl_in (List.mem_of_getElem? (i := 696) (by decide +kernel)) rfl
theorem sl_X4_colours : Cond.selects yX4_colours.cls yX4_colours yX4_colours ∈ TBL := tbl_in (List.mem_of_getElem? (i := 697) (by decide +kernel)) rfl
theorem ml_L_109 : Cond.methodLink RL 109 yX5_colours ∈ TBL := tbl_in (List.mem_of_getElem? (i := 1099) (by decide +kernel)) rfl
theorem im_X5_colours : Cond.instanceMethod yX5_colours ∈ TBL := tbl_in (List.mem_of_getElem? (i := 1100) (by decide +kernel)) rfl
theorem sl_X5_colours : Cond.selects yX5_colours.cls yX5_colours yX5_colours ∈ TBL := tbl_in (List.mem_of_getElem? (i := 1101) (by decide +kernel)) rfl
theorem ml_L_110 : Cond.methodLink RL 110 yX4_path ∈ TBL := tbl_in (List.mem_of_getElem? (i := 704) (by decide +kernel)) rfl
theorem im_X4_path : Cond.instanceMethod yX4_path ∈ TBL := tbl_in (List.mem_of_getElem? (i := 705) (by decide +kernel)) rfl
theorem sl_X4_path : Cond.selects yX4_path.cls yX4_path yX4_path ∈ TBL := tbl_in (List.mem_of_getElem? (i := 706) (by decide +kernel)) rfl
theorem ml_L_113 : Cond.methodLink RL 113 yX5_path ∈ TBL := tbl_in (List.mem_of_getElem? (i := 1103) (by decide +kernel)) rfl
theorem im_X5_path : Cond.instanceMethod yX5_path ∈ TBL := tbl_in (List.mem_of_getElem? (i := 1104) (by decide +kernel)) rfl
theorem sl_X5_path : Cond.selects yX5_path.cls yX5_path yX5_path ∈ TBL := tbl_in (List.mem_of_getElem? (i := 1105) (by decide +kernel)) rfl
theorem ml_L_114 : Cond.methodLink RL 114 yX4_same ∈ TBL := tbl_in (List.mem_of_getElem? (i := 708) (by decide +kernel)) rfl
theorem im_X4_same : Cond.instanceMethod yX4_same ∈ TBL := tbl_in (List.mem_of_getElem? (i := 709) (by decide +kernel)) rfl
theorem sl_X4_same : Cond.selects yX4_same.cls yX4_same yX4_same ∈ TBL := tbl_in (List.mem_of_getElem? (i := 710) (by decide +kernel)) rfl
theorem ml_L_117 : Cond.methodLink RL 117 yX5_same ∈ TBL := tbl_in (List.mem_of_getElem? (i := 1107) (by decide +kernel)) rfl
theorem im_X5_same : Cond.instanceMethod yX5_same ∈ TBL := tbl_in (List.mem_of_getElem? (i := 1108) (by decide +kernel)) rfl
theorem sl_X5_same : Cond.selects yX5_same.cls yX5_same yX5_same ∈ TBL := tbl_in (List.mem_of_getElem? (i := 1109) (by decide +kernel)) rfl
theorem ml_L_118 : Cond.methodLink RL 118 yX4_year ∈ TBL := tbl_in (List.mem_of_getElem? (i := 721) (by decide +kernel)) rfl
theorem im_X4_year : Cond.instanceMethod yX4_year ∈ TBL := tbl_in (List.mem_of_getElem? (i := 722) (by decide +kernel)) rfl
theorem sl_X4_year : Cond.selects yX4_year.cls yX4_year yX4_year ∈ TBL := tbl_in (List.mem_of_getElem? (i := 723) (by decide +kernel)) rfl
theorem ml_L_121 : Cond.methodLink RL 121 yX5_year ∈ TBL := tbl_in (List.mem_of_getElem? (i := 1123) (by decide +kernel)) rfl
theorem im_X5_year : Cond.instanceMethod yX5_year ∈ TBL := tbl_in (List.mem_of_getElem? (i := 1124) (by decide +kernel)) rfl
theorem sl_X5_year : Cond.selects yX5_year.cls yX5_year yX5_year ∈ TBL := tbl_in (List.mem_of_getElem? (i := 1125) (by decide +kernel)) rfl
theorem ml_L_122 : Cond.methodLink RL 122 yX4_keep ∈ TBL := tbl_in (List.mem_of_getElem? (i := 736) (by decide +kernel)) rfl
theorem im_X4_keep : Cond.instanceMethod yX4_keep ∈ TBL := tbl_in (List.mem_of_getElem? (i := 737) (by decide +kernel)) rfl
theorem sl_X4_keep : Cond.selects yX4_keep.cls yX4_keep yX4_keep ∈ TBL := tbl_in (List.mem_of_getElem? (i := 738) (by decide +kernel)) rfl
theorem ml_L_125 : Cond.methodLink RL 125 yX5_keep ∈ TBL := tbl_in (List.mem_of_getElem? (i := 1130) (by decide +kernel)) rfl
theorem im_X5_keep : Cond.instanceMethod yX5_keep ∈ TBL := tbl_in (List.mem_of_getElem? (i := 1131) (by decide +kernel)) rfl
theorem sl_X5_keep : Cond.selects yX5_keep.cls yX5_keep yX5_keep ∈ TBL := tbl_in (List.mem_of_getElem? (i := 1132) (by decide +kernel)) rfl
theorem ml_L_126 : Cond.methodLink RL 126 yX4_back ∈ TBL := tbl_in (List.mem_of_getElem? (i := 740) (by decide +kernel)) rfl
theorem im_X4_back : Cond.instanceMethod yX4_back ∈ TBL := tbl_in (List.mem_of_getElem? (i := 741) (by decide +kernel)) rfl
theorem sl_X4_back : Cond.selects yX4_back.cls yX4_back yX4_back ∈ TBL := tbl_in (List.mem_of_getElem? (i := 742) (by decide +kernel)) rfl
theorem ml_L_129 : Cond.methodLink RL 129 yX5_back ∈ TBL := tbl_in (List.mem_of_getElem? (i := 1134) (by decide +kernel)) rfl
theorem im_X5_back : Cond.instanceMethod yX5_back ∈ TBL := tbl_in (List.mem_of_getElem? (i := 1135) (by decide +kernel)) rfl
theorem sl_X5_back : Cond.selects yX5_back.cls yX5_back yX5_back ∈ TBL := tbl_in (List.mem_of_getElem? (i := 1136) (by decide +kernel)) rfl
theorem ml_L_130 : Cond.methodLink RL 130 yX4_count ∈ TBL := tbl_in (List.mem_of_getElem? (i := 744) (by decide +kernel)) rfl
theorem im_X4_count : Cond.instanceMethod yX4_count ∈ TBL := tbl_in (List.mem_of_getElem? (i := 745) (by decide +kernel)) rfl
theorem sl_X4_count : Cond.selects yX4_count.cls yX4_count yX4_count ∈ TBL := tbl_in (List.mem_of_getElem? (i := 746) (by decide +kernel)) rfl
theorem ml_L_133 : Cond.methodLink RL 133 yX5_count ∈ TBL := tbl_in (List.mem_of_getElem? (i := 1138) (by decide +kernel)) rfl
theorem im_X5_count : Cond.instanceMethod yX5_count ∈ TBL := tbl_in (List.mem_of_getElem? (i := 1139) (by decide +kernel)) rfl
theorem sl_X5_count : Cond.selects yX5_count.cls yX5_count yX5_count ∈ TBL := tbl_in (List.mem_of_getElem? (i := 1140) (by decide +kernel)) rfl
theorem cw_X4_put : CW yX4_put cX4_put 3 none 3 := ⟨tbl_in (List.mem_of_getElem? (i := 261) (by decide +kernel)) rfl, tbl_in (List.mem_of_getElem? (i := 58) (by decide +kernel)) rfl, ⟨by decide +kernel, by decide +kernel⟩, by decide +kernel⟩
theorem cw_X4_at : CW yX4_at cX4_at 2 (some .int) 2 := ⟨tbl_in (List.mem_of_getElem? (i := 253) (by decide +kernel)) rfl, tbl_in (List.mem_of_getElem? (i := 58) (by decide +kernel)) rfl, ⟨by decide +kernel, by decide +kernel⟩, by decide +kernel⟩
theorem cw_J6_bitCount_0f7a4 : CW yJ6_bitCount_0f7a4 cJ6_bitCount_0f7a4 1 (some .int) 1 := ⟨tbl_in (List.mem_of_getElem? (i := 626) (by decide +kernel)) rfl, tbl_in (List.mem_of_getElem? (i := 71) (by decide +kernel)) rfl, ⟨by decide +kernel, by decide +kernel⟩, by decide +kernel⟩
theorem cw_X4_kindOf : CW yX4_kindOf cX4_kindOf 1 (some .int) 1 := ⟨tbl_in (List.mem_of_getElem? (i := 421) (by decide +kernel)) rfl, tbl_in (List.mem_of_getElem? (i := 58) (by decide +kernel)) rfl, ⟨by decide +kernel, by decide +kernel⟩, by decide +kernel⟩
theorem cw_X4_countOf : CW yX4_countOf cX4_countOf 1 (some .int) 1 := ⟨tbl_in (List.mem_of_getElem? (i := 424) (by decide +kernel)) rfl, tbl_in (List.mem_of_getElem? (i := 58) (by decide +kernel)) rfl, ⟨by decide +kernel, by decide +kernel⟩, by decide +kernel⟩
theorem cw_X5_in : CW yX5_in cX5_in 6 (some .boolean) 3 := ⟨tbl_in (List.mem_of_getElem? (i := 843) (by decide +kernel)) rfl, tbl_in (List.mem_of_getElem? (i := 70) (by decide +kernel)) rfl, ⟨by decide +kernel, by decide +kernel⟩, by decide +kernel⟩
theorem cw_X5_goesTo : CW yX5_goesTo cX5_goesTo 2 (some .boolean) 1 := ⟨tbl_in (List.mem_of_getElem? (i := 863) (by decide +kernel)) rfl, tbl_in (List.mem_of_getElem? (i := 70) (by decide +kernel)) rfl, ⟨by decide +kernel, by decide +kernel⟩, by decide +kernel⟩
theorem cw_X5_newest : CW yX5_newest cX5_newest 1 (some .int) 0 := ⟨tbl_in (List.mem_of_getElem? (i := 881) (by decide +kernel)) rfl, tbl_in (List.mem_of_getElem? (i := 70) (by decide +kernel)) rfl, ⟨by decide +kernel, by decide +kernel⟩, by decide +kernel⟩
theorem cw_X5_copies : CW yX5_copies cX5_copies 5 none 4 := ⟨tbl_in (List.mem_of_getElem? (i := 782) (by decide +kernel)) rfl, tbl_in (List.mem_of_getElem? (i := 70) (by decide +kernel)) rfl, ⟨by decide +kernel, by decide +kernel⟩, by decide +kernel⟩
theorem cw_X5_isPendant : CW yX5_isPendant cX5_isPendant 2 (some .boolean) 1 := ⟨tbl_in (List.mem_of_getElem? (i := 910) (by decide +kernel)) rfl, tbl_in (List.mem_of_getElem? (i := 70) (by decide +kernel)) rfl, ⟨by decide +kernel, by decide +kernel⟩, by decide +kernel⟩
theorem cw_X5_knot0 : CW yX5_knot0 cX5_knot0 3 (some .int) 2 := ⟨tbl_in (List.mem_of_getElem? (i := 930) (by decide +kernel)) rfl, tbl_in (List.mem_of_getElem? (i := 70) (by decide +kernel)) rfl, ⟨by decide +kernel, by decide +kernel⟩, by decide +kernel⟩
theorem cw_X5_knotsOf : CW yX5_knotsOf cX5_knotsOf 1 (some .int) 1 := ⟨tbl_in (List.mem_of_getElem? (i := 949) (by decide +kernel)) rfl, tbl_in (List.mem_of_getElem? (i := 70) (by decide +kernel)) rfl, ⟨by decide +kernel, by decide +kernel⟩, by decide +kernel⟩
theorem cw_X5_clusterFor : CW yX5_clusterFor cX5_clusterFor 2 (some .int) 2 := ⟨tbl_in (List.mem_of_getElem? (i := 1008) (by decide +kernel)) rfl, tbl_in (List.mem_of_getElem? (i := 70) (by decide +kernel)) rfl, ⟨by decide +kernel, by decide +kernel⟩, by decide +kernel⟩
theorem cw_X5_hanging : CW yX5_hanging cX5_hanging 4 (some .int) 1 := ⟨tbl_in (List.mem_of_getElem? (i := 918) (by decide +kernel)) rfl, tbl_in (List.mem_of_getElem? (i := 70) (by decide +kernel)) rfl, ⟨by decide +kernel, by decide +kernel⟩, by decide +kernel⟩
theorem cw_J7_fill_53178 : CW yJ7_fill_53178 cJ7_fill_53178 4 none 2 := ⟨tbl_in (List.mem_of_getElem? (i := 238) (by decide +kernel)) rfl, tbl_in (List.mem_of_getElem? (i := 68) (by decide +kernel)) rfl, ⟨by decide +kernel, by decide +kernel⟩, by decide +kernel⟩
theorem cw_X4_isColour : CW yX4_isColour cX4_isColour 1 (some .boolean) 1 := ⟨tbl_in (List.mem_of_getElem? (i := 268) (by decide +kernel)) rfl, tbl_in (List.mem_of_getElem? (i := 58) (by decide +kernel)) rfl, ⟨by decide +kernel, by decide +kernel⟩, by decide +kernel⟩
theorem cw_X0_cords : CW yX0_cords cX0_cords 1 (some .int) 0 := ⟨tbl_in (List.mem_of_getElem? (i := 272) (by decide +kernel)) rfl, tbl_in (List.mem_of_getElem? (i := 60) (by decide +kernel)) rfl, ⟨by decide +kernel, by decide +kernel⟩, by decide +kernel⟩
theorem cw_X0_addCord : CW yX0_addCord cX0_addCord 6 none 4 := ⟨tbl_in (List.mem_of_getElem? (i := 278) (by decide +kernel)) rfl, tbl_in (List.mem_of_getElem? (i := 60) (by decide +kernel)) rfl, ⟨by decide +kernel, by decide +kernel⟩, by decide +kernel⟩
theorem cw_X4_canCount : CW yX4_canCount cX4_canCount 2 (some .boolean) 2 := ⟨tbl_in (List.mem_of_getElem? (i := 293) (by decide +kernel)) rfl, tbl_in (List.mem_of_getElem? (i := 58) (by decide +kernel)) rfl, ⟨by decide +kernel, by decide +kernel⟩, by decide +kernel⟩
theorem cw_X0_addCluster : CW yX0_addCluster cX0_addCluster 6 none 1 := ⟨tbl_in (List.mem_of_getElem? (i := 297) (by decide +kernel)) rfl, tbl_in (List.mem_of_getElem? (i := 60) (by decide +kernel)) rfl, ⟨by decide +kernel, by decide +kernel⟩, by decide +kernel⟩
theorem cw_X2_sumAt : CW yX2_sumAt cX2_sumAt 2 (some .int) 1 := ⟨tbl_in (List.mem_of_getElem? (i := 672) (by decide +kernel)) rfl, tbl_in (List.mem_of_getElem? (i := 63) (by decide +kernel)) rfl, ⟨by decide +kernel, by decide +kernel⟩, by decide +kernel⟩
theorem cw_X2_bitsAt : CW yX2_bitsAt cX2_bitsAt 2 (some .int) 1 := ⟨tbl_in (List.mem_of_getElem? (i := 681) (by decide +kernel)) rfl, tbl_in (List.mem_of_getElem? (i := 63) (by decide +kernel)) rfl, ⟨by decide +kernel, by decide +kernel⟩, by decide +kernel⟩
theorem cw_X2_mergeWith : CW yX2_mergeWith cX2_mergeWith 9 none 1 := ⟨tbl_in (List.mem_of_getElem? (i := 660) (by decide +kernel)) rfl, tbl_in (List.mem_of_getElem? (i := 63) (by decide +kernel)) rfl, ⟨by decide +kernel, by decide +kernel⟩, by decide +kernel⟩
theorem cw_X4_copyRow : CW yX4_copyRow cX4_copyRow 5 none 4 := ⟨tbl_in (List.mem_of_getElem? (i := 312) (by decide +kernel)) rfl, tbl_in (List.mem_of_getElem? (i := 58) (by decide +kernel)) rfl, ⟨by decide +kernel, by decide +kernel⟩, by decide +kernel⟩
theorem cw_X4_tens : CW yX4_tens cX4_tens 1 (some .int) 1 := ⟨tbl_in (List.mem_of_getElem? (i := 427) (by decide +kernel)) rfl, tbl_in (List.mem_of_getElem? (i := 58) (by decide +kernel)) rfl, ⟨by decide +kernel, by decide +kernel⟩, by decide +kernel⟩
theorem cw_X0_codeOf : CW yX0_codeOf cX0_codeOf 3 (some .int) 2 := ⟨tbl_in (List.mem_of_getElem? (i := 415) (by decide +kernel)) rfl, tbl_in (List.mem_of_getElem? (i := 60) (by decide +kernel)) rfl, ⟨by decide +kernel, by decide +kernel⟩, by decide +kernel⟩
theorem cw_X0_isTop : CW yX0_isTop cX0_isTop 2 (some .boolean) 1 := ⟨tbl_in (List.mem_of_getElem? (i := 406) (by decide +kernel)) rfl, tbl_in (List.mem_of_getElem? (i := 60) (by decide +kernel)) rfl, ⟨by decide +kernel, by decide +kernel⟩, by decide +kernel⟩
theorem cw_X5_takesCluster : CW yX5_takesCluster cX5_takesCluster 4 (some .boolean) 1 := ⟨tbl_in (List.mem_of_getElem? (i := 885) (by decide +kernel)) rfl, tbl_in (List.mem_of_getElem? (i := 70) (by decide +kernel)) rfl, ⟨by decide +kernel, by decide +kernel⟩, by decide +kernel⟩
theorem cw_X5_hasRoom : CW yX5_hasRoom cX5_hasRoom 1 (some .boolean) 0 := ⟨tbl_in (List.mem_of_getElem? (i := 869) (by decide +kernel)) rfl, tbl_in (List.mem_of_getElem? (i := 70) (by decide +kernel)) rfl, ⟨by decide +kernel, by decide +kernel⟩, by decide +kernel⟩
theorem cw_X5_takesColour : CW yX5_takesColour cX5_takesColour 3 (some .boolean) 1 := ⟨tbl_in (List.mem_of_getElem? (i := 873) (by decide +kernel)) rfl, tbl_in (List.mem_of_getElem? (i := 70) (by decide +kernel)) rfl, ⟨by decide +kernel, by decide +kernel⟩, by decide +kernel⟩
theorem cw_X5_told : CW yX5_told cX5_told 9 (some .int) 2 := ⟨tbl_in (List.mem_of_getElem? (i := 926) (by decide +kernel)) rfl, tbl_in (List.mem_of_getElem? (i := 70) (by decide +kernel)) rfl, ⟨by decide +kernel, by decide +kernel⟩, by decide +kernel⟩
theorem cw_X5_isCord : CW yX5_isCord cX5_isCord 2 (some .boolean) 1 := ⟨tbl_in (List.mem_of_getElem? (i := 906) (by decide +kernel)) rfl, tbl_in (List.mem_of_getElem? (i := 70) (by decide +kernel)) rfl, ⟨by decide +kernel, by decide +kernel⟩, by decide +kernel⟩
theorem cw_X5_isPlain : CW yX5_isPlain cX5_isPlain 2 (some .boolean) 1 := ⟨tbl_in (List.mem_of_getElem? (i := 973) (by decide +kernel)) rfl, tbl_in (List.mem_of_getElem? (i := 70) (by decide +kernel)) rfl, ⟨by decide +kernel, by decide +kernel⟩, by decide +kernel⟩
theorem cw_X5_remember : CW yX5_remember cX5_remember 2 none 0 := ⟨tbl_in (List.mem_of_getElem? (i := 1016) (by decide +kernel)) rfl, tbl_in (List.mem_of_getElem? (i := 70) (by decide +kernel)) rfl, ⟨by decide +kernel, by decide +kernel⟩, by decide +kernel⟩
theorem cw_X5_isKnot : CW yX5_isKnot cX5_isKnot 2 (some .boolean) 2 := ⟨tbl_in (List.mem_of_getElem? (i := 1029) (by decide +kernel)) rfl, tbl_in (List.mem_of_getElem? (i := 70) (by decide +kernel)) rfl, ⟨by decide +kernel, by decide +kernel⟩, by decide +kernel⟩
theorem cw_X5_knots_ : CW yX5_knots_ cX5_knots_ 4 (some .int) 1 := ⟨tbl_in (List.mem_of_getElem? (i := 946) (by decide +kernel)) rfl, tbl_in (List.mem_of_getElem? (i := 70) (by decide +kernel)) rfl, ⟨by decide +kernel, by decide +kernel⟩, by decide +kernel⟩
theorem cw_X5_isTwo : CW yX5_isTwo cX5_isTwo 1 (some .boolean) 1 := ⟨tbl_in (List.mem_of_getElem? (i := 1066) (by decide +kernel)) rfl, tbl_in (List.mem_of_getElem? (i := 70) (by decide +kernel)) rfl, ⟨by decide +kernel, by decide +kernel⟩, by decide +kernel⟩
theorem cw_X5_power : CW yX5_power cX5_power 3 (some .int) 1 := ⟨tbl_in (List.mem_of_getElem? (i := 1001) (by decide +kernel)) rfl, tbl_in (List.mem_of_getElem? (i := 70) (by decide +kernel)) rfl, ⟨by decide +kernel, by decide +kernel⟩, by decide +kernel⟩
theorem cw_X5_areAlike : CW yX5_areAlike cX5_areAlike 5 (some .boolean) 2 := ⟨tbl_in (List.mem_of_getElem? (i := 1114) (by decide +kernel)) rfl, tbl_in (List.mem_of_getElem? (i := 70) (by decide +kernel)) rfl, ⟨by decide +kernel, by decide +kernel⟩, by decide +kernel⟩
theorem cw_X5_hangingAt : CW yX5_hangingAt cX5_hangingAt 6 (some .int) 2 := ⟨tbl_in (List.mem_of_getElem? (i := 1118) (by decide +kernel)) rfl, tbl_in (List.mem_of_getElem? (i := 70) (by decide +kernel)) rfl, ⟨by decide +kernel, by decide +kernel⟩, by decide +kernel⟩
theorem cw_X0_groups : CW yX0_groups cX0_groups 1 (some .int) 0 := ⟨tbl_in (List.mem_of_getElem? (i := 250) (by decide +kernel)) rfl, tbl_in (List.mem_of_getElem? (i := 60) (by decide +kernel)) rfl, ⟨by decide +kernel, by decide +kernel⟩, by decide +kernel⟩
theorem cw_X0_sizeOf : CW yX0_sizeOf cX0_sizeOf 2 (some .int) 1 := ⟨tbl_in (List.mem_of_getElem? (i := 286) (by decide +kernel)) rfl, tbl_in (List.mem_of_getElem? (i := 60) (by decide +kernel)) rfl, ⟨by decide +kernel, by decide +kernel⟩, by decide +kernel⟩
theorem cw_X4_isWellPlaced : CW yX4_isWellPlaced cX4_isWellPlaced 3 (some .boolean) 2 := ⟨tbl_in (List.mem_of_getElem? (i := 418) (by decide +kernel)) rfl, tbl_in (List.mem_of_getElem? (i := 58) (by decide +kernel)) rfl, ⟨by decide +kernel, by decide +kernel⟩, by decide +kernel⟩
theorem cw_X4_knotsIn : CW yX4_knotsIn cX4_knotsIn 1 (some .int) 1 := ⟨tbl_in (List.mem_of_getElem? (i := 449) (by decide +kernel)) rfl, tbl_in (List.mem_of_getElem? (i := 58) (by decide +kernel)) rfl, ⟨by decide +kernel, by decide +kernel⟩, by decide +kernel⟩
theorem cw_X4_codeToTell : CW yX4_codeToTell cX4_codeToTell 2 (some .int) 2 := ⟨tbl_in (List.mem_of_getElem? (i := 521) (by decide +kernel)) rfl, tbl_in (List.mem_of_getElem? (i := 58) (by decide +kernel)) rfl, ⟨by decide +kernel, by decide +kernel⟩, by decide +kernel⟩
theorem cw_X0_setCode : CW yX0_setCode cX0_setCode 4 none 3 := ⟨tbl_in (List.mem_of_getElem? (i := 534) (by decide +kernel)) rfl, tbl_in (List.mem_of_getElem? (i := 60) (by decide +kernel)) rfl, ⟨by decide +kernel, by decide +kernel⟩, by decide +kernel⟩
theorem cw_X0_colourOf : CW yX0_colourOf cX0_colourOf 2 (some .int) 1 := ⟨tbl_in (List.mem_of_getElem? (i := 384) (by decide +kernel)) rfl, tbl_in (List.mem_of_getElem? (i := 60) (by decide +kernel)) rfl, ⟨by decide +kernel, by decide +kernel⟩, by decide +kernel⟩
theorem cw_X0_depthOf : CW yX0_depthOf cX0_depthOf 2 (some .int) 1 := ⟨tbl_in (List.mem_of_getElem? (i := 397) (by decide +kernel)) rfl, tbl_in (List.mem_of_getElem? (i := 60) (by decide +kernel)) rfl, ⟨by decide +kernel, by decide +kernel⟩, by decide +kernel⟩
theorem cw_X0_groupOf : CW yX0_groupOf cX0_groupOf 2 (some .int) 1 := ⟨tbl_in (List.mem_of_getElem? (i := 393) (by decide +kernel)) rfl, tbl_in (List.mem_of_getElem? (i := 60) (by decide +kernel)) rfl, ⟨by decide +kernel, by decide +kernel⟩, by decide +kernel⟩
theorem cw_X0_holderOf : CW yX0_holderOf cX0_holderOf 2 (some .int) 1 := ⟨tbl_in (List.mem_of_getElem? (i := 389) (by decide +kernel)) rfl, tbl_in (List.mem_of_getElem? (i := 60) (by decide +kernel)) rfl, ⟨by decide +kernel, by decide +kernel⟩, by decide +kernel⟩
theorem cw_X0_addGroup : CW yX0_addGroup cX0_addGroup 1 none 0 := ⟨tbl_in (List.mem_of_getElem? (i := 257) (by decide +kernel)) rfl, tbl_in (List.mem_of_getElem? (i := 60) (by decide +kernel)) rfl, ⟨by decide +kernel, by decide +kernel⟩, by decide +kernel⟩
theorem cw_X1_endsCluster : CW yX1_endsCluster cX1_endsCluster 3 (some .boolean) 2 := ⟨tbl_in (List.mem_of_getElem? (i := 290) (by decide +kernel)) rfl, tbl_in (List.mem_of_getElem? (i := 59) (by decide +kernel)) rfl, ⟨by decide +kernel, by decide +kernel⟩, by decide +kernel⟩
theorem cw_X1_opensCord : CW yX1_opensCord cX1_opensCord 3 (some .boolean) 1 := ⟨tbl_in (List.mem_of_getElem? (i := 265) (by decide +kernel)) rfl, tbl_in (List.mem_of_getElem? (i := 59) (by decide +kernel)) rfl, ⟨by decide +kernel, by decide +kernel⟩, by decide +kernel⟩
theorem cw_X2_spreadLow : CW yX2_spreadLow cX2_spreadLow 3 none 1 := ⟨tbl_in (List.mem_of_getElem? (i := 655) (by decide +kernel)) rfl, tbl_in (List.mem_of_getElem? (i := 63) (by decide +kernel)) rfl, ⟨by decide +kernel, by decide +kernel⟩, by decide +kernel⟩
theorem cw_X2_spreadHigh : CW yX2_spreadHigh cX2_spreadHigh 4 (some .int) 0 := ⟨tbl_in (List.mem_of_getElem? (i := 664) (by decide +kernel)) rfl, tbl_in (List.mem_of_getElem? (i := 63) (by decide +kernel)) rfl, ⟨by decide +kernel, by decide +kernel⟩, by decide +kernel⟩
theorem cw_X2_firstFrom : CW yX2_firstFrom cX2_firstFrom 5 (some .int) 1 := ⟨tbl_in (List.mem_of_getElem? (i := 668) (by decide +kernel)) rfl, tbl_in (List.mem_of_getElem? (i := 63) (by decide +kernel)) rfl, ⟨by decide +kernel, by decide +kernel⟩, by decide +kernel⟩
theorem cw_X2_asCords : CW yX2_asCords cX2_asCords 4 (some .int) 1 := ⟨tbl_in (List.mem_of_getElem? (i := 685) (by decide +kernel)) rfl, tbl_in (List.mem_of_getElem? (i := 63) (by decide +kernel)) rfl, ⟨by decide +kernel, by decide +kernel⟩, by decide +kernel⟩
theorem cw_X2_better : CW yX2_better cX2_better 10 (some .int) 5 := ⟨tbl_in (List.mem_of_getElem? (i := 676) (by decide +kernel)) rfl, tbl_in (List.mem_of_getElem? (i := 63) (by decide +kernel)) rfl, ⟨by decide +kernel, by decide +kernel⟩, by decide +kernel⟩
theorem cw_X0_hasGroup : CW yX0_hasGroup cX0_hasGroup 2 (some .boolean) 1 := ⟨tbl_in (List.mem_of_getElem? (i := 468) (by decide +kernel)) rfl, tbl_in (List.mem_of_getElem? (i := 60) (by decide +kernel)) rfl, ⟨by decide +kernel, by decide +kernel⟩, by decide +kernel⟩
theorem cw_X0_pendantAt : CW yX0_pendantAt cX0_pendantAt 6 (some .int) 2 := ⟨tbl_in (List.mem_of_getElem? (i := 506) (by decide +kernel)) rfl, tbl_in (List.mem_of_getElem? (i := 60) (by decide +kernel)) rfl, ⟨by decide +kernel, by decide +kernel⟩, by decide +kernel⟩
theorem cw_X0_hasCord : CW yX0_hasCord cX0_hasCord 2 (some .boolean) 1 := ⟨tbl_in (List.mem_of_getElem? (i := 379) (by decide +kernel)) rfl, tbl_in (List.mem_of_getElem? (i := 60) (by decide +kernel)) rfl, ⟨by decide +kernel, by decide +kernel⟩, by decide +kernel⟩
theorem cw_X0_mostOn : CW yX0_mostOn cX0_mostOn 2 (some .int) 1 := ⟨tbl_in (List.mem_of_getElem? (i := 514) (by decide +kernel)) rfl, tbl_in (List.mem_of_getElem? (i := 60) (by decide +kernel)) rfl, ⟨by decide +kernel, by decide +kernel⟩, by decide +kernel⟩
theorem cw_X0_workToTell : CW yX0_workToTell cX0_workToTell 8 (some .int) 2 := ⟨tbl_in (List.mem_of_getElem? (i := 518) (by decide +kernel)) rfl, tbl_in (List.mem_of_getElem? (i := 60) (by decide +kernel)) rfl, ⟨by decide +kernel, by decide +kernel⟩, by decide +kernel⟩
theorem cw_X3_add : CW yX3_add cX3_add 3 none 1 := ⟨tbl_in (List.mem_of_getElem? (i := 525) (by decide +kernel)) rfl, tbl_in (List.mem_of_getElem? (i := 61) (by decide +kernel)) rfl, ⟨by decide +kernel, by decide +kernel⟩, by decide +kernel⟩
theorem cw_X0_tell : CW yX0_tell cX0_tell 5 none 2 := ⟨tbl_in (List.mem_of_getElem? (i := 530) (by decide +kernel)) rfl, tbl_in (List.mem_of_getElem? (i := 60) (by decide +kernel)) rfl, ⟨by decide +kernel, by decide +kernel⟩, by decide +kernel⟩
theorem cw_X0_valueOf : CW yX0_valueOf cX0_valueOf 5 (some .int) 1 := ⟨tbl_in (List.mem_of_getElem? (i := 410) (by decide +kernel)) rfl, tbl_in (List.mem_of_getElem? (i := 60) (by decide +kernel)) rfl, ⟨by decide +kernel, by decide +kernel⟩, by decide +kernel⟩
theorem cw_X0_setColour : CW yX0_setColour cX0_setColour 3 none 2 := ⟨tbl_in (List.mem_of_getElem? (i := 553) (by decide +kernel)) rfl, tbl_in (List.mem_of_getElem? (i := 60) (by decide +kernel)) rfl, ⟨by decide +kernel, by decide +kernel⟩, by decide +kernel⟩
theorem cw_X3_takeInto : CW yX3_takeInto cX3_takeInto 2 none 1 := ⟨tbl_in (List.mem_of_getElem? (i := 570) (by decide +kernel)) rfl, tbl_in (List.mem_of_getElem? (i := 61) (by decide +kernel)) rfl, ⟨by decide +kernel, by decide +kernel⟩, by decide +kernel⟩
theorem cw_X4_choices : CW yX4_choices cX4_choices 4 (some .int) 2 := ⟨tbl_in (List.mem_of_getElem? (i := 623) (by decide +kernel)) rfl, tbl_in (List.mem_of_getElem? (i := 58) (by decide +kernel)) rfl, ⟨by decide +kernel, by decide +kernel⟩, by decide +kernel⟩
theorem cw_X0_pendantsIn : CW yX0_pendantsIn cX0_pendantsIn 4 (some .int) 1 := ⟨tbl_in (List.mem_of_getElem? (i := 472) (by decide +kernel)) rfl, tbl_in (List.mem_of_getElem? (i := 60) (by decide +kernel)) rfl, ⟨by decide +kernel, by decide +kernel⟩, by decide +kernel⟩
theorem cw_X3_clear : CW yX3_clear cX3_clear 1 none 0 := ⟨tbl_in (List.mem_of_getElem? (i := 370) (by decide +kernel)) rfl, tbl_in (List.mem_of_getElem? (i := 61) (by decide +kernel)) rfl, ⟨by decide +kernel, by decide +kernel⟩, by decide +kernel⟩
theorem cw_X0_isIn : CW yX0_isIn cX0_isIn 3 (some .boolean) 2 := ⟨tbl_in (List.mem_of_getElem? (i := 588) (by decide +kernel)) rfl, tbl_in (List.mem_of_getElem? (i := 60) (by decide +kernel)) rfl, ⟨by decide +kernel, by decide +kernel⟩, by decide +kernel⟩
theorem cw_X5_takesBehind : CW yX5_takesBehind cX5_takesBehind 3 (some .boolean) 1 := ⟨tbl_in (List.mem_of_getElem? (i := 891) (by decide +kernel)) rfl, tbl_in (List.mem_of_getElem? (i := 70) (by decide +kernel)) rfl, ⟨by decide +kernel, by decide +kernel⟩, by decide +kernel⟩
theorem cw_X5_takesKnots : CW yX5_takesKnots cX5_takesKnots 2 (some .boolean) 1 := ⟨tbl_in (List.mem_of_getElem? (i := 877) (by decide +kernel)) rfl, tbl_in (List.mem_of_getElem? (i := 70) (by decide +kernel)) rfl, ⟨by decide +kernel, by decide +kernel⟩, by decide +kernel⟩
theorem cw_X5_takesGroup : CW yX5_takesGroup cX5_takesGroup 2 (some .boolean) 1 := ⟨tbl_in (List.mem_of_getElem? (i := 859) (by decide +kernel)) rfl, tbl_in (List.mem_of_getElem? (i := 70) (by decide +kernel)) rfl, ⟨by decide +kernel, by decide +kernel⟩, by decide +kernel⟩
theorem cw_X5_isUnder : CW yX5_isUnder cX5_isUnder 4 (some .boolean) 2 := ⟨tbl_in (List.mem_of_getElem? (i := 942) (by decide +kernel)) rfl, tbl_in (List.mem_of_getElem? (i := 70) (by decide +kernel)) rfl, ⟨by decide +kernel, by decide +kernel⟩, by decide +kernel⟩
theorem cw_X5_value : CW yX5_value cX5_value 2 (some .int) 1 := ⟨tbl_in (List.mem_of_getElem? (i := 922) (by decide +kernel)) rfl, tbl_in (List.mem_of_getElem? (i := 70) (by decide +kernel)) rfl, ⟨by decide +kernel, by decide +kernel⟩, by decide +kernel⟩
theorem cw_X5_isOf : CW yX5_isOf cX5_isOf 3 (some .boolean) 2 := ⟨tbl_in (List.mem_of_getElem? (i := 969) (by decide +kernel)) rfl, tbl_in (List.mem_of_getElem? (i := 70) (by decide +kernel)) rfl, ⟨by decide +kernel, by decide +kernel⟩, by decide +kernel⟩
theorem cw_X5_workFor : CW yX5_workFor cX5_workFor 7 (some .int) 2 := ⟨tbl_in (List.mem_of_getElem? (i := 1005) (by decide +kernel)) rfl, tbl_in (List.mem_of_getElem? (i := 70) (by decide +kernel)) rfl, ⟨by decide +kernel, by decide +kernel⟩, by decide +kernel⟩
theorem cw_X5_ties : CW yX5_ties cX5_ties 5 none 2 := ⟨tbl_in (List.mem_of_getElem? (i := 1012) (by decide +kernel)) rfl, tbl_in (List.mem_of_getElem? (i := 70) (by decide +kernel)) rfl, ⟨by decide +kernel, by decide +kernel⟩, by decide +kernel⟩
theorem cw_X5_areAlikeBelow : CW yX5_areAlikeBelow cX5_areAlikeBelow 5 (some .boolean) 2 := ⟨tbl_in (List.mem_of_getElem? (i := 1122) (by decide +kernel)) rfl, tbl_in (List.mem_of_getElem? (i := 70) (by decide +kernel)) rfl, ⟨by decide +kernel, by decide +kernel⟩, by decide +kernel⟩
theorem cw_X0_isFrom : CW yX0_isFrom cX0_isFrom 4 (some .boolean) 2 := ⟨tbl_in (List.mem_of_getElem? (i := 437) (by decide +kernel)) rfl, tbl_in (List.mem_of_getElem? (i := 60) (by decide +kernel)) rfl, ⟨by decide +kernel, by decide +kernel⟩, by decide +kernel⟩
theorem cw_X0_knotsOf : CW yX0_knotsOf cX0_knotsOf 4 (some .int) 1 := ⟨tbl_in (List.mem_of_getElem? (i := 446) (by decide +kernel)) rfl, tbl_in (List.mem_of_getElem? (i := 60) (by decide +kernel)) rfl, ⟨by decide +kernel, by decide +kernel⟩, by decide +kernel⟩
theorem cw_X1_comesBehindCord : CW yX1_comesBehindCord cX1_comesBehindCord 3 (some .boolean) 1 := ⟨tbl_in (List.mem_of_getElem? (i := 305) (by decide +kernel)) rfl, tbl_in (List.mem_of_getElem? (i := 59) (by decide +kernel)) rfl, ⟨by decide +kernel, by decide +kernel⟩, by decide +kernel⟩
theorem cw_X1_opensCluster : CW yX1_opensCluster cX1_opensCluster 2 (some .boolean) 1 := ⟨tbl_in (List.mem_of_getElem? (i := 282) (by decide +kernel)) rfl, tbl_in (List.mem_of_getElem? (i := 59) (by decide +kernel)) rfl, ⟨by decide +kernel, by decide +kernel⟩, by decide +kernel⟩
theorem cw_X1_opensHanging : CW yX1_opensHanging cX1_opensHanging 2 (some .boolean) 1 := ⟨tbl_in (List.mem_of_getElem? (i := 301) (by decide +kernel)) rfl, tbl_in (List.mem_of_getElem? (i := 59) (by decide +kernel)) rfl, ⟨by decide +kernel, by decide +kernel⟩, by decide +kernel⟩
theorem cw_X1_opensGroup : CW yX1_opensGroup cX1_opensGroup 1 (some .boolean) 0 := ⟨tbl_in (List.mem_of_getElem? (i := 246) (by decide +kernel)) rfl, tbl_in (List.mem_of_getElem? (i := 59) (by decide +kernel)) rfl, ⟨by decide +kernel, by decide +kernel⟩, by decide +kernel⟩
theorem cw_X0_valueFromOtherEnd : CW yX0_valueFromOtherEnd cX0_valueFromOtherEnd 6 (some .int) 1 := ⟨tbl_in (List.mem_of_getElem? (i := 442) (by decide +kernel)) rfl, tbl_in (List.mem_of_getElem? (i := 60) (by decide +kernel)) rfl, ⟨by decide +kernel, by decide +kernel⟩, by decide +kernel⟩
theorem cw_X0_wholeOf : CW yX0_wholeOf cX0_wholeOf 5 (some .int) 1 := ⟨tbl_in (List.mem_of_getElem? (i := 433) (by decide +kernel)) rfl, tbl_in (List.mem_of_getElem? (i := 60) (by decide +kernel)) rfl, ⟨by decide +kernel, by decide +kernel⟩, by decide +kernel⟩
theorem cw_X0_hangingFrom : CW yX0_hangingFrom cX0_hangingFrom 4 (some .int) 1 := ⟨tbl_in (List.mem_of_getElem? (i := 401) (by decide +kernel)) rfl, tbl_in (List.mem_of_getElem? (i := 60) (by decide +kernel)) rfl, ⟨by decide +kernel, by decide +kernel⟩, by decide +kernel⟩
theorem cw_X0_hasCluster : CW yX0_hasCluster cX0_hasCluster 3 (some .boolean) 2 := ⟨tbl_in (List.mem_of_getElem? (i := 458) (by decide +kernel)) rfl, tbl_in (List.mem_of_getElem? (i := 60) (by decide +kernel)) rfl, ⟨by decide +kernel, by decide +kernel⟩, by decide +kernel⟩
theorem cw_X0_isPlainPendant : CW yX0_isPlainPendant cX0_isPlainPendant 2 (some .boolean) 1 := ⟨tbl_in (List.mem_of_getElem? (i := 486) (by decide +kernel)) rfl, tbl_in (List.mem_of_getElem? (i := 60) (by decide +kernel)) rfl, ⟨by decide +kernel, by decide +kernel⟩, by decide +kernel⟩
theorem cw_X0_moveBehind : CW yX0_moveBehind cX0_moveBehind 7 none 2 := ⟨tbl_in (List.mem_of_getElem? (i := 562) (by decide +kernel)) rfl, tbl_in (List.mem_of_getElem? (i := 60) (by decide +kernel)) rfl, ⟨by decide +kernel, by decide +kernel⟩, by decide +kernel⟩
theorem cw_X0_topOf : CW yX0_topOf cX0_topOf 3 (some .int) 1 := ⟨tbl_in (List.mem_of_getElem? (i := 477) (by decide +kernel)) rfl, tbl_in (List.mem_of_getElem? (i := 60) (by decide +kernel)) rfl, ⟨by decide +kernel, by decide +kernel⟩, by decide +kernel⟩
theorem cw_X0_pendantAbove : CW yX0_pendantAbove cX0_pendantAbove 4 (some .int) 1 := ⟨tbl_in (List.mem_of_getElem? (i := 616) (by decide +kernel)) rfl, tbl_in (List.mem_of_getElem? (i := 60) (by decide +kernel)) rfl, ⟨by decide +kernel, by decide +kernel⟩, by decide +kernel⟩
theorem cw_X2_clear : CW yX2_clear cX2_clear 1 none 0 := ⟨tbl_in (List.mem_of_getElem? (i := 642) (by decide +kernel)) rfl, tbl_in (List.mem_of_getElem? (i := 63) (by decide +kernel)) rfl, ⟨by decide +kernel, by decide +kernel⟩, by decide +kernel⟩
theorem cw_X2_findEvenest : CW yX2_findEvenest cX2_findEvenest 9 none 0 := ⟨tbl_in (List.mem_of_getElem? (i := 651) (by decide +kernel)) rfl, tbl_in (List.mem_of_getElem? (i := 63) (by decide +kernel)) rfl, ⟨by decide +kernel, by decide +kernel⟩, by decide +kernel⟩
theorem cw_X2_add : CW yX2_add cX2_add 3 none 2 := ⟨tbl_in (List.mem_of_getElem? (i := 646) (by decide +kernel)) rfl, tbl_in (List.mem_of_getElem? (i := 63) (by decide +kernel)) rfl, ⟨by decide +kernel, by decide +kernel⟩, by decide +kernel⟩
theorem cw_X2_findFewest : CW yX2_findFewest cX2_findFewest 9 none 1 := ⟨tbl_in (List.mem_of_getElem? (i := 693) (by decide +kernel)) rfl, tbl_in (List.mem_of_getElem? (i := 63) (by decide +kernel)) rfl, ⟨by decide +kernel, by decide +kernel⟩, by decide +kernel⟩
theorem cw_X0_told : CW yX0_told cX0_told 2 (some .int) 1 := ⟨tbl_in (List.mem_of_getElem? (i := 702) (by decide +kernel)) rfl, tbl_in (List.mem_of_getElem? (i := 60) (by decide +kernel)) rfl, ⟨by decide +kernel, by decide +kernel⟩, by decide +kernel⟩
theorem cw_X0_cordsFrom : CW yX0_cordsFrom cX0_cordsFrom 4 (some .int) 1 := ⟨tbl_in (List.mem_of_getElem? (i := 715) (by decide +kernel)) rfl, tbl_in (List.mem_of_getElem? (i := 60) (by decide +kernel)) rfl, ⟨by decide +kernel, by decide +kernel⟩, by decide +kernel⟩
theorem cw_X0_looksLike : CW yX0_looksLike cX0_looksLike 5 (some .boolean) 2 := ⟨tbl_in (List.mem_of_getElem? (i := 719) (by decide +kernel)) rfl, tbl_in (List.mem_of_getElem? (i := 60) (by decide +kernel)) rfl, ⟨by decide +kernel, by decide +kernel⟩, by decide +kernel⟩
theorem cw_X4_drawn : CW yX4_drawn cX4_drawn 6 (some .int) 2 := ⟨tbl_in (List.mem_of_getElem? (i := 727) (by decide +kernel)) rfl, tbl_in (List.mem_of_getElem? (i := 58) (by decide +kernel)) rfl, ⟨by decide +kernel, by decide +kernel⟩, by decide +kernel⟩
theorem cw_X0_allKnots : CW yX0_allKnots cX0_allKnots 3 (some .int) 0 := ⟨tbl_in (List.mem_of_getElem? (i := 760) (by decide +kernel)) rfl, tbl_in (List.mem_of_getElem? (i := 60) (by decide +kernel)) rfl, ⟨by decide +kernel, by decide +kernel⟩, by decide +kernel⟩
theorem cw_X0_wellKnotted : CW yX0_wellKnotted cX0_wellKnotted 3 (some .int) 0 := ⟨tbl_in (List.mem_of_getElem? (i := 756) (by decide +kernel)) rfl, tbl_in (List.mem_of_getElem? (i := 60) (by decide +kernel)) rfl, ⟨by decide +kernel, by decide +kernel⟩, by decide +kernel⟩
theorem cw_X0_tops : CW yX0_tops cX0_tops 3 (some .int) 0 := ⟨tbl_in (List.mem_of_getElem? (i := 752) (by decide +kernel)) rfl, tbl_in (List.mem_of_getElem? (i := 60) (by decide +kernel)) rfl, ⟨by decide +kernel, by decide +kernel⟩, by decide +kernel⟩
theorem cw_X5_takes : CW yX5_takes cX5_takes 2 (some .boolean) 1 := ⟨tbl_in (List.mem_of_getElem? (i := 855) (by decide +kernel)) rfl, tbl_in (List.mem_of_getElem? (i := 70) (by decide +kernel)) rfl, ⟨by decide +kernel, by decide +kernel⟩, by decide +kernel⟩
theorem cw_X5_beneath : CW yX5_beneath cX5_beneath 4 (some .int) 1 := ⟨tbl_in (List.mem_of_getElem? (i := 938) (by decide +kernel)) rfl, tbl_in (List.mem_of_getElem? (i := 70) (by decide +kernel)) rfl, ⟨by decide +kernel, by decide +kernel⟩, by decide +kernel⟩
theorem cw_X5_isGroup : CW yX5_isGroup cX5_isGroup 2 (some .boolean) 1 := ⟨tbl_in (List.mem_of_getElem? (i := 961) (by decide +kernel)) rfl, tbl_in (List.mem_of_getElem? (i := 70) (by decide +kernel)) rfl, ⟨by decide +kernel, by decide +kernel⟩, by decide +kernel⟩
theorem cw_X5_pendantAt : CW yX5_pendantAt cX5_pendantAt 6 (some .int) 2 := ⟨tbl_in (List.mem_of_getElem? (i := 994) (by decide +kernel)) rfl, tbl_in (List.mem_of_getElem? (i := 70) (by decide +kernel)) rfl, ⟨by decide +kernel, by decide +kernel⟩, by decide +kernel⟩
theorem cw_X5_manyOf : CW yX5_manyOf cX5_manyOf 4 (some .int) 1 := ⟨tbl_in (List.mem_of_getElem? (i := 965) (by decide +kernel)) rfl, tbl_in (List.mem_of_getElem? (i := 70) (by decide +kernel)) rfl, ⟨by decide +kernel, by decide +kernel⟩, by decide +kernel⟩
theorem cw_X5_layValues : CW yX5_layValues cX5_layValues 2 none 0 := ⟨tbl_in (List.mem_of_getElem? (i := 1087) (by decide +kernel)) rfl, tbl_in (List.mem_of_getElem? (i := 70) (by decide +kernel)) rfl, ⟨by decide +kernel, by decide +kernel⟩, by decide +kernel⟩
theorem cw_X5_tellOf : CW yX5_tellOf cX5_tellOf 4 (some .int) 1 := ⟨tbl_in (List.mem_of_getElem? (i := 1091) (by decide +kernel)) rfl, tbl_in (List.mem_of_getElem? (i := 70) (by decide +kernel)) rfl, ⟨by decide +kernel, by decide +kernel⟩, by decide +kernel⟩
theorem cw_X5_plain : CW yX5_plain cX5_plain 1 (some .int) 1 := ⟨tbl_in (List.mem_of_getElem? (i := 1059) (by decide +kernel)) rfl, tbl_in (List.mem_of_getElem? (i := 70) (by decide +kernel)) rfl, ⟨by decide +kernel, by decide +kernel⟩, by decide +kernel⟩
theorem cw_X5_bits : CW yX5_bits cX5_bits 3 (some .int) 1 := ⟨tbl_in (List.mem_of_getElem? (i := 1098) (by decide +kernel)) rfl, tbl_in (List.mem_of_getElem? (i := 70) (by decide +kernel)) rfl, ⟨by decide +kernel, by decide +kernel⟩, by decide +kernel⟩
theorem cw_X0_clear : CW yX0_clear cX0_clear 1 none 0 := ⟨tbl_in (List.mem_of_getElem? (i := 235) (by decide +kernel)) rfl, tbl_in (List.mem_of_getElem? (i := 60) (by decide +kernel)) rfl, ⟨by decide +kernel, by decide +kernel⟩, by decide +kernel⟩
theorem cw_X1_takes : CW yX1_takes cX1_takes 2 (some .boolean) 1 := ⟨tbl_in (List.mem_of_getElem? (i := 242) (by decide +kernel)) rfl, tbl_in (List.mem_of_getElem? (i := 59) (by decide +kernel)) rfl, ⟨by decide +kernel, by decide +kernel⟩, by decide +kernel⟩
theorem cw_X5_fault : CW yX5_fault cX5_fault 2 (some .int) 0 := ⟨tbl_in (List.mem_of_getElem? (i := 851) (by decide +kernel)) rfl, tbl_in (List.mem_of_getElem? (i := 70) (by decide +kernel)) rfl, ⟨by decide +kernel, by decide +kernel⟩, by decide +kernel⟩
theorem cw_X5_begins : CW yX5_begins cX5_begins 1 none 0 := ⟨tbl_in (List.mem_of_getElem? (i := 779) (by decide +kernel)) rfl, tbl_in (List.mem_of_getElem? (i := 70) (by decide +kernel)) rfl, ⟨by decide +kernel, by decide +kernel⟩, by decide +kernel⟩
theorem cw_X5_whole : CW yX5_whole cX5_whole 2 (some .int) 1 := ⟨tbl_in (List.mem_of_getElem? (i := 934) (by decide +kernel)) rfl, tbl_in (List.mem_of_getElem? (i := 70) (by decide +kernel)) rfl, ⟨by decide +kernel, by decide +kernel⟩, by decide +kernel⟩
theorem cw_X5_depthOf : CW yX5_depthOf cX5_depthOf 3 (some .int) 1 := ⟨tbl_in (List.mem_of_getElem? (i := 914) (by decide +kernel)) rfl, tbl_in (List.mem_of_getElem? (i := 70) (by decide +kernel)) rfl, ⟨by decide +kernel, by decide +kernel⟩, by decide +kernel⟩
theorem cw_X5_topOf : CW yX5_topOf cX5_topOf 4 (some .int) 1 := ⟨tbl_in (List.mem_of_getElem? (i := 977) (by decide +kernel)) rfl, tbl_in (List.mem_of_getElem? (i := 70) (by decide +kernel)) rfl, ⟨by decide +kernel, by decide +kernel⟩, by decide +kernel⟩
theorem cw_X0_sumOf : CW yX0_sumOf cX0_sumOf 5 (some .int) 1 := ⟨tbl_in (List.mem_of_getElem? (i := 482) (by decide +kernel)) rfl, tbl_in (List.mem_of_getElem? (i := 60) (by decide +kernel)) rfl, ⟨by decide +kernel, by decide +kernel⟩, by decide +kernel⟩
theorem cw_X1_read : CW yX1_read cX1_read 4 (some .int) 2 := ⟨tbl_in (List.mem_of_getElem? (i := 231) (by decide +kernel)) rfl, tbl_in (List.mem_of_getElem? (i := 59) (by decide +kernel)) rfl, ⟨by decide +kernel, by decide +kernel⟩, by decide +kernel⟩
theorem cw_X0_becomeAs : CW yX0_becomeAs cX0_becomeAs 2 none 1 := ⟨tbl_in (List.mem_of_getElem? (i := 309) (by decide +kernel)) rfl, tbl_in (List.mem_of_getElem? (i := 60) (by decide +kernel)) rfl, ⟨by decide +kernel, by decide +kernel⟩, by decide +kernel⟩
theorem cw_X0_canBeCompared : CW yX0_canBeCompared cX0_canBeCompared 3 (some .boolean) 1 := ⟨tbl_in (List.mem_of_getElem? (i := 492) (by decide +kernel)) rfl, tbl_in (List.mem_of_getElem? (i := 60) (by decide +kernel)) rfl, ⟨by decide +kernel, by decide +kernel⟩, by decide +kernel⟩
theorem cw_X0_excessOf : CW yX0_excessOf cX0_excessOf 2 (some .int) 1 := ⟨tbl_in (List.mem_of_getElem? (i := 498) (by decide +kernel)) rfl, tbl_in (List.mem_of_getElem? (i := 60) (by decide +kernel)) rfl, ⟨by decide +kernel, by decide +kernel⟩, by decide +kernel⟩
theorem cw_X4_slipAt : CW yX4_slipAt cX4_slipAt 8 (some .int) 3 := ⟨tbl_in (List.mem_of_getElem? (i := 607) (by decide +kernel)) rfl, tbl_in (List.mem_of_getElem? (i := 58) (by decide +kernel)) rfl, ⟨by decide +kernel, by decide +kernel⟩, by decide +kernel⟩
theorem cw_J9_floorMod_7cf53 : CW yJ9_floorMod_7cf53 cJ9_floorMod_7cf53 3 (some .int) 2 := ⟨tbl_in (List.mem_of_getElem? (i := 599) (by decide +kernel)) rfl, tbl_in (List.mem_of_getElem? (i := 62) (by decide +kernel)) rfl, ⟨by decide +kernel, by decide +kernel⟩, by decide +kernel⟩
theorem cw_X4_leastMoves : CW yX4_leastMoves cX4_leastMoves 10 (some .int) 4 := ⟨tbl_in (List.mem_of_getElem? (i := 593) (by decide +kernel)) rfl, tbl_in (List.mem_of_getElem? (i := 58) (by decide +kernel)) rfl, ⟨by decide +kernel, by decide +kernel⟩, by decide +kernel⟩
theorem cw_X5_sumOf : CW yX5_sumOf cX5_sumOf 4 (some .int) 1 := ⟨tbl_in (List.mem_of_getElem? (i := 981) (by decide +kernel)) rfl, tbl_in (List.mem_of_getElem? (i := 70) (by decide +kernel)) rfl, ⟨by decide +kernel, by decide +kernel⟩, by decide +kernel⟩
theorem cw_X4_measureRoom : CW yX4_measureRoom cX4_measureRoom 6 none 1 := ⟨tbl_in (List.mem_of_getElem? (i := 583) (by decide +kernel)) rfl, tbl_in (List.mem_of_getElem? (i := 58) (by decide +kernel)) rfl, ⟨by decide +kernel, by decide +kernel⟩, by decide +kernel⟩
theorem cw_X5_wrongBy : CW yX5_wrongBy cX5_wrongBy 3 (some .int) 1 := ⟨tbl_in (List.mem_of_getElem? (i := 985) (by decide +kernel)) rfl, tbl_in (List.mem_of_getElem? (i := 70) (by decide +kernel)) rfl, ⟨by decide +kernel, by decide +kernel⟩, by decide +kernel⟩
theorem cw_X5_layRoom : CW yX5_layRoom cX5_layRoom 6 none 1 := ⟨tbl_in (List.mem_of_getElem? (i := 1055) (by decide +kernel)) rfl, tbl_in (List.mem_of_getElem? (i := 70) (by decide +kernel)) rfl, ⟨by decide +kernel, by decide +kernel⟩, by decide +kernel⟩
theorem cw_X4_write : CW yX4_write cX4_write 2 (some .int) 1 := ⟨tbl_in (List.mem_of_getElem? (i := 354) (by decide +kernel)) rfl, tbl_in (List.mem_of_getElem? (i := 58) (by decide +kernel)) rfl, ⟨by decide +kernel, by decide +kernel⟩, by decide +kernel⟩
theorem cw_X5_write : CW yX5_write cX5_write 2 (some .int) 1 := ⟨tbl_in (List.mem_of_getElem? (i := 838) (by decide +kernel)) rfl, tbl_in (List.mem_of_getElem? (i := 70) (by decide +kernel)) rfl, ⟨by decide +kernel, by decide +kernel⟩, by decide +kernel⟩
theorem cw_X4_wipe : CW yX4_wipe cX4_wipe 2 (some .int) 0 := ⟨tbl_in (List.mem_of_getElem? (i := 358) (by decide +kernel)) rfl, tbl_in (List.mem_of_getElem? (i := 58) (by decide +kernel)) rfl, ⟨by decide +kernel, by decide +kernel⟩, by decide +kernel⟩
theorem cw_X5_wipe : CW yX5_wipe cX5_wipe 2 (some .int) 0 := ⟨tbl_in (List.mem_of_getElem? (i := 847) (by decide +kernel)) rfl, tbl_in (List.mem_of_getElem? (i := 70) (by decide +kernel)) rfl, ⟨by decide +kernel, by decide +kernel⟩, by decide +kernel⟩
theorem cw_X4_fault : CW yX4_fault cX4_fault 1 (some .int) 0 := ⟨tbl_in (List.mem_of_getElem? (i := 362) (by decide +kernel)) rfl, tbl_in (List.mem_of_getElem? (i := 58) (by decide +kernel)) rfl, ⟨by decide +kernel, by decide +kernel⟩, by decide +kernel⟩
theorem cw_X4_lay : CW yX4_lay cX4_lay 1 (some .int) 0 := ⟨tbl_in (List.mem_of_getElem? (i := 366) (by decide +kernel)) rfl, tbl_in (List.mem_of_getElem? (i := 58) (by decide +kernel)) rfl, ⟨by decide +kernel, by decide +kernel⟩, by decide +kernel⟩
theorem cw_X5_lay : CW yX5_lay cX5_lay 1 (some .int) 0 := ⟨tbl_in (List.mem_of_getElem? (i := 897) (by decide +kernel)) rfl, tbl_in (List.mem_of_getElem? (i := 70) (by decide +kernel)) rfl, ⟨by decide +kernel, by decide +kernel⟩, by decide +kernel⟩
theorem cw_X4_cord : CW yX4_cord cX4_cord 3 (some .int) 2 := ⟨tbl_in (List.mem_of_getElem? (i := 375) (by decide +kernel)) rfl, tbl_in (List.mem_of_getElem? (i := 58) (by decide +kernel)) rfl, ⟨by decide +kernel, by decide +kernel⟩, by decide +kernel⟩
theorem cw_X5_cord : CW yX5_cord cX5_cord 3 (some .int) 2 := ⟨tbl_in (List.mem_of_getElem? (i := 902) (by decide +kernel)) rfl, tbl_in (List.mem_of_getElem? (i := 70) (by decide +kernel)) rfl, ⟨by decide +kernel, by decide +kernel⟩, by decide +kernel⟩
theorem cw_X4_cluster : CW yX4_cluster cX4_cluster 3 (some .int) 2 := ⟨tbl_in (List.mem_of_getElem? (i := 454) (by decide +kernel)) rfl, tbl_in (List.mem_of_getElem? (i := 58) (by decide +kernel)) rfl, ⟨by decide +kernel, by decide +kernel⟩, by decide +kernel⟩
theorem cw_X5_cluster : CW yX5_cluster cX5_cluster 3 (some .int) 2 := ⟨tbl_in (List.mem_of_getElem? (i := 953) (by decide +kernel)) rfl, tbl_in (List.mem_of_getElem? (i := 70) (by decide +kernel)) rfl, ⟨by decide +kernel, by decide +kernel⟩, by decide +kernel⟩
theorem cw_X4_group : CW yX4_group cX4_group 3 (some .int) 2 := ⟨tbl_in (List.mem_of_getElem? (i := 464) (by decide +kernel)) rfl, tbl_in (List.mem_of_getElem? (i := 58) (by decide +kernel)) rfl, ⟨by decide +kernel, by decide +kernel⟩, by decide +kernel⟩
theorem cw_X5_group : CW yX5_group cX5_group 3 (some .int) 2 := ⟨tbl_in (List.mem_of_getElem? (i := 957) (by decide +kernel)) rfl, tbl_in (List.mem_of_getElem? (i := 70) (by decide +kernel)) rfl, ⟨by decide +kernel, by decide +kernel⟩, by decide +kernel⟩
theorem cw_X4_pendant : CW yX4_pendant cX4_pendant 3 (some .int) 2 := ⟨tbl_in (List.mem_of_getElem? (i := 502) (by decide +kernel)) rfl, tbl_in (List.mem_of_getElem? (i := 58) (by decide +kernel)) rfl, ⟨by decide +kernel, by decide +kernel⟩, by decide +kernel⟩
theorem cw_X5_pendant : CW yX5_pendant cX5_pendant 3 (some .int) 2 := ⟨tbl_in (List.mem_of_getElem? (i := 990) (by decide +kernel)) rfl, tbl_in (List.mem_of_getElem? (i := 70) (by decide +kernel)) rfl, ⟨by decide +kernel, by decide +kernel⟩, by decide +kernel⟩
theorem cw_X4_tie : CW yX4_tie cX4_tie 4 (some .int) 2 := ⟨tbl_in (List.mem_of_getElem? (i := 510) (by decide +kernel)) rfl, tbl_in (List.mem_of_getElem? (i := 58) (by decide +kernel)) rfl, ⟨by decide +kernel, by decide +kernel⟩, by decide +kernel⟩
theorem cw_X5_tie : CW yX5_tie cX5_tie 4 (some .int) 2 := ⟨tbl_in (List.mem_of_getElem? (i := 998) (by decide +kernel)) rfl, tbl_in (List.mem_of_getElem? (i := 70) (by decide +kernel)) rfl, ⟨by decide +kernel, by decide +kernel⟩, by decide +kernel⟩
theorem cw_X4_more : CW yX4_more cX4_more 4 (some .int) 2 := ⟨tbl_in (List.mem_of_getElem? (i := 538) (by decide +kernel)) rfl, tbl_in (List.mem_of_getElem? (i := 58) (by decide +kernel)) rfl, ⟨by decide +kernel, by decide +kernel⟩, by decide +kernel⟩
theorem cw_X5_more : CW yX5_more cX5_more 4 (some .int) 2 := ⟨tbl_in (List.mem_of_getElem? (i := 1020) (by decide +kernel)) rfl, tbl_in (List.mem_of_getElem? (i := 70) (by decide +kernel)) rfl, ⟨by decide +kernel, by decide +kernel⟩, by decide +kernel⟩
theorem cw_X4_knot : CW yX4_knot cX4_knot 5 (some .int) 4 := ⟨tbl_in (List.mem_of_getElem? (i := 542) (by decide +kernel)) rfl, tbl_in (List.mem_of_getElem? (i := 58) (by decide +kernel)) rfl, ⟨by decide +kernel, by decide +kernel⟩, by decide +kernel⟩
theorem cw_X5_knot : CW yX5_knot cX5_knot 5 (some .int) 4 := ⟨tbl_in (List.mem_of_getElem? (i := 1026) (by decide +kernel)) rfl, tbl_in (List.mem_of_getElem? (i := 70) (by decide +kernel)) rfl, ⟨by decide +kernel, by decide +kernel⟩, by decide +kernel⟩
theorem cw_X4_dye : CW yX4_dye cX4_dye 4 (some .int) 2 := ⟨tbl_in (List.mem_of_getElem? (i := 548) (by decide +kernel)) rfl, tbl_in (List.mem_of_getElem? (i := 58) (by decide +kernel)) rfl, ⟨by decide +kernel, by decide +kernel⟩, by decide +kernel⟩
theorem cw_X5_dye : CW yX5_dye cX5_dye 4 (some .int) 2 := ⟨tbl_in (List.mem_of_getElem? (i := 1035) (by decide +kernel)) rfl, tbl_in (List.mem_of_getElem? (i := 70) (by decide +kernel)) rfl, ⟨by decide +kernel, by decide +kernel⟩, by decide +kernel⟩
theorem cw_X4_hang : CW yX4_hang cX4_hang 4 (some .int) 2 := ⟨tbl_in (List.mem_of_getElem? (i := 557) (by decide +kernel)) rfl, tbl_in (List.mem_of_getElem? (i := 58) (by decide +kernel)) rfl, ⟨by decide +kernel, by decide +kernel⟩, by decide +kernel⟩
theorem cw_X5_hang : CW yX5_hang cX5_hang 5 (some .int) 2 := ⟨tbl_in (List.mem_of_getElem? (i := 1039) (by decide +kernel)) rfl, tbl_in (List.mem_of_getElem? (i := 70) (by decide +kernel)) rfl, ⟨by decide +kernel, by decide +kernel⟩, by decide +kernel⟩
theorem cw_X4_undo : CW yX4_undo cX4_undo 1 (some .int) 0 := ⟨tbl_in (List.mem_of_getElem? (i := 566) (by decide +kernel)) rfl, tbl_in (List.mem_of_getElem? (i := 58) (by decide +kernel)) rfl, ⟨by decide +kernel, by decide +kernel⟩, by decide +kernel⟩
theorem cw_X5_undo : CW yX5_undo cX5_undo 1 (some .int) 0 := ⟨tbl_in (List.mem_of_getElem? (i := 1043) (by decide +kernel)) rfl, tbl_in (List.mem_of_getElem? (i := 70) (by decide +kernel)) rfl, ⟨by decide +kernel, by decide +kernel⟩, by decide +kernel⟩
theorem cw_X4_wrong : CW yX4_wrong cX4_wrong 2 (some .int) 1 := ⟨tbl_in (List.mem_of_getElem? (i := 574) (by decide +kernel)) rfl, tbl_in (List.mem_of_getElem? (i := 58) (by decide +kernel)) rfl, ⟨by decide +kernel, by decide +kernel⟩, by decide +kernel⟩
theorem cw_X5_wrong : CW yX5_wrong cX5_wrong 2 (some .int) 1 := ⟨tbl_in (List.mem_of_getElem? (i := 1047) (by decide +kernel)) rfl, tbl_in (List.mem_of_getElem? (i := 70) (by decide +kernel)) rfl, ⟨by decide +kernel, by decide +kernel⟩, by decide +kernel⟩
theorem cw_X4_mend : CW yX4_mend cX4_mend 2 (some .int) 1 := ⟨tbl_in (List.mem_of_getElem? (i := 579) (by decide +kernel)) rfl, tbl_in (List.mem_of_getElem? (i := 58) (by decide +kernel)) rfl, ⟨by decide +kernel, by decide +kernel⟩, by decide +kernel⟩
theorem cw_X5_mend : CW yX5_mend cX5_mend 14 (some .int) 1 := ⟨tbl_in (List.mem_of_getElem? (i := 1051) (by decide +kernel)) rfl, tbl_in (List.mem_of_getElem? (i := 70) (by decide +kernel)) rfl, ⟨by decide +kernel, by decide +kernel⟩, by decide +kernel⟩
theorem cw_X4_slip : CW yX4_slip cX4_slip 9 (some .int) 2 := ⟨tbl_in (List.mem_of_getElem? (i := 603) (by decide +kernel)) rfl, tbl_in (List.mem_of_getElem? (i := 58) (by decide +kernel)) rfl, ⟨by decide +kernel, by decide +kernel⟩, by decide +kernel⟩
theorem cw_X5_slip : CW yX5_slip cX5_slip 11 (some .int) 2 := ⟨tbl_in (List.mem_of_getElem? (i := 1063) (by decide +kernel)) rfl, tbl_in (List.mem_of_getElem? (i := 70) (by decide +kernel)) rfl, ⟨by decide +kernel, by decide +kernel⟩, by decide +kernel⟩
theorem cw_X4_lost : CW yX4_lost cX4_lost 7 (some .int) 1 := ⟨tbl_in (List.mem_of_getElem? (i := 612) (by decide +kernel)) rfl, tbl_in (List.mem_of_getElem? (i := 58) (by decide +kernel)) rfl, ⟨by decide +kernel, by decide +kernel⟩, by decide +kernel⟩
theorem cw_X5_lost : CW yX5_lost cX5_lost 6 (some .int) 1 := ⟨tbl_in (List.mem_of_getElem? (i := 1070) (by decide +kernel)) rfl, tbl_in (List.mem_of_getElem? (i := 70) (by decide +kernel)) rfl, ⟨by decide +kernel, by decide +kernel⟩, by decide +kernel⟩
theorem cw_X4_closed : CW yX4_closed cX4_closed 9 (some .int) 3 := ⟨tbl_in (List.mem_of_getElem? (i := 620) (by decide +kernel)) rfl, tbl_in (List.mem_of_getElem? (i := 58) (by decide +kernel)) rfl, ⟨by decide +kernel, by decide +kernel⟩, by decide +kernel⟩
theorem cw_X5_closed : CW yX5_closed cX5_closed 12 (some .int) 3 := ⟨tbl_in (List.mem_of_getElem? (i := 1074) (by decide +kernel)) rfl, tbl_in (List.mem_of_getElem? (i := 70) (by decide +kernel)) rfl, ⟨by decide +kernel, by decide +kernel⟩, by decide +kernel⟩
theorem cw_X4_order : CW yX4_order cX4_order 8 (some .int) 1 := ⟨tbl_in (List.mem_of_getElem? (i := 633) (by decide +kernel)) rfl, tbl_in (List.mem_of_getElem? (i := 58) (by decide +kernel)) rfl, ⟨by decide +kernel, by decide +kernel⟩, by decide +kernel⟩
theorem cw_X5_order : CW yX5_order cX5_order 6 (some .int) 1 := ⟨tbl_in (List.mem_of_getElem? (i := 1079) (by decide +kernel)) rfl, tbl_in (List.mem_of_getElem? (i := 70) (by decide +kernel)) rfl, ⟨by decide +kernel, by decide +kernel⟩, by decide +kernel⟩
theorem cw_X4_share : CW yX4_share cX4_share 5 (some .int) 2 := ⟨tbl_in (List.mem_of_getElem? (i := 638) (by decide +kernel)) rfl, tbl_in (List.mem_of_getElem? (i := 58) (by decide +kernel)) rfl, ⟨by decide +kernel, by decide +kernel⟩, by decide +kernel⟩
theorem cw_X5_share : CW yX5_share cX5_share 9 (some .int) 2 := ⟨tbl_in (List.mem_of_getElem? (i := 1083) (by decide +kernel)) rfl, tbl_in (List.mem_of_getElem? (i := 70) (by decide +kernel)) rfl, ⟨by decide +kernel, by decide +kernel⟩, by decide +kernel⟩
theorem cw_X4_make : CW yX4_make cX4_make 3 (some .int) 1 := ⟨tbl_in (List.mem_of_getElem? (i := 689) (by decide +kernel)) rfl, tbl_in (List.mem_of_getElem? (i := 58) (by decide +kernel)) rfl, ⟨by decide +kernel, by decide +kernel⟩, by decide +kernel⟩
theorem cw_X5_make : CW yX5_make cX5_make 6 (some .int) 1 := ⟨tbl_in (List.mem_of_getElem? (i := 1095) (by decide +kernel)) rfl, tbl_in (List.mem_of_getElem? (i := 70) (by decide +kernel)) rfl, ⟨by decide +kernel, by decide +kernel⟩, by decide +kernel⟩
theorem cw_X4_colours : CW yX4_colours cX4_colours 6 (some .int) 2 := ⟨tbl_in (List.mem_of_getElem? (i := 698) (by decide +kernel)) rfl, tbl_in (List.mem_of_getElem? (i := 58) (by decide +kernel)) rfl, ⟨by decide +kernel, by decide +kernel⟩, by decide +kernel⟩
theorem cw_X5_colours : CW yX5_colours cX5_colours 6 (some .int) 2 := ⟨tbl_in (List.mem_of_getElem? (i := 1102) (by decide +kernel)) rfl, tbl_in (List.mem_of_getElem? (i := 70) (by decide +kernel)) rfl, ⟨by decide +kernel, by decide +kernel⟩, by decide +kernel⟩
theorem cw_X4_path : CW yX4_path cX4_path 6 (some .int) 2 := ⟨tbl_in (List.mem_of_getElem? (i := 707) (by decide +kernel)) rfl, tbl_in (List.mem_of_getElem? (i := 58) (by decide +kernel)) rfl, ⟨by decide +kernel, by decide +kernel⟩, by decide +kernel⟩
theorem cw_X5_path : CW yX5_path cX5_path 6 (some .int) 2 := ⟨tbl_in (List.mem_of_getElem? (i := 1106) (by decide +kernel)) rfl, tbl_in (List.mem_of_getElem? (i := 70) (by decide +kernel)) rfl, ⟨by decide +kernel, by decide +kernel⟩, by decide +kernel⟩
theorem cw_X4_same : CW yX4_same cX4_same 7 (some .int) 2 := ⟨tbl_in (List.mem_of_getElem? (i := 711) (by decide +kernel)) rfl, tbl_in (List.mem_of_getElem? (i := 58) (by decide +kernel)) rfl, ⟨by decide +kernel, by decide +kernel⟩, by decide +kernel⟩
theorem cw_X5_same : CW yX5_same cX5_same 5 (some .int) 2 := ⟨tbl_in (List.mem_of_getElem? (i := 1110) (by decide +kernel)) rfl, tbl_in (List.mem_of_getElem? (i := 70) (by decide +kernel)) rfl, ⟨by decide +kernel, by decide +kernel⟩, by decide +kernel⟩
theorem cw_X4_year : CW yX4_year cX4_year 8 (some .int) 2 := ⟨tbl_in (List.mem_of_getElem? (i := 724) (by decide +kernel)) rfl, tbl_in (List.mem_of_getElem? (i := 58) (by decide +kernel)) rfl, ⟨by decide +kernel, by decide +kernel⟩, by decide +kernel⟩
theorem cw_X5_year : CW yX5_year cX5_year 11 (some .int) 2 := ⟨tbl_in (List.mem_of_getElem? (i := 1126) (by decide +kernel)) rfl, tbl_in (List.mem_of_getElem? (i := 70) (by decide +kernel)) rfl, ⟨by decide +kernel, by decide +kernel⟩, by decide +kernel⟩
theorem cw_X4_keep : CW yX4_keep cX4_keep 1 (some .int) 0 := ⟨tbl_in (List.mem_of_getElem? (i := 739) (by decide +kernel)) rfl, tbl_in (List.mem_of_getElem? (i := 58) (by decide +kernel)) rfl, ⟨by decide +kernel, by decide +kernel⟩, by decide +kernel⟩
theorem cw_X5_keep : CW yX5_keep cX5_keep 1 (some .int) 0 := ⟨tbl_in (List.mem_of_getElem? (i := 1133) (by decide +kernel)) rfl, tbl_in (List.mem_of_getElem? (i := 70) (by decide +kernel)) rfl, ⟨by decide +kernel, by decide +kernel⟩, by decide +kernel⟩
theorem cw_X4_back : CW yX4_back cX4_back 1 (some .int) 0 := ⟨tbl_in (List.mem_of_getElem? (i := 743) (by decide +kernel)) rfl, tbl_in (List.mem_of_getElem? (i := 58) (by decide +kernel)) rfl, ⟨by decide +kernel, by decide +kernel⟩, by decide +kernel⟩
theorem cw_X5_back : CW yX5_back cX5_back 1 (some .int) 0 := ⟨tbl_in (List.mem_of_getElem? (i := 1137) (by decide +kernel)) rfl, tbl_in (List.mem_of_getElem? (i := 70) (by decide +kernel)) rfl, ⟨by decide +kernel, by decide +kernel⟩, by decide +kernel⟩
theorem cw_X4_count : CW yX4_count cX4_count 2 (some .int) 1 := ⟨tbl_in (List.mem_of_getElem? (i := 747) (by decide +kernel)) rfl, tbl_in (List.mem_of_getElem? (i := 58) (by decide +kernel)) rfl, ⟨by decide +kernel, by decide +kernel⟩, by decide +kernel⟩
theorem cw_X5_count : CW yX5_count cX5_count 6 (some .int) 1 := ⟨tbl_in (List.mem_of_getElem? (i := 1141) (by decide +kernel)) rfl, tbl_in (List.mem_of_getElem? (i := 70) (by decide +kernel)) rfl, ⟨by decide +kernel, by decide +kernel⟩, by decide +kernel⟩
