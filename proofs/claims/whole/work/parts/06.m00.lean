set_option maxRecDepth 100000 in
set_option maxHeartbeats 4000000 in
theorem c_X1_opensHanging {l : Launch} {w : Wd} {A : Nat → Prop} (h : Hp) (a1 : Int32) (hL : LX w) : ConI l yX1_opensHanging cX1_opensHanging 2 .boolean 0 w A [.ref (w.2.1 2), .int a1] h ((fX1_opensHanging h a1)) := by
  refine ConI.of (lv0 := [some (.ref (w.2.1 2)), some (.int a1)]) (by decide +kernel) (Nat.le_of_ble_eq_true rfl) rfl (fun x C hR hN => ?_)
  unfold fX1_opensHanging
  refine pw_iload_n C dX1_opensHanging_0 rfl rfl ?_
  refine pw_bipush (v := 40) C dX1_opensHanging_1 (by decide) ?_
  refine pw_icmp_ne (tgt := 14) C dX1_opensHanging_3 (by decide) (fun c3 => ?_) (fun c3 => ?_)
  · refine pw_aload_n C dX1_opensHanging_6 rfl rfl ?_
    refine pw_geti C (hL 2 _ rfl) rfl (k := 3) (by decide) rfl fl_X1_29 dX1_opensHanging_7 ?_
    refine pw_iconst (v := 2) C dX1_opensHanging_10 (by decide) ?_
    refine pw_icmp_lt (tgt := 16) C dX1_opensHanging_11 (by decide) (fun c4 => ?_) (fun c4 => ?_)
    · refine pw_aload_n C dX1_opensHanging_16 rfl rfl ?_
      refine pw_dup C dX1_opensHanging_17 rfl ?_
      refine pw_geti C (hL 2 _ rfl) rfl (k := 3) (by decide) rfl fl_X1_29 dX1_opensHanging_18 ?_
      refine pw_iconst (v := 1) C dX1_opensHanging_21 (by decide) ?_
      refine pw_iadd C dX1_opensHanging_22 ?_
      refine pw_puti C (hL 2 _ rfl) rfl (k := 3) (by decide) rfl fl_X1_29 dX1_opensHanging_23 rfl (by decide) ?_
      refine pw_nameh (fun g1 => ?_)
      refine pw_aload_n C dX1_opensHanging_26 rfl rfl ?_
      refine pw_iconst (v := 1) C dX1_opensHanging_27 (by decide) ?_
      refine pw_puti C (hL 2 _ rfl) rfl (k := 2) (by decide) rfl fl_X1_25 dX1_opensHanging_28 rfl (by decide) ?_
      refine pw_nameh (fun g2 => ?_)
      refine pw_iconst (v := 1) C dX1_opensHanging_31 (by decide) ?_
      exact pw_zret' C hR dX1_opensHanging_32 (by decide)
    · refine pw_iconst (v := 0) C dX1_opensHanging_14 (by decide) ?_
      exact pw_zret' C hR dX1_opensHanging_15 (by decide)
  · refine pw_iconst (v := 0) C dX1_opensHanging_14 (by decide) ?_
    exact pw_zret' C hR dX1_opensHanging_15 (by decide)
set_option maxRecDepth 100000 in
set_option maxHeartbeats 4000000 in
theorem c_X2_clear {l : Launch} {w : Wd} {A : Nat → Prop} (h : Hp) (hL : LX w) : ConV l yX2_clear cX2_clear 1 0 w A [.ref (w.2.1 12)] h ((fX2_clear h)) := by
  refine ConV.of (lv0 := [some (.ref (w.2.1 12))]) (by decide +kernel) (Nat.le_of_ble_eq_true rfl) rfl (fun x C hR hN => ?_)
  unfold fX2_clear
  refine pw_aload_n C dX2_clear_0 rfl rfl ?_
  refine pw_iconst (v := 0) C dX2_clear_1 (by decide) ?_
  refine pw_puti C (hL 12 _ rfl) rfl (k := 5) (by decide) rfl fl_X2_27 dX2_clear_2 rfl (by decide) ?_
  refine pw_nameh (fun g1 => ?_)
  exact pw_vret C hR dX2_clear_5
set_option maxRecDepth 100000 in
set_option maxHeartbeats 4000000 in
theorem c_X3_clear {l : Launch} {w : Wd} {A : Nat → Prop} (h : Hp) (sh sl nl : Nat) (hs : w.2.2.1[sh]? = some (0, 3, [0, sl + 2, 0])) (hl : w.2.2.1[sl]? = some (1, nl, [])) : ConV l yX3_clear cX3_clear 1 0 w A [.ref (w.2.1 sh)] h ((fX3_clear h sh sl nl)) := by
  refine ConV.of (lv0 := [some (.ref (w.2.1 sh))]) (by decide +kernel) (Nat.le_of_ble_eq_true rfl) rfl (fun x C hR hN => ?_)
  unfold fX3_clear
  refine pw_aload_n C dX3_clear_0 rfl rfl ?_
  refine pw_iconst (v := 0) C dX3_clear_1 (by decide) ?_
  refine pw_puti C hs rfl (k := 2) (by decide) rfl fl_X3_25 dX3_clear_2 rfl (by decide) ?_
  refine pw_nameh (fun g1 => ?_)
  exact pw_vret C hR dX3_clear_5
set_option maxRecDepth 100000 in
set_option maxHeartbeats 4000000 in
theorem c_X4_write {l : Launch} {w : Wd} {A : Nat → Prop} (h : Hp) (a1 : Int32) (hL : LX w) : ConI l yX4_write cX4_write 2 .int 0 w A [.ref (w.2.1 0), .int a1] h ((fX4_write h a1)) := by
  refine ConI.of (lv0 := [some (.ref (w.2.1 0)), some (.int a1)]) (by decide +kernel) (Nat.le_of_ble_eq_true rfl) rfl (fun x C hR hN => ?_)
  unfold fX4_write
  refine pw_iload_n C dX4_write_0 rfl rfl ?_
  refine pw_bipush (v := 32) C dX4_write_1 (by decide) ?_
  refine pw_icmp_lt (tgt := 12) C dX4_write_3 (by decide) (fun c3 => ?_) (fun c3 => ?_)
  · refine pw_iconst (v := (-1)) C dX4_write_12 (by decide) ?_
    exact pw_iret C hR dX4_write_13
  · refine pw_iload_n C dX4_write_6 rfl rfl ?_
    refine pw_bipush (v := 126) C dX4_write_7 (by decide) ?_
    refine pw_icmp_le (tgt := 14) C dX4_write_9 (by decide) (fun c4 => ?_) (fun c4 => ?_)
    · refine pw_iconst (v := (-1)) C dX4_write_12 (by decide) ?_
      exact pw_iret C hR dX4_write_13
    · refine pw_aload_n C dX4_write_14 rfl rfl ?_
      refine pw_geti C (hL 0 _ rfl) rfl (k := 1) (by decide) rfl fl_X4_85 dX4_write_15 ?_
      refine pw_if_lt (tgt := 33) C dX4_write_18 (by decide) (fun c5 => ?_) (fun c5 => ?_)
      · refine pw_bipush (v := (-3)) C dX4_write_33 (by decide) ?_
        exact pw_iret C hR dX4_write_35
      · refine pw_aload_n C dX4_write_21 rfl rfl ?_
        refine pw_geti C (hL 0 _ rfl) rfl (k := 1) (by decide) rfl fl_X4_85 dX4_write_22 ?_
        refine pw_aload_n C dX4_write_25 rfl rfl ?_
        refine pw_getr (q2 := 1) C (hL 0 _ rfl) rfl (k := 0) (by decide) rfl fl_X4_9 dX4_write_26 ?_
        refine pw_calen (v := 200) C (hL 1 _ rfl) rfl dX4_write_29 ?_
        refine pw_icmp_lt (tgt := 36) C dX4_write_30 (by decide) (fun c6 => ?_) (fun c6 => ?_)
        · refine pw_aload_n C dX4_write_36 rfl rfl ?_
          refine pw_getr (q2 := 1) C (hL 0 _ rfl) rfl (k := 0) (by decide) rfl fl_X4_9 dX4_write_37 ?_
          refine pw_aload_n C dX4_write_40 rfl rfl ?_
          refine pw_geti C (hL 0 _ rfl) rfl (k := 1) (by decide) rfl fl_X4_85 dX4_write_41 ?_
          refine pw_iload_n C dX4_write_44 rfl rfl ?_
          refine pw_i2c C dX4_write_45 ?_
          refine pw_cast C (hL 1 _ rfl) dX4_write_46 ?_
          refine pw_nameh (fun g1 => ?_)
          refine pw_aload_n C dX4_write_47 rfl rfl ?_
          refine pw_dup C dX4_write_48 rfl ?_
          refine pw_geti C (hL 0 _ rfl) rfl (k := 1) (by decide) rfl fl_X4_85 dX4_write_49 ?_
          refine pw_iconst (v := 1) C dX4_write_52 (by decide) ?_
          refine pw_iadd C dX4_write_53 ?_
          refine pw_puti C (hL 0 _ rfl) rfl (k := 1) (by decide) rfl fl_X4_85 dX4_write_54 rfl (by decide) ?_
          refine pw_nameh (fun g2 => ?_)
          refine pw_aload_n C dX4_write_57 rfl rfl ?_
          refine pw_geti C (hL 0 _ rfl) rfl (k := 1) (by decide) rfl fl_X4_85 dX4_write_58 ?_
          exact pw_iret C hR dX4_write_61
        · refine pw_bipush (v := (-3)) C dX4_write_33 (by decide) ?_
          exact pw_iret C hR dX4_write_35
set_option maxRecDepth 100000 in
set_option maxHeartbeats 4000000 in
theorem c_X4_wipe {l : Launch} {w : Wd} {A : Nat → Prop} (h : Hp) (hL : LX w) : ConI l yX4_wipe cX4_wipe 2 .int 0 w A [.ref (w.2.1 0)] h ((fX4_wipe h)) := by
  refine ConI.of (lv0 := [some (.ref (w.2.1 0)), none]) (by decide +kernel) (Nat.le_of_ble_eq_true rfl) rfl (fun x C hR hN => ?_)
  unfold fX4_wipe
  refine pw_aload_n C dX4_wipe_0 rfl rfl ?_
  refine pw_geti C (hL 0 _ rfl) rfl (k := 1) (by decide) rfl fl_X4_85 dX4_wipe_1 ?_
  refine pw_istore_n (lv2 := [some (.ref (w.2.1 0)), some (.int (h 0 1))]) C dX4_wipe_4 rfl hN (by decide) rfl rfl ?_
  refine pw_aload_n C dX4_wipe_5 rfl rfl ?_
  refine pw_iconst (v := 0) C dX4_wipe_6 (by decide) ?_
  refine pw_puti C (hL 0 _ rfl) rfl (k := 1) (by decide) rfl fl_X4_85 dX4_wipe_7 rfl (by decide) ?_
  refine pw_nameh (fun g1 => ?_)
  refine pw_iload_n C dX4_wipe_10 rfl rfl ?_
  exact pw_iret C hR dX4_wipe_11
set_option maxRecDepth 100000 in
set_option maxHeartbeats 4000000 in
theorem c_X4_drawn {l : Launch} {w : Wd} {A : Nat → Prop} (h : Hp) (a0 : Int32) (a1 : Int32)  : ConI l yX4_drawn cX4_drawn 6 .int 0 w A [.int a0, .int a1] h (some ((fX4_drawn h a0 a1), h)) := by
  refine ConI.of (lv0 := [some (.int a0), some (.int a1), none, none, none, none]) (by decide +kernel) (Nat.le_of_ble_eq_true rfl) rfl (fun x C hR hN => ?_)
  unfold fX4_drawn
  refine pw_ldc2 (C := C) cl_X4_296 dX4_drawn_0 ?_
  refine pw_iload_n C dX4_drawn_3 rfl rfl ?_
  refine pw_i2l C dX4_drawn_4 ?_
  refine pw_lmul C dX4_drawn_5 ?_
  refine pw_ldc2 (C := C) cl_X4_298 dX4_drawn_6 ?_
  refine pw_iload_n C dX4_drawn_9 rfl rfl ?_
  refine pw_i2l C dX4_drawn_10 ?_
  refine pw_lmul C dX4_drawn_11 ?_
  refine pw_ladd C dX4_drawn_12 ?_
  refine pw_lconst (v := 1) C dX4_drawn_13 (by decide) ?_
  refine pw_ladd C dX4_drawn_14 ?_
  refine pw_lstore_n (lv2 := [some (.int a0), some (.int a1), some (.long (((7919 * (a0).toInt64) + (6151 * (a1).toInt64)) + 1)), none, none, none]) C dX4_drawn_15 rfl hN (by decide) rfl rfl ?_
  refine pw_lload_n C dX4_drawn_16 rfl rfl ?_
  refine pw_lload_n C dX4_drawn_17 rfl rfl ?_
  refine pw_lmul C dX4_drawn_18 ?_
  refine pw_ldc2 (C := C) cl_X4_300 dX4_drawn_19 ?_
  refine pw_lrem C dX4_drawn_22 (by decide) ?_
  refine pw_ldc2 (C := C) cl_X4_302 dX4_drawn_23 ?_
  refine pw_ldiv C dX4_drawn_26 (by decide) ?_
  refine pw_lstore (lv2 := [some (.int a0), some (.int a1), some (.long (((7919 * (a0).toInt64) + (6151 * (a1).toInt64)) + 1)), none, some (.long ((((((7919 * (a0).toInt64) + (6151 * (a1).toInt64)) + 1) * (((7919 * (a0).toInt64) + (6151 * (a1).toInt64)) + 1)) - ((((7919 * (a0).toInt64) + (6151 * (a1).toInt64)) + 1) * (((7919 * (a0).toInt64) + (6151 * (a1).toInt64)) + 1)) / 65521 * 65521) / 8)), none]) C dX4_drawn_27 hN (by decide) rfl rfl ?_
  refine pw_lload C dX4_drawn_29 rfl ?_
  refine pw_ldc2 (C := C) cl_X4_304 dX4_drawn_31 ?_
  refine pw_lrem C dX4_drawn_34 (by decide) ?_
  refine pw_l2i C dX4_drawn_35 ?_
  refine pw_bipush (v := 10) C dX4_drawn_36 (by decide) ?_
  refine pw_isub C dX4_drawn_38 ?_
  exact pt_iret C hR dX4_drawn_39
set_option maxRecDepth 100000 in
set_option maxHeartbeats 4000000 in
theorem c_X4_isColour {l : Launch} {w : Wd} {A : Nat → Prop} (h : Hp) (a0 : Int32)  : ConI l yX4_isColour cX4_isColour 1 .boolean 0 w A [.int a0] h (some ((fX4_isColour h a0), h)) := by
  refine ConI.of (lv0 := [some (.int a0)]) (by decide +kernel) (Nat.le_of_ble_eq_true rfl) rfl (fun x C hR hN => ?_)
  unfold fX4_isColour
  refine pw_iload_n C dX4_isColour_0 rfl rfl ?_
  refine pt_if_lt (tgt := 14) C dX4_isColour_1 (by decide) (fun c1 => ?_) (fun c1 => ?_)
  · refine pw_iconst (v := 0) C dX4_isColour_14 (by decide) ?_
    exact pt_zret' C hR dX4_isColour_15 (by decide)
  · refine pw_iload_n C dX4_isColour_4 rfl rfl ?_
    refine pw_bipush (v := 9) C dX4_isColour_5 (by decide) ?_
    refine pt_icmp_gt (tgt := 14) C dX4_isColour_7 (by decide) (fun c2 => ?_) (fun c2 => ?_)
    · refine pw_iconst (v := 0) C dX4_isColour_14 (by decide) ?_
      exact pt_zret' C hR dX4_isColour_15 (by decide)
    · refine pw_iconst (v := 1) C dX4_isColour_10 (by decide) ?_
      refine pw_goto (tgt := 15) C dX4_isColour_11 (by decide) ?_
      exact pt_zret' C hR dX4_isColour_15 (by decide)
set_option maxRecDepth 100000 in
set_option maxHeartbeats 4000000 in
theorem c_X4_canCount {l : Launch} {w : Wd} {A : Nat → Prop} (h : Hp) (a0 : Int32) (a1 : Int32)  : ConI l yX4_canCount cX4_canCount 2 .boolean 0 w A [.int a0, .int a1] h (some ((fX4_canCount h a0 a1), h)) := by
  refine ConI.of (lv0 := [some (.int a0), some (.int a1)]) (by decide +kernel) (Nat.le_of_ble_eq_true rfl) rfl (fun x C hR hN => ?_)
  unfold fX4_canCount
  refine pw_iload_n C dX4_canCount_0 rfl rfl ?_
  refine pt_ite (fun e1_0 => ?_) (fun e1_0 => ?_)
  · refine pw_tsIn (tgt := 32) (off := 31) C dX4_canCount_1 (by rw [e1_0]; decide) (by rw [e1_0]; decide) (by rw [e1_0]; decide) (by decide) ?_
    refine pw_iload_n C dX4_canCount_32 rfl rfl ?_
    refine pt_if_ne (tgt := 40) C dX4_canCount_33 (by decide) (fun c1 => ?_) (fun c1 => ?_)
    · refine pw_iconst (v := 1) C dX4_canCount_36 (by decide) ?_
      refine pw_goto (tgt := 41) C dX4_canCount_37 (by decide) ?_
      exact pt_zret' C hR dX4_canCount_41 (by decide)
    · refine pw_iconst (v := 0) C dX4_canCount_40 (by decide) ?_
      exact pt_zret' C hR dX4_canCount_41 (by decide)
  · refine pt_ite (fun e1_1 => ?_) (fun e1_1 => ?_)
    · refine pw_tsIn (tgt := 42) (off := 41) C dX4_canCount_1 (by rw [e1_1]; decide) (by rw [e1_1]; decide) (by rw [e1_1]; decide) (by decide) ?_
      refine pw_iload_n C dX4_canCount_42 rfl rfl ?_
      refine pw_iconst (v := 1) C dX4_canCount_43 (by decide) ?_
      refine pt_icmp_lt (tgt := 57) C dX4_canCount_44 (by decide) (fun c2 => ?_) (fun c2 => ?_)
      · refine pw_iconst (v := 0) C dX4_canCount_57 (by decide) ?_
        exact pt_zret' C hR dX4_canCount_58 (by decide)
      · refine pw_iload_n C dX4_canCount_47 rfl rfl ?_
        refine pw_bipush (v := 9) C dX4_canCount_48 (by decide) ?_
        refine pt_icmp_gt (tgt := 57) C dX4_canCount_50 (by decide) (fun c3 => ?_) (fun c3 => ?_)
        · refine pw_iconst (v := 0) C dX4_canCount_57 (by decide) ?_
          exact pt_zret' C hR dX4_canCount_58 (by decide)
        · refine pw_iconst (v := 1) C dX4_canCount_53 (by decide) ?_
          refine pw_goto (tgt := 58) C dX4_canCount_54 (by decide) ?_
          exact pt_zret' C hR dX4_canCount_58 (by decide)
    · refine pt_ite (fun e1_2 => ?_) (fun e1_2 => ?_)
      · refine pw_tsIn (tgt := 59) (off := 58) C dX4_canCount_1 (by rw [e1_2]; decide) (by rw [e1_2]; decide) (by rw [e1_2]; decide) (by decide) ?_
        refine pw_iload_n C dX4_canCount_59 rfl rfl ?_
        refine pw_iconst (v := 2) C dX4_canCount_60 (by decide) ?_
        refine pt_icmp_lt (tgt := 74) C dX4_canCount_61 (by decide) (fun c4 => ?_) (fun c4 => ?_)
        · refine pw_iconst (v := 0) C dX4_canCount_74 (by decide) ?_
          exact pt_zret' C hR dX4_canCount_75 (by decide)
        · refine pw_iload_n C dX4_canCount_64 rfl rfl ?_
          refine pw_bipush (v := 9) C dX4_canCount_65 (by decide) ?_
          refine pt_icmp_gt (tgt := 74) C dX4_canCount_67 (by decide) (fun c5 => ?_) (fun c5 => ?_)
          · refine pw_iconst (v := 0) C dX4_canCount_74 (by decide) ?_
            exact pt_zret' C hR dX4_canCount_75 (by decide)
          · refine pw_iconst (v := 1) C dX4_canCount_70 (by decide) ?_
            refine pw_goto (tgt := 75) C dX4_canCount_71 (by decide) ?_
            exact pt_zret' C hR dX4_canCount_75 (by decide)
      · refine pt_ite (fun e1_3 => ?_) (fun e1_3 => ?_)
        · refine pw_tsIn (tgt := 76) (off := 75) C dX4_canCount_1 (by rw [e1_3]; decide) (by rw [e1_3]; decide) (by rw [e1_3]; decide) (by decide) ?_
          refine pw_iload_n C dX4_canCount_76 rfl rfl ?_
          refine pw_iconst (v := 1) C dX4_canCount_77 (by decide) ?_
          refine pt_icmp_ne (tgt := 85) C dX4_canCount_78 (by decide) (fun c6 => ?_) (fun c6 => ?_)
          · refine pw_iconst (v := 1) C dX4_canCount_81 (by decide) ?_
            refine pw_goto (tgt := 86) C dX4_canCount_82 (by decide) ?_
            exact pt_zret' C hR dX4_canCount_86 (by decide)
          · refine pw_iconst (v := 0) C dX4_canCount_85 (by decide) ?_
            exact pt_zret' C hR dX4_canCount_86 (by decide)
        · refine pw_tsOut (tgt := 87) C dX4_canCount_1 (by have := i_neN (z := 0) (by decide) e1_0; have := i_neN (z := 1) (by decide) e1_1; have := i_neN (z := 2) (by decide) e1_2; have := i_neN (z := 3) (by decide) e1_3; omega) (by decide) ?_
          refine pw_iconst (v := 0) C dX4_canCount_87 (by decide) ?_
          exact pt_zret' C hR dX4_canCount_88 (by decide)
set_option maxRecDepth 100000 in
set_option maxHeartbeats 4000000 in
theorem c_X4_kindOf {l : Launch} {w : Wd} {A : Nat → Prop} (h : Hp) (a0 : Int32)  : ConI l yX4_kindOf cX4_kindOf 1 .int 0 w A [.int a0] h (some ((fX4_kindOf h a0), h)) := by
  refine ConI.of (lv0 := [some (.int a0)]) (by decide +kernel) (Nat.le_of_ble_eq_true rfl) rfl (fun x C hR hN => ?_)
  unfold fX4_kindOf
  refine pw_iload_n C dX4_kindOf_0 rfl rfl ?_
  refine pw_bipush (v := 10) C dX4_kindOf_1 (by decide) ?_
  refine pw_idiv C dX4_kindOf_3 (by decide) ?_
  exact pt_iret C hR dX4_kindOf_4
set_option maxRecDepth 100000 in
set_option maxHeartbeats 4000000 in
theorem c_X4_countOf {l : Launch} {w : Wd} {A : Nat → Prop} (h : Hp) (a0 : Int32)  : ConI l yX4_countOf cX4_countOf 1 .int 0 w A [.int a0] h (some ((fX4_countOf h a0), h)) := by
  refine ConI.of (lv0 := [some (.int a0)]) (by decide +kernel) (Nat.le_of_ble_eq_true rfl) rfl (fun x C hR hN => ?_)
  unfold fX4_countOf
  refine pw_iload_n C dX4_countOf_0 rfl rfl ?_
  refine pw_bipush (v := 10) C dX4_countOf_1 (by decide) ?_
  refine pw_irem C dX4_countOf_3 (by decide) ?_
  exact pt_iret C hR dX4_countOf_4
set_option maxRecDepth 100000 in
set_option maxHeartbeats 4000000 in
theorem c_X4_codeToTell {l : Launch} {w : Wd} {A : Nat → Prop} (h : Hp) (a0 : Int32) (a1 : Int32)  : ConI l yX4_codeToTell cX4_codeToTell 2 .int 0 w A [.int a0, .int a1] h (some ((fX4_codeToTell h a0 a1), h)) := by
  refine ConI.of (lv0 := [some (.int a0), some (.int a1)]) (by decide +kernel) (Nat.le_of_ble_eq_true rfl) rfl (fun x C hR hN => ?_)
  unfold fX4_codeToTell
  refine pw_iload_n C dX4_codeToTell_0 rfl rfl ?_
  refine pt_if_ne (tgt := 6) C dX4_codeToTell_1 (by decide) (fun c1 => ?_) (fun c1 => ?_)
  · refine pw_iconst (v := 0) C dX4_codeToTell_4 (by decide) ?_
    exact pt_iret C hR dX4_codeToTell_5
  · refine pw_iload_n C dX4_codeToTell_6 rfl rfl ?_
    refine pt_if_le (tgt := 15) C dX4_codeToTell_7 (by decide) (fun c2 => ?_) (fun c2 => ?_)
    · refine pw_bipush (v := 10) C dX4_codeToTell_10 (by decide) ?_
      refine pw_iload_n C dX4_codeToTell_12 rfl rfl ?_
      refine pw_iadd C dX4_codeToTell_13 ?_
      exact pt_iret C hR dX4_codeToTell_14
    · refine pw_bipush (v := 10) C dX4_codeToTell_15 (by decide) ?_
      refine pw_iload_n C dX4_codeToTell_17 rfl rfl ?_
      refine pw_iconst (v := 1) C dX4_codeToTell_18 (by decide) ?_
      refine pt_icmp_ne (tgt := 26) C dX4_codeToTell_19 (by decide) (fun c3 => ?_) (fun c3 => ?_)
      · refine pw_iconst (v := 3) C dX4_codeToTell_22 (by decide) ?_
        refine pw_goto (tgt := 27) C dX4_codeToTell_23 (by decide) ?_
        refine pw_imul C dX4_codeToTell_27 ?_
        refine pw_iload_n C dX4_codeToTell_28 rfl rfl ?_
        refine pw_iadd C dX4_codeToTell_29 ?_
        exact pt_iret C hR dX4_codeToTell_30
      · refine pw_iconst (v := 2) C dX4_codeToTell_26 (by decide) ?_
        refine pw_imul C dX4_codeToTell_27 ?_
        refine pw_iload_n C dX4_codeToTell_28 rfl rfl ?_
        refine pw_iadd C dX4_codeToTell_29 ?_
        exact pt_iret C hR dX4_codeToTell_30
set_option maxRecDepth 100000 in
set_option maxHeartbeats 4000000 in
theorem cr_X4_tens {l : Launch} {w : Wd} {A : Nat → Prop} (h : Hp) (a0 : Int32)  : ConI l yX4_tens cX4_tens 1 .int 0 w A [.int a0] h (Option.map (fun v => (v, h)) (fX4_tens h a0)) := by
  refine ConI.of (lv0 := [some (.int a0)]) (by decide +kernel) (Nat.le_of_ble_eq_true rfl) rfl (fun x C hR hN => ?_)
  unfold fX4_tens
  refine pw_iload_n C dX4_tens_0 rfl rfl ?_
  refine pm_if_lt (tgt := 20) C dX4_tens_1 (by decide) (fun c1 => ?_) (fun c1 => ?_)
  · refine pw_iconst (v := 0) C dX4_tens_20 (by decide) ?_
    exact pm_iret C hR dX4_tens_21
  · refine pw_iload_n C dX4_tens_4 rfl rfl ?_
    refine pw_gets C fl_X4_311 dX4_tens_5 ?_
    refine pw_tlen C dX4_tens_8 ?_
    refine pm_icmp_ge (tgt := 20) C dX4_tens_9 (by decide) (fun c2 => ?_) (fun c2 => ?_)
    · refine pw_gets C fl_X4_311 dX4_tens_12 ?_
      refine pw_iload_n C dX4_tens_15 rfl rfl ?_
      refine pm_tld C dX4_tens_16 ?_
      refine pw_goto (tgt := 21) C dX4_tens_17 (by decide) ?_
      exact pm_iret C hR dX4_tens_21
    · refine pw_iconst (v := 0) C dX4_tens_20 (by decide) ?_
      exact pm_iret C hR dX4_tens_21
theorem tens_eq (h : Hp) (i : Int32) : fX4_tens h i = some (tensV i) := by
  unfold fX4_tens tensV
  by_cases h0 : i < 0
  · rw [if_pos h0, if_pos h0]
  · rw [if_neg h0, if_neg h0]
    by_cases h1 : i < 5
    · rw [if_pos h1, if_pos h1, if_pos (lt_ofNat (n := 5) h0 h1)]
    · rw [if_neg h1, if_neg h1]
theorem c_X4_tens {l : Launch} {w : Wd} {A : Nat → Prop} (h : Hp) (a0 : Int32) : ConI l yX4_tens cX4_tens 1 .int 0 w A [.int a0] h (some (tensV a0, h)) := by
  have := cr_X4_tens (l := l) (w := w) (A := A) h a0
  rw [tens_eq] at this
  exact this
set_option maxRecDepth 100000 in
set_option maxHeartbeats 4000000 in
theorem cr_X4_at {l : Launch} {w : Wd} {A : Nat → Prop} (h : Hp) (q0 n0 : Nat) (a1 : Int32) (hq0 : w.2.2.1[q0]? = some (1, n0, [])) : ConI l yX4_at cX4_at 2 .int 0 w A [.ref (w.2.1 q0), .int a1] h (Option.map (fun v => (v, h)) (fX4_at h q0 n0 a1)) := by
  refine ConI.of (lv0 := [some (.ref (w.2.1 q0)), some (.int a1)]) (by decide +kernel) (Nat.le_of_ble_eq_true rfl) rfl (fun x C hR hN => ?_)
  unfold fX4_at
  refine pw_iload_n C dX4_at_0 rfl rfl ?_
  refine pm_if_lt (tgt := 16) C dX4_at_1 (by decide) (fun c2 => ?_) (fun c2 => ?_)
  · refine pw_iconst (v := 0) C dX4_at_16 (by decide) ?_
    exact pm_iret C hR dX4_at_17
  · refine pw_iload_n C dX4_at_4 rfl rfl ?_
    refine pw_aload_n C dX4_at_5 rfl rfl ?_
    refine pw_ialen (v := (Int32.ofNat n0)) C hq0 rfl dX4_at_6 ?_
    refine pm_icmp_ge (tgt := 16) C dX4_at_7 (by decide) (fun c3 => ?_) (fun c3 => ?_)
    · refine pw_aload_n C dX4_at_10 rfl rfl ?_
      refine pw_iload_n C dX4_at_11 rfl rfl ?_
      refine pm_ialdb C hq0 dX4_at_12 (fun v1 => ?_)
      refine pw_goto (tgt := 17) C dX4_at_13 (by decide) ?_
      exact pm_iret C hR dX4_at_17
    · refine pw_iconst (v := 0) C dX4_at_16 (by decide) ?_
      exact pm_iret C hR dX4_at_17
theorem at_eq (h : Hp) (q n : Nat) (i : Int32) : fX4_at h q n i = some (atF h q n i) := by
  unfold fX4_at atF
  by_cases h0 : i < 0
  · rw [if_pos h0, if_pos h0]
  · rw [if_neg h0, if_neg h0]
    by_cases h1 : i < Int32.ofNat n
    · rw [if_pos h1, if_pos h1, rdH_bind, if_pos (lt_ofNat h0 h1)]
    · rw [if_neg h1, if_neg h1]
theorem c_X4_at {l : Launch} {w : Wd} {A : Nat → Prop} (h : Hp) (q0 n0 : Nat) (a1 : Int32) (hq0 : w.2.2.1[q0]? = some (1, n0, [])) : ConI l yX4_at cX4_at 2 .int 0 w A [.ref (w.2.1 q0), .int a1] h (some (atF h q0 n0 a1, h)) := by
  have := cr_X4_at (l := l) (A := A) h q0 n0 a1 hq0
  rw [at_eq] at this
  exact this
set_option maxRecDepth 100000 in
set_option maxHeartbeats 4000000 in
theorem cr_X4_put {l : Launch} {w : Wd} {A : Nat → Prop} (h : Hp) (q0 n0 : Nat) (a1 : Int32) (a2 : Int32) (hq0 : w.2.2.1[q0]? = some (1, n0, [])) : ConV l yX4_put cX4_put 3 0 w A [.ref (w.2.1 q0), .int a1, .int a2] h ((fX4_put h q0 n0 a1 a2)) := by
  refine ConV.of (lv0 := [some (.ref (w.2.1 q0)), some (.int a1), some (.int a2)]) (by decide +kernel) (Nat.le_of_ble_eq_true rfl) rfl (fun x C hR hN => ?_)
  unfold fX4_put
  refine pw_iload_n C dX4_put_0 rfl rfl ?_
  refine pw_if_lt (tgt := 14) C dX4_put_1 (by decide) (fun c2 => ?_) (fun c2 => ?_)
  · exact pw_vret C hR dX4_put_14
  · refine pw_iload_n C dX4_put_4 rfl rfl ?_
    refine pw_aload_n C dX4_put_5 rfl rfl ?_
    refine pw_ialen (v := (Int32.ofNat n0)) C hq0 rfl dX4_put_6 ?_
    refine pw_icmp_ge (tgt := 14) C dX4_put_7 (by decide) (fun c3 => ?_) (fun c3 => ?_)
    · refine pw_aload_n C dX4_put_10 rfl rfl ?_
      refine pw_iload_n C dX4_put_11 rfl rfl ?_
      refine pw_iload_n C dX4_put_12 rfl rfl ?_
      refine pw_iast C hq0 dX4_put_13 ?_
      refine pw_nameh (fun g1 => ?_)
      exact pw_vret C hR dX4_put_14
    · exact pw_vret C hR dX4_put_14
theorem put_eq (h : Hp) (q n : Nat) (i v : Int32) : fX4_put h q n i v = some (0, putF h q n i v) := by
  unfold fX4_put putF
  by_cases h0 : i < 0
  · rw [if_pos h0, if_pos h0]
  · rw [if_neg h0, if_neg h0]
    by_cases h1 : i < Int32.ofNat n
    · rw [if_pos h1, if_pos h1, if_pos (lt_ofNat h0 h1)]; rfl
    · rw [if_neg h1, if_neg h1]
theorem c_X4_put {l : Launch} {w : Wd} {A : Nat → Prop} (h : Hp) (q0 n0 : Nat) (a1 a2 : Int32) (hq0 : w.2.2.1[q0]? = some (1, n0, [])) : ConV l yX4_put cX4_put 3 0 w A [.ref (w.2.1 q0), .int a1, .int a2] h (some (0, putF h q0 n0 a1 a2)) := by
  have := cr_X4_put (l := l) (A := A) h q0 n0 a1 a2 hq0
  rw [put_eq] at this
  exact this
set_option maxRecDepth 100000 in
set_option maxHeartbeats 4000000 in
theorem c_X5_first {l : Launch} {w : Wd} {A : Nat → Prop} (h : Hp) (a1 : Int32) (a2 : Int32) (a3 : Int32) (a4 : Int32) (a5 : Int32) (a6 : Int32) (hM : LM w) : ConV l yX5_first cX5_first 7 0 w A [.ref (w.2.1 22), .int a1, .int a2, .int a3, .int a4, .int a5, .int a6] h ((fX5_first h a1 a2 a3 a4 a5 a6)) := by
  refine ConV.of (lv0 := [some (.ref (w.2.1 22)), some (.int a1), some (.int a2), some (.int a3), some (.int a4), some (.int a5), some (.int a6)]) (by decide +kernel) (Nat.le_of_ble_eq_true rfl) rfl (fun x C hR hN => ?_)
  unfold fX5_first
  refine pw_aload_n C dX5_first_0 rfl rfl ?_
  refine pw_getr (q2 := 27) C (hM 22 _ rfl (by decide)) rfl (k := 7) (by decide) rfl fl_X5_22 dX5_first_1 ?_
  refine pw_iconst (v := 2) C dX5_first_4 (by decide) ?_
  refine pw_iload_n C dX5_first_5 rfl rfl ?_
  refine pw_iadd C dX5_first_6 ?_
  refine pw_iload_n C dX5_first_7 rfl rfl ?_
  refine pw_iast C (hM 27 _ rfl (by decide)) dX5_first_8 ?_
  refine pw_nameh (fun g1 => ?_)
  refine pw_aload_n C dX5_first_9 rfl rfl ?_
  refine pw_getr (q2 := 27) C (hM 22 _ rfl (by decide)) rfl (k := 7) (by decide) rfl fl_X5_22 dX5_first_10 ?_
  refine pw_bipush (v := 18) C dX5_first_13 (by decide) ?_
  refine pw_iload_n C dX5_first_15 rfl rfl ?_
  refine pw_iadd C dX5_first_16 ?_
  refine pw_iload_n C dX5_first_17 rfl rfl ?_
  refine pw_iast C (hM 27 _ rfl (by decide)) dX5_first_18 ?_
  refine pw_nameh (fun g2 => ?_)
  refine pw_aload_n C dX5_first_19 rfl rfl ?_
  refine pw_getr (q2 := 27) C (hM 22 _ rfl (by decide)) rfl (k := 7) (by decide) rfl fl_X5_22 dX5_first_20 ?_
  refine pw_bipush (v := 98) C dX5_first_23 (by decide) ?_
  refine pw_iload_n C dX5_first_25 rfl rfl ?_
  refine pw_iadd C dX5_first_26 ?_
  refine pw_iload C dX5_first_27 rfl ?_
  refine pw_iast C (hM 27 _ rfl (by decide)) dX5_first_29 ?_
  refine pw_nameh (fun g3 => ?_)
  refine pw_aload_n C dX5_first_30 rfl rfl ?_
  refine pw_getr (q2 := 27) C (hM 22 _ rfl (by decide)) rfl (k := 7) (by decide) rfl fl_X5_22 dX5_first_31 ?_
  refine pw_bipush (v := 114) C dX5_first_34 (by decide) ?_
  refine pw_iload_n C dX5_first_36 rfl rfl ?_
  refine pw_iadd C dX5_first_37 ?_
  refine pw_iload C dX5_first_38 rfl ?_
  refine pw_iast C (hM 27 _ rfl (by decide)) dX5_first_40 ?_
  refine pw_nameh (fun g4 => ?_)
  refine pw_aload_n C dX5_first_41 rfl rfl ?_
  refine pw_getr (q2 := 27) C (hM 22 _ rfl (by decide)) rfl (k := 7) (by decide) rfl fl_X5_22 dX5_first_42 ?_
  refine pw_sipush (v := 130) C dX5_first_45 (by decide) ?_
  refine pw_iload_n C dX5_first_48 rfl rfl ?_
  refine pw_iadd C dX5_first_49 ?_
  refine pw_iload C dX5_first_50 rfl ?_
  refine pw_iast C (hM 27 _ rfl (by decide)) dX5_first_52 ?_
  refine pw_nameh (fun g5 => ?_)
  refine pw_aload_n C dX5_first_53 rfl rfl ?_
  refine pw_getr (q2 := 27) C (hM 22 _ rfl (by decide)) rfl (k := 7) (by decide) rfl fl_X5_22 dX5_first_54 ?_
  refine pw_sipush (v := 146) C dX5_first_57 (by decide) ?_
  refine pw_iload_n C dX5_first_60 rfl rfl ?_
  refine pw_iadd C dX5_first_61 ?_
  refine pw_iload_n C dX5_first_62 rfl rfl ?_
  refine pw_iast C (hM 27 _ rfl (by decide)) dX5_first_63 ?_
  refine pw_nameh (fun g6 => ?_)
  exact pw_vret C hR dX5_first_64
set_option maxRecDepth 100000 in
set_option maxHeartbeats 4000000 in
theorem c_X5_knots {l : Launch} {w : Wd} {A : Nat → Prop} (h : Hp) (a1 : Int32) (a2 : Int32) (a3 : Int32) (a4 : Int32) (a5 : Int32) (hM : LM w) : ConV l yX5_knots cX5_knots 6 0 w A [.ref (w.2.1 22), .int a1, .int a2, .int a3, .int a4, .int a5] h ((fX5_knots h a1 a2 a3 a4 a5)) := by
  refine ConV.of (lv0 := [some (.ref (w.2.1 22)), some (.int a1), some (.int a2), some (.int a3), some (.int a4), some (.int a5)]) (by decide +kernel) (Nat.le_of_ble_eq_true rfl) rfl (fun x C hR hN => ?_)
  unfold fX5_knots
  refine pw_aload_n C dX5_knots_0 rfl rfl ?_
  refine pw_getr (q2 := 27) C (hM 22 _ rfl (by decide)) rfl (k := 7) (by decide) rfl fl_X5_22 dX5_knots_1 ?_
  refine pw_bipush (v := 34) C dX5_knots_4 (by decide) ?_
  refine pw_iconst (v := 4) C dX5_knots_6 (by decide) ?_
  refine pw_iload_n C dX5_knots_7 rfl rfl ?_
  refine pw_imul C dX5_knots_8 ?_
  refine pw_iadd C dX5_knots_9 ?_
  refine pw_iload_n C dX5_knots_10 rfl rfl ?_
  refine pw_iast C (hM 27 _ rfl (by decide)) dX5_knots_11 ?_
  refine pw_nameh (fun g1 => ?_)
  refine pw_aload_n C dX5_knots_12 rfl rfl ?_
  refine pw_getr (q2 := 27) C (hM 22 _ rfl (by decide)) rfl (k := 7) (by decide) rfl fl_X5_22 dX5_knots_13 ?_
  refine pw_bipush (v := 34) C dX5_knots_16 (by decide) ?_
  refine pw_iconst (v := 4) C dX5_knots_18 (by decide) ?_
  refine pw_iload_n C dX5_knots_19 rfl rfl ?_
  refine pw_imul C dX5_knots_20 ?_
  refine pw_iadd C dX5_knots_21 ?_
  refine pw_iconst (v := 1) C dX5_knots_22 (by decide) ?_
  refine pw_iadd C dX5_knots_23 ?_
  refine pw_iload_n C dX5_knots_24 rfl rfl ?_
  refine pw_iast C (hM 27 _ rfl (by decide)) dX5_knots_25 ?_
  refine pw_nameh (fun g2 => ?_)
  refine pw_aload_n C dX5_knots_26 rfl rfl ?_
  refine pw_getr (q2 := 27) C (hM 22 _ rfl (by decide)) rfl (k := 7) (by decide) rfl fl_X5_22 dX5_knots_27 ?_
  refine pw_bipush (v := 34) C dX5_knots_30 (by decide) ?_
  refine pw_iconst (v := 4) C dX5_knots_32 (by decide) ?_
  refine pw_iload_n C dX5_knots_33 rfl rfl ?_
  refine pw_imul C dX5_knots_34 ?_
  refine pw_iadd C dX5_knots_35 ?_
  refine pw_iconst (v := 2) C dX5_knots_36 (by decide) ?_
  refine pw_iadd C dX5_knots_37 ?_
  refine pw_iload C dX5_knots_38 rfl ?_
  refine pw_iast C (hM 27 _ rfl (by decide)) dX5_knots_40 ?_
  refine pw_nameh (fun g3 => ?_)
  refine pw_aload_n C dX5_knots_41 rfl rfl ?_
  refine pw_getr (q2 := 27) C (hM 22 _ rfl (by decide)) rfl (k := 7) (by decide) rfl fl_X5_22 dX5_knots_42 ?_
  refine pw_bipush (v := 34) C dX5_knots_45 (by decide) ?_
  refine pw_iconst (v := 4) C dX5_knots_47 (by decide) ?_
  refine pw_iload_n C dX5_knots_48 rfl rfl ?_
  refine pw_imul C dX5_knots_49 ?_
  refine pw_iadd C dX5_knots_50 ?_
  refine pw_iconst (v := 3) C dX5_knots_51 (by decide) ?_
  refine pw_iadd C dX5_knots_52 ?_
  refine pw_iload C dX5_knots_53 rfl ?_
  refine pw_iast C (hM 27 _ rfl (by decide)) dX5_knots_55 ?_
  refine pw_nameh (fun g4 => ?_)
  exact pw_vret C hR dX5_knots_56
set_option maxRecDepth 100000 in
set_option maxHeartbeats 4000000 in
theorem c_X5_in {l : Launch} {w : Wd} {A : Nat → Prop} (h : Hp) (a0 : Int64) (a2 : Int64) (a4 : Int64)  : ConI l yX5_in cX5_in 6 .boolean 0 w A [.long a0, .long a2, .long a4] h (some ((fX5_in h a0 a2 a4), h)) := by
  refine ConI.of (lv0 := [some (.long a0), none, some (.long a2), none, some (.long a4), none]) (by decide +kernel) (Nat.le_of_ble_eq_true rfl) rfl (fun x C hR hN => ?_)
  unfold fX5_in
  refine pw_lload_n C dX5_in_0 rfl rfl ?_
  refine pw_lload_n C dX5_in_1 rfl rfl ?_
  refine pw_lcmp C dX5_in_2 ?_
  refine pt_if_lt (tgt := 17) C dX5_in_3 (by decide) (fun c1 => ?_) (fun c1 => ?_)
  · refine pw_iconst (v := 0) C dX5_in_17 (by decide) ?_
    exact pt_zret' C hR dX5_in_18 (by decide)
  · refine pw_lload_n C dX5_in_6 rfl rfl ?_
    refine pw_lload C dX5_in_7 rfl ?_
    refine pw_lcmp C dX5_in_9 ?_
    refine pt_if_gt (tgt := 17) C dX5_in_10 (by decide) (fun c2 => ?_) (fun c2 => ?_)
    · refine pw_iconst (v := 0) C dX5_in_17 (by decide) ?_
      exact pt_zret' C hR dX5_in_18 (by decide)
    · refine pw_iconst (v := 1) C dX5_in_13 (by decide) ?_
      refine pw_goto (tgt := 18) C dX5_in_14 (by decide) ?_
      exact pt_zret' C hR dX5_in_18 (by decide)
set_option maxRecDepth 100000 in
set_option maxHeartbeats 4000000 in
theorem c_X5_wipe {l : Launch} {w : Wd} {A : Nat → Prop} (h : Hp) (hM : LM w) : ConI l yX5_wipe cX5_wipe 2 .int 0 w A [.ref (w.2.1 22)] h ((fX5_wipe h)) := by
  refine ConI.of (lv0 := [some (.ref (w.2.1 22)), none]) (by decide +kernel) (Nat.le_of_ble_eq_true rfl) rfl (fun x C hR hN => ?_)
  unfold fX5_wipe
  refine pw_aload_n C dX5_wipe_0 rfl rfl ?_
  refine pw_geti C (hM 22 _ rfl (by decide)) rfl (k := 6) (by decide) rfl fl_X5_62 dX5_wipe_1 ?_
  refine pw_istore_n (lv2 := [some (.ref (w.2.1 22)), some (.int (h 22 6))]) C dX5_wipe_4 rfl hN (by decide) rfl rfl ?_
  refine pw_aload_n C dX5_wipe_5 rfl rfl ?_
  refine pw_iconst (v := 0) C dX5_wipe_6 (by decide) ?_
  refine pw_puti C (hM 22 _ rfl (by decide)) rfl (k := 6) (by decide) rfl fl_X5_62 dX5_wipe_7 rfl (by decide) ?_
  refine pw_nameh (fun g1 => ?_)
  refine pw_iload_n C dX5_wipe_10 rfl rfl ?_
  exact pw_iret C hR dX5_wipe_11
set_option maxRecDepth 100000 in
set_option maxHeartbeats 4000000 in
theorem c_X5_newest {l : Launch} {w : Wd} {A : Nat → Prop} (h : Hp) (hM : LM w) : ConI l yX5_newest cX5_newest 1 .int 0 w A [.ref (w.2.1 22)] h (some ((fX5_newest h), h)) := by
  refine ConI.of (lv0 := [some (.ref (w.2.1 22))]) (by decide +kernel) (Nat.le_of_ble_eq_true rfl) rfl (fun x C hR hN => ?_)
  unfold fX5_newest
  refine pw_aload_n C dX5_newest_0 rfl rfl ?_
  refine pw_getr (q2 := 27) C (hM 22 _ rfl (by decide)) rfl (k := 7) (by decide) rfl fl_X5_22 dX5_newest_1 ?_
  refine pw_iconst (v := 0) C dX5_newest_4 (by decide) ?_
  refine pw_ialdc (k := 0) C (hM 27 _ rfl (by decide)) (by decide +kernel) dX5_newest_5 ?_
  refine pw_iconst (v := 1) C dX5_newest_6 (by decide) ?_
  refine pw_isub C dX5_newest_7 ?_
  exact pt_iret C hR dX5_newest_8
set_option maxRecDepth 100000 in
set_option maxHeartbeats 4000000 in
theorem c_X5_hasRoom {l : Launch} {w : Wd} {A : Nat → Prop} (h : Hp) (hM : LM w) : ConI l yX5_hasRoom cX5_hasRoom 1 .boolean 0 w A [.ref (w.2.1 22)] h (some ((fX5_hasRoom h), h)) := by
  refine ConI.of (lv0 := [some (.ref (w.2.1 22))]) (by decide +kernel) (Nat.le_of_ble_eq_true rfl) rfl (fun x C hR hN => ?_)
  unfold fX5_hasRoom
  refine pw_aload_n C dX5_hasRoom_0 rfl rfl ?_
  refine pw_getr (q2 := 27) C (hM 22 _ rfl (by decide)) rfl (k := 7) (by decide) rfl fl_X5_22 dX5_hasRoom_1 ?_
  refine pw_iconst (v := 0) C dX5_hasRoom_4 (by decide) ?_
  refine pw_ialdc (k := 0) C (hM 27 _ rfl (by decide)) (by decide +kernel) dX5_hasRoom_5 ?_
  refine pw_bipush (v := 16) C dX5_hasRoom_6 (by decide) ?_
  refine pt_icmp_ge (tgt := 15) C dX5_hasRoom_8 (by decide) (fun c1 => ?_) (fun c1 => ?_)
  · refine pw_iconst (v := 1) C dX5_hasRoom_11 (by decide) ?_
    refine pw_goto (tgt := 16) C dX5_hasRoom_12 (by decide) ?_
    exact pt_zret' C hR dX5_hasRoom_16 (by decide)
  · refine pw_iconst (v := 0) C dX5_hasRoom_15 (by decide) ?_
    exact pt_zret' C hR dX5_hasRoom_16 (by decide)
set_option maxRecDepth 100000 in
set_option maxHeartbeats 4000000 in
theorem c_X5_goesTo {l : Launch} {w : Wd} {A : Nat → Prop} (h : Hp) (a1 : Int32) (hM : LM w) : ConI l yX5_goesTo cX5_goesTo 2 .boolean 0 w A [.ref (w.2.1 22), .int a1] h ((fX5_goesTo h a1)) := by
  refine ConI.of (lv0 := [some (.ref (w.2.1 22)), some (.int a1)]) (by decide +kernel) (Nat.le_of_ble_eq_true rfl) rfl (fun x C hR hN => ?_)
  unfold fX5_goesTo
  refine pw_aload_n C dX5_goesTo_0 rfl rfl ?_
  refine pw_iload_n C dX5_goesTo_1 rfl rfl ?_
  refine pw_puti C (hM 22 _ rfl (by decide)) rfl (k := 8) (by decide) rfl fl_X5_66 dX5_goesTo_2 rfl (by decide) ?_
  refine pw_nameh (fun g1 => ?_)
  refine pw_iconst (v := 1) C dX5_goesTo_5 (by decide) ?_
  exact pw_zret' C hR dX5_goesTo_6 (by decide)
set_option maxRecDepth 100000 in
set_option maxHeartbeats 4000000 in
theorem kX5_copies_L3 {w : Wd} {x : Cz} (C : Ok w x cX5_copies RX5 0) (hR : OkV w x) (hN : xN x = 5) (N : Nat) (q0 n0 : Nat) (a1 : Int32) (q2 n2 : Nat) (a3 : Int32) (hq0 : w.2.2.1[q0]? = some (1, n0, [])) (hq2 : w.2.2.1[q2]? = some (1, n2, []))  : ∀ (n : Nat) (u4 : Int32) (h : Hp), PW w x 3 [some (.ref (w.2.1 q0)), some (.int a1), some (.ref (w.2.1 q2)), some (.int a3), some (.int u4)] [] h ((fX5_copies_L3 N q0 n0 a1 q2 n2 a3 n u4 h)) := by
  intro n
  induction n with
  | zero => intro u4 h; rw [fX5_copies_L3]; exact pw_none
  | succ n ih =>
    intro u4 h
    rw [fX5_copies_L3]
    refine pw_iload C dX5_copies_3 rfl ?_
    refine pw_sipush (v := 162) C dX5_copies_5 (by decide) ?_
    refine pw_icmp_ge (tgt := 29) C dX5_copies_8 (by decide) (fun c3 => ?_) (fun c3 => ?_)
    · refine pw_aload_n C dX5_copies_11 rfl rfl ?_
      refine pw_iload_n C dX5_copies_12 rfl rfl ?_
      refine pw_iload C dX5_copies_13 rfl ?_
      refine pw_iadd C dX5_copies_15 ?_
      refine pw_aload_n C dX5_copies_16 rfl rfl ?_
      refine pw_iload_n C dX5_copies_17 rfl rfl ?_
      refine pw_iload C dX5_copies_18 rfl ?_
      refine pw_iadd C dX5_copies_20 ?_
      refine pw_ialdb C hq0 dX5_copies_21 (fun v1 => ?_)
      refine pw_iast C hq2 dX5_copies_22 ?_
      refine pw_nameh (fun g2 => ?_)
      refine pw_iinc (lv2 := [some (.ref (w.2.1 q0)), some (.int a1), some (.ref (w.2.1 q2)), some (.int a3), some (.int (u4 + 1))]) C dX5_copies_23 rfl rfl hN (by decide) rfl rfl ?_
      refine pw_goto (tgt := 3) C dX5_copies_26 (by decide) ?_
      exact ih (u4 + 1) g2
    · exact pw_vret C hR dX5_copies_29
set_option maxRecDepth 100000 in
set_option maxHeartbeats 4000000 in
theorem c_X5_copies {l : Launch} {w : Wd} {A : Nat → Prop} (N : Nat) (h : Hp) (q0 n0 : Nat) (a1 : Int32) (q2 n2 : Nat) (a3 : Int32) (hq0 : w.2.2.1[q0]? = some (1, n0, [])) (hq2 : w.2.2.1[q2]? = some (1, n2, [])) : ConV l yX5_copies cX5_copies 5 0 w A [.ref (w.2.1 q0), .int a1, .ref (w.2.1 q2), .int a3] h ((fX5_copies N h q0 n0 a1 q2 n2 a3)) := by
  refine ConV.of (lv0 := [some (.ref (w.2.1 q0)), some (.int a1), some (.ref (w.2.1 q2)), some (.int a3), none]) (by decide +kernel) (Nat.le_of_ble_eq_true rfl) rfl (fun x C hR hN => ?_)
  unfold fX5_copies
  refine pw_iconst (v := 0) C dX5_copies_0 (by decide) ?_
  refine pw_istore (lv2 := [some (.ref (w.2.1 q0)), some (.int a1), some (.ref (w.2.1 q2)), some (.int a3), some (.int 0)]) C dX5_copies_1 hN (by decide) rfl rfl ?_
  exact kX5_copies_L3 C hR hN N q0 n0 a1 q2 n2 a3 hq0 hq2 N 0 h
set_option maxRecDepth 100000 in
set_option maxHeartbeats 4000000 in
theorem c_X5_isPendant {l : Launch} {w : Wd} {A : Nat → Prop} (h : Hp) (a1 : Int32) (hM : LM w) : ConI l yX5_isPendant cX5_isPendant 2 .boolean 0 w A [.ref (w.2.1 22), .int a1] h (Option.map (fun v => (v, h)) (fX5_isPendant h a1)) := by
  refine ConI.of (lv0 := [some (.ref (w.2.1 22)), some (.int a1)]) (by decide +kernel) (Nat.le_of_ble_eq_true rfl) rfl (fun x C hR hN => ?_)
  unfold fX5_isPendant
  refine pw_aload_n C dX5_isPendant_0 rfl rfl ?_
  refine pw_getr (q2 := 23) C (hM 22 _ rfl (by decide)) rfl (k := 0) (by decide) rfl fl_X5_7 dX5_isPendant_1 ?_
  refine pw_bipush (v := 98) C dX5_isPendant_4 (by decide) ?_
  refine pw_iload_n C dX5_isPendant_6 rfl rfl ?_
  refine pw_iadd C dX5_isPendant_7 ?_
  refine pm_ialdb C (hM 23 _ rfl (by decide)) dX5_isPendant_8 (fun v1 => ?_)
  refine pm_if_ge (tgt := 16) C dX5_isPendant_9 (by decide) (fun c2 => ?_) (fun c2 => ?_)
  · refine pw_iconst (v := 1) C dX5_isPendant_12 (by decide) ?_
    refine pw_goto (tgt := 17) C dX5_isPendant_13 (by decide) ?_
    exact pm_zret' C hR dX5_isPendant_17 (by decide)
  · refine pw_iconst (v := 0) C dX5_isPendant_16 (by decide) ?_
    exact pm_zret' C hR dX5_isPendant_17 (by decide)
set_option maxRecDepth 100000 in
set_option maxHeartbeats 4000000 in
theorem c_X5_knot0 {l : Launch} {w : Wd} {A : Nat → Prop} (h : Hp) (a1 : Int32) (a2 : Int32) (hM : LM w) : ConI l yX5_knot0 cX5_knot0 3 .int 0 w A [.ref (w.2.1 22), .int a1, .int a2] h (Option.map (fun v => (v, h)) (fX5_knot0 h a1 a2)) := by
  refine ConI.of (lv0 := [some (.ref (w.2.1 22)), some (.int a1), some (.int a2)]) (by decide +kernel) (Nat.le_of_ble_eq_true rfl) rfl (fun x C hR hN => ?_)
  unfold fX5_knot0
  refine pw_aload_n C dX5_knot0_0 rfl rfl ?_
  refine pw_getr (q2 := 23) C (hM 22 _ rfl (by decide)) rfl (k := 0) (by decide) rfl fl_X5_7 dX5_knot0_1 ?_
  refine pw_bipush (v := 34) C dX5_knot0_4 (by decide) ?_
  refine pw_iconst (v := 4) C dX5_knot0_6 (by decide) ?_
  refine pw_iload_n C dX5_knot0_7 rfl rfl ?_
  refine pw_imul C dX5_knot0_8 ?_
  refine pw_iadd C dX5_knot0_9 ?_
  refine pw_iload_n C dX5_knot0_10 rfl rfl ?_
  refine pw_iadd C dX5_knot0_11 ?_
  refine pm_ialdb C (hM 23 _ rfl (by decide)) dX5_knot0_12 (fun v1 => ?_)
  exact pm_iret C hR dX5_knot0_13
set_option maxRecDepth 100000 in
set_option maxHeartbeats 4000000 in
theorem c_X5_isUnder {l : Launch} {w : Wd} {A : Nat → Prop} (h : Hp) (a1 : Int32) (a2 : Int32) (hM : LM w) : ConI l yX5_isUnder cX5_isUnder 4 .boolean 0 w A [.ref (w.2.1 22), .int a1, .int a2] h (Option.map (fun v => (v, h)) (fX5_isUnder h a1 a2)) := by
  refine ConI.of (lv0 := [some (.ref (w.2.1 22)), some (.int a1), some (.int a2), none]) (by decide +kernel) (Nat.le_of_ble_eq_true rfl) rfl (fun x C hR hN => ?_)
  unfold fX5_isUnder
  refine pw_aload_n C dX5_isUnder_0 rfl rfl ?_
  refine pw_getr (q2 := 23) C (hM 22 _ rfl (by decide)) rfl (k := 0) (by decide) rfl fl_X5_7 dX5_isUnder_1 ?_
  refine pw_bipush (v := 98) C dX5_isUnder_4 (by decide) ?_
  refine pw_iload_n C dX5_isUnder_6 rfl rfl ?_
  refine pw_iadd C dX5_isUnder_7 ?_
  refine pm_ialdb C (hM 23 _ rfl (by decide)) dX5_isUnder_8 (fun v1 => ?_)
  refine pw_istore_n (lv2 := [some (.ref (w.2.1 22)), some (.int a1), some (.int a2), some (.int v1)]) C dX5_isUnder_9 rfl hN (by decide) rfl rfl ?_
  refine pw_iload_n C dX5_isUnder_10 rfl rfl ?_
  refine pw_iload_n C dX5_isUnder_11 rfl rfl ?_
  refine pm_icmp_eq (tgt := 32) C dX5_isUnder_12 (by decide) (fun c3 => ?_) (fun c3 => ?_)
  · refine pw_iconst (v := 1) C dX5_isUnder_32 (by decide) ?_
    refine pw_goto (tgt := 37) C dX5_isUnder_33 (by decide) ?_
    exact pm_zret' C hR dX5_isUnder_37 (by decide)
  · refine pw_iload_n C dX5_isUnder_15 rfl rfl ?_
    refine pm_if_lt (tgt := 36) C dX5_isUnder_16 (by decide) (fun c4 => ?_) (fun c4 => ?_)
    · refine pw_iconst (v := 0) C dX5_isUnder_36 (by decide) ?_
      exact pm_zret' C hR dX5_isUnder_37 (by decide)
    · refine pw_aload_n C dX5_isUnder_19 rfl rfl ?_
      refine pw_getr (q2 := 23) C (hM 22 _ rfl (by decide)) rfl (k := 0) (by decide) rfl fl_X5_7 dX5_isUnder_20 ?_
      refine pw_bipush (v := 98) C dX5_isUnder_23 (by decide) ?_
      refine pw_iload_n C dX5_isUnder_25 rfl rfl ?_
      refine pw_iadd C dX5_isUnder_26 ?_
      refine pm_ialdb C (hM 23 _ rfl (by decide)) dX5_isUnder_27 (fun v2 => ?_)
      refine pw_iload_n C dX5_isUnder_28 rfl rfl ?_
      refine pm_icmp_ne (tgt := 36) C dX5_isUnder_29 (by decide) (fun c5 => ?_) (fun c5 => ?_)
      · refine pw_iconst (v := 1) C dX5_isUnder_32 (by decide) ?_
        refine pw_goto (tgt := 37) C dX5_isUnder_33 (by decide) ?_
        exact pm_zret' C hR dX5_isUnder_37 (by decide)
      · refine pw_iconst (v := 0) C dX5_isUnder_36 (by decide) ?_
        exact pm_zret' C hR dX5_isUnder_37 (by decide)
set_option maxRecDepth 100000 in
set_option maxHeartbeats 4000000 in
theorem c_X5_knotsOf {l : Launch} {w : Wd} {A : Nat → Prop} (h : Hp) (a0 : Int32)  : ConI l yX5_knotsOf cX5_knotsOf 1 .int 0 w A [.int a0] h (some ((fX5_knotsOf h a0), h)) := by
  refine ConI.of (lv0 := [some (.int a0)]) (by decide +kernel) (Nat.le_of_ble_eq_true rfl) rfl (fun x C hR hN => ?_)
  unfold fX5_knotsOf
  refine pw_iload_n C dX5_knotsOf_0 rfl rfl ?_
  refine pw_bipush (v := 31) C dX5_knotsOf_1 (by decide) ?_
  refine pt_icmp_ne (tgt := 10) C dX5_knotsOf_3 (by decide) (fun c1 => ?_) (fun c1 => ?_)
  · refine pw_iconst (v := 2) C dX5_knotsOf_6 (by decide) ?_
    refine pw_goto (tgt := 14) C dX5_knotsOf_7 (by decide) ?_
    exact pt_iret C hR dX5_knotsOf_14
  · refine pw_iload_n C dX5_knotsOf_10 rfl rfl ?_
    refine pw_bipush (v := 10) C dX5_knotsOf_11 (by decide) ?_
    refine pw_irem C dX5_knotsOf_13 (by decide) ?_
    exact pt_iret C hR dX5_knotsOf_14
set_option maxRecDepth 100000 in
set_option maxHeartbeats 4000000 in
theorem kX5_hanging_L4 {w : Wd} {x : Cz} (C : Ok w x cX5_hanging RX5 0) (hR : OkI w x .int) (hN : xN x = 4) (N : Nat) (h : Hp) (a1 : Int32) (hM : LM w)  : ∀ (n : Nat) (u2 : Int32) (u3 : Int32), PW w x 4 [some (.ref (w.2.1 22)), some (.int a1), some (.int u2), some (.int u3)] [] h (Option.map (fun v => (v, h)) (fX5_hanging_L4 N h a1 n u2 u3)) := by
  intro n
  induction n with
  | zero => intro u2 u3; rw [fX5_hanging_L4]; exact pw_none
  | succ n ih =>
    intro u2 u3
    rw [fX5_hanging_L4]
    refine pw_iload_n C dX5_hanging_4 rfl rfl ?_
    refine pw_aload_n C dX5_hanging_5 rfl rfl ?_
    refine pw_getr (q2 := 23) C (hM 22 _ rfl (by decide)) rfl (k := 0) (by decide) rfl fl_X5_7 dX5_hanging_6 ?_
    refine pw_iconst (v := 0) C dX5_hanging_9 (by decide) ?_
    refine pw_ialdc (k := 0) C (hM 23 _ rfl (by decide)) (by decide +kernel) dX5_hanging_10 ?_
    refine pm_icmp_ge (tgt := 41) C dX5_hanging_11 (by decide) (fun c2 => ?_) (fun c2 => ?_)
    · refine pw_iload_n C dX5_hanging_14 rfl rfl ?_
      refine pw_aload_n C dX5_hanging_15 rfl rfl ?_
      refine pw_getr (q2 := 23) C (hM 22 _ rfl (by decide)) rfl (k := 0) (by decide) rfl fl_X5_7 dX5_hanging_16 ?_
      refine pw_bipush (v := 98) C dX5_hanging_19 (by decide) ?_
      refine pw_iload_n C dX5_hanging_21 rfl rfl ?_
      refine pw_iadd C dX5_hanging_22 ?_
      refine pm_ialdb C (hM 23 _ rfl (by decide)) dX5_hanging_23 (fun v1 => ?_)
      refine pw_iload_n C dX5_hanging_24 rfl rfl ?_
      refine PW.eq (apply_ite (fun z_ => Option.map (fun v => (v, h)) (fX5_hanging_L4 N h a1 n z_ (u3 + 1))) _ _ _) ?_
      refine pw_icmp_ne (tgt := 32) C dX5_hanging_25 (by decide) (fun c3 => ?_) (fun c3 => ?_)
      · refine pw_iconst (v := 1) C dX5_hanging_28 (by decide) ?_
        refine pw_goto (tgt := 33) C dX5_hanging_29 (by decide) ?_
        refine pw_iadd C dX5_hanging_33 ?_
        refine pw_istore_n (lv2 := [some (.ref (w.2.1 22)), some (.int a1), some (.int (u2 + 1)), some (.int u3)]) C dX5_hanging_34 rfl hN (by decide) rfl rfl ?_
        refine pw_iinc (lv2 := [some (.ref (w.2.1 22)), some (.int a1), some (.int (u2 + 1)), some (.int (u3 + 1))]) C dX5_hanging_35 rfl rfl hN (by decide) rfl rfl ?_
        refine pw_goto (tgt := 4) C dX5_hanging_38 (by decide) ?_
        exact ih (u2 + 1) (u3 + 1)
      · refine pw_iconst (v := 0) C dX5_hanging_32 (by decide) ?_
        refine pw_iadd C dX5_hanging_33 ?_
        refine pw_istore_n (lv2 := [some (.ref (w.2.1 22)), some (.int a1), some (.int (u2 + 0)), some (.int u3)]) C dX5_hanging_34 rfl hN (by decide) rfl rfl ?_
        refine pw_iinc (lv2 := [some (.ref (w.2.1 22)), some (.int a1), some (.int (u2 + 0)), some (.int (u3 + 1))]) C dX5_hanging_35 rfl rfl hN (by decide) rfl rfl ?_
        refine pw_goto (tgt := 4) C dX5_hanging_38 (by decide) ?_
        exact ih (u2 + 0) (u3 + 1)
    · refine pw_iload_n C dX5_hanging_41 rfl rfl ?_
      exact pm_iret C hR dX5_hanging_42
set_option maxRecDepth 100000 in
set_option maxHeartbeats 4000000 in
theorem c_X5_hanging {l : Launch} {w : Wd} {A : Nat → Prop} (N : Nat) (h : Hp) (a1 : Int32) (hM : LM w) : ConI l yX5_hanging cX5_hanging 4 .int 0 w A [.ref (w.2.1 22), .int a1] h (Option.map (fun v => (v, h)) (fX5_hanging N h a1)) := by
  refine ConI.of (lv0 := [some (.ref (w.2.1 22)), some (.int a1), none, none]) (by decide +kernel) (Nat.le_of_ble_eq_true rfl) rfl (fun x C hR hN => ?_)
  unfold fX5_hanging
  refine pw_iconst (v := 0) C dX5_hanging_0 (by decide) ?_
  refine pw_istore_n (lv2 := [some (.ref (w.2.1 22)), some (.int a1), some (.int 0), none]) C dX5_hanging_1 rfl hN (by decide) rfl rfl ?_
  refine pw_iconst (v := 0) C dX5_hanging_2 (by decide) ?_
  refine pw_istore_n (lv2 := [some (.ref (w.2.1 22)), some (.int a1), some (.int 0), some (.int 0)]) C dX5_hanging_3 rfl hN (by decide) rfl rfl ?_
  exact kX5_hanging_L4 C hR hN N h a1 hM N 0 0
set_option maxRecDepth 100000 in
set_option maxHeartbeats 4000000 in
theorem c_X5_depthOf {l : Launch} {w : Wd} {A : Nat → Prop} (h : Hp) (a1 : Int32) (hM : LM w) : ConI l yX5_depthOf cX5_depthOf 3 .int 0 w A [.ref (w.2.1 22), .int a1] h (Option.map (fun v => (v, h)) (fX5_depthOf h a1)) := by
  refine ConI.of (lv0 := [some (.ref (w.2.1 22)), some (.int a1), none]) (by decide +kernel) (Nat.le_of_ble_eq_true rfl) rfl (fun x C hR hN => ?_)
  unfold fX5_depthOf
  refine pw_aload_n C dX5_depthOf_0 rfl rfl ?_
  refine pw_getr (q2 := 23) C (hM 22 _ rfl (by decide)) rfl (k := 0) (by decide) rfl fl_X5_7 dX5_depthOf_1 ?_
  refine pw_bipush (v := 98) C dX5_depthOf_4 (by decide) ?_
  refine pw_iload_n C dX5_depthOf_6 rfl rfl ?_
  refine pw_iadd C dX5_depthOf_7 ?_
  refine pm_ialdb C (hM 23 _ rfl (by decide)) dX5_depthOf_8 (fun v1 => ?_)
  refine pw_istore_n (lv2 := [some (.ref (w.2.1 22)), some (.int a1), some (.int v1)]) C dX5_depthOf_9 rfl hN (by decide) rfl rfl ?_
  refine pw_iload_n C dX5_depthOf_10 rfl rfl ?_
  refine pm_if_ge (tgt := 18) C dX5_depthOf_11 (by decide) (fun c3 => ?_) (fun c3 => ?_)
  · refine pw_iconst (v := 0) C dX5_depthOf_14 (by decide) ?_
    refine pw_goto (tgt := 35) C dX5_depthOf_15 (by decide) ?_
    exact pm_iret C hR dX5_depthOf_35
  · refine pw_aload_n C dX5_depthOf_18 rfl rfl ?_
    refine pw_getr (q2 := 23) C (hM 22 _ rfl (by decide)) rfl (k := 0) (by decide) rfl fl_X5_7 dX5_depthOf_19 ?_
    refine pw_bipush (v := 98) C dX5_depthOf_22 (by decide) ?_
    refine pw_iload_n C dX5_depthOf_24 rfl rfl ?_
    refine pw_iadd C dX5_depthOf_25 ?_
    refine pm_ialdb C (hM 23 _ rfl (by decide)) dX5_depthOf_26 (fun v2 => ?_)
    refine pm_if_ge (tgt := 34) C dX5_depthOf_27 (by decide) (fun c4 => ?_) (fun c4 => ?_)
    · refine pw_iconst (v := 1) C dX5_depthOf_30 (by decide) ?_
      refine pw_goto (tgt := 35) C dX5_depthOf_31 (by decide) ?_
      exact pm_iret C hR dX5_depthOf_35
    · refine pw_iconst (v := 2) C dX5_depthOf_34 (by decide) ?_
      exact pm_iret C hR dX5_depthOf_35
set_option maxRecDepth 100000 in
set_option maxHeartbeats 4000000 in
theorem kX5_topOf_L5 {w : Wd} {x : Cz} (C : Ok w x cX5_topOf RX5 0) (hR : OkI w x .int) (hN : xN x = 4) (N : Nat) (h : Hp) (a1 : Int32) (hM : LM w)  : ∀ (n : Nat) (u2 : Int32) (u3 : Int32), PW w x 5 [some (.ref (w.2.1 22)), some (.int a1), some (.int u2), some (.int u3)] [] h (Option.map (fun v => (v, h)) (fX5_topOf_L5 N h a1 n u2 u3)) := by
  intro n
  induction n with
  | zero => intro u2 u3; rw [fX5_topOf_L5]; exact pw_none
  | succ n ih =>
    intro u2 u3
    rw [fX5_topOf_L5]
    refine pw_iload_n C dX5_topOf_5 rfl rfl ?_
    refine pw_aload_n C dX5_topOf_6 rfl rfl ?_
    refine pw_getr (q2 := 23) C (hM 22 _ rfl (by decide)) rfl (k := 0) (by decide) rfl fl_X5_7 dX5_topOf_7 ?_
    refine pw_iconst (v := 0) C dX5_topOf_10 (by decide) ?_
    refine pw_ialdc (k := 0) C (hM 23 _ rfl (by decide)) (by decide +kernel) dX5_topOf_11 ?_
    refine pm_icmp_ge (tgt := 54) C dX5_topOf_12 (by decide) (fun c3 => ?_) (fun c3 => ?_)
    · refine pw_aload_n C dX5_topOf_15 rfl rfl ?_
      refine pw_getr (q2 := 23) C (hM 22 _ rfl (by decide)) rfl (k := 0) (by decide) rfl fl_X5_7 dX5_topOf_16 ?_
      refine pw_sipush (v := 130) C dX5_topOf_19 (by decide) ?_
      refine pw_iload_n C dX5_topOf_22 rfl rfl ?_
      refine pw_iadd C dX5_topOf_23 ?_
      refine pm_ialdb C (hM 23 _ rfl (by decide)) dX5_topOf_24 (fun v1 => ?_)
      refine pw_iconst (v := 1) C dX5_topOf_25 (by decide) ?_
      refine pm_icmp_ne (tgt := 46) C dX5_topOf_26 (by decide) (fun c4 => ?_) (fun c4 => ?_)
      · refine pw_aload_n C dX5_topOf_29 rfl rfl ?_
        refine pw_getr (q2 := 23) C (hM 22 _ rfl (by decide)) rfl (k := 0) (by decide) rfl fl_X5_7 dX5_topOf_30 ?_
        refine pw_bipush (v := 114) C dX5_topOf_33 (by decide) ?_
        refine pw_iload_n C dX5_topOf_35 rfl rfl ?_
        refine pw_iadd C dX5_topOf_36 ?_
        refine pm_ialdb C (hM 23 _ rfl (by decide)) dX5_topOf_37 (fun v2 => ?_)
        refine pw_iload_n C dX5_topOf_38 rfl rfl ?_
        refine PW.eq (apply_ite (fun z_ => Option.map (fun v => (v, h)) (fX5_topOf_L5 N h a1 n z_ (u3 + 1))) _ _ _) ?_
        refine pw_icmp_ne (tgt := 46) C dX5_topOf_39 (by decide) (fun c5 => ?_) (fun c5 => ?_)
        · refine pw_iload_n C dX5_topOf_42 rfl rfl ?_
          refine pw_goto (tgt := 47) C dX5_topOf_43 (by decide) ?_
          refine pw_istore_n (lv2 := [some (.ref (w.2.1 22)), some (.int a1), some (.int u3), some (.int u3)]) C dX5_topOf_47 rfl hN (by decide) rfl rfl ?_
          refine pw_iinc (lv2 := [some (.ref (w.2.1 22)), some (.int a1), some (.int u3), some (.int (u3 + 1))]) C dX5_topOf_48 rfl rfl hN (by decide) rfl rfl ?_
          refine pw_goto (tgt := 5) C dX5_topOf_51 (by decide) ?_
          exact ih u3 (u3 + 1)
        · refine pw_iload_n C dX5_topOf_46 rfl rfl ?_
          refine pw_istore_n (lv2 := [some (.ref (w.2.1 22)), some (.int a1), some (.int u2), some (.int u3)]) C dX5_topOf_47 rfl hN (by decide) rfl rfl ?_
          refine pw_iinc (lv2 := [some (.ref (w.2.1 22)), some (.int a1), some (.int u2), some (.int (u3 + 1))]) C dX5_topOf_48 rfl rfl hN (by decide) rfl rfl ?_
          refine pw_goto (tgt := 5) C dX5_topOf_51 (by decide) ?_
          exact ih u2 (u3 + 1)
      · refine pw_iload_n C dX5_topOf_46 rfl rfl ?_
        refine pw_istore_n (lv2 := [some (.ref (w.2.1 22)), some (.int a1), some (.int u2), some (.int u3)]) C dX5_topOf_47 rfl hN (by decide) rfl rfl ?_
        refine pw_iinc (lv2 := [some (.ref (w.2.1 22)), some (.int a1), some (.int u2), some (.int (u3 + 1))]) C dX5_topOf_48 rfl rfl hN (by decide) rfl rfl ?_
        refine pw_goto (tgt := 5) C dX5_topOf_51 (by decide) ?_
        exact ih u2 (u3 + 1)
    · refine pw_iload_n C dX5_topOf_54 rfl rfl ?_
      exact pm_iret C hR dX5_topOf_55
set_option maxRecDepth 100000 in
set_option maxHeartbeats 4000000 in
theorem c_X5_topOf {l : Launch} {w : Wd} {A : Nat → Prop} (N : Nat) (h : Hp) (a1 : Int32) (hM : LM w) : ConI l yX5_topOf cX5_topOf 4 .int 0 w A [.ref (w.2.1 22), .int a1] h (Option.map (fun v => (v, h)) (fX5_topOf N h a1)) := by
  refine ConI.of (lv0 := [some (.ref (w.2.1 22)), some (.int a1), none, none]) (by decide +kernel) (Nat.le_of_ble_eq_true rfl) rfl (fun x C hR hN => ?_)
  unfold fX5_topOf
  refine pw_bipush (v := (-4)) C dX5_topOf_0 (by decide) ?_
  refine pw_istore_n (lv2 := [some (.ref (w.2.1 22)), some (.int a1), some (.int (-4)), none]) C dX5_topOf_2 rfl hN (by decide) rfl rfl ?_
  refine pw_iconst (v := 0) C dX5_topOf_3 (by decide) ?_
  refine pw_istore_n (lv2 := [some (.ref (w.2.1 22)), some (.int a1), some (.int (-4)), some (.int 0)]) C dX5_topOf_4 rfl hN (by decide) rfl rfl ?_
  exact kX5_topOf_L5 C hR hN N h a1 hM N (-4) 0
set_option maxRecDepth 100000 in
set_option maxHeartbeats 4000000 in
theorem kX5_power_L4 {w : Wd} {x : Cz} (C : Ok w x cX5_power RX5 0) (hR : OkI w x .int) (hN : xN x = 3) (N : Nat) (h : Hp) (a0 : Int32)   : ∀ (n : Nat) (u1 : Int32) (u2 : Int32), PW w x 4 [some (.int a0), some (.int u1), some (.int u2)] [] h (Option.map (fun v => (v, h)) (fX5_power_L4 N h a0 n u1 u2)) := by
  intro n
  induction n with
  | zero => intro u1 u2; rw [fX5_power_L4]; exact pw_none
  | succ n ih =>
    intro u1 u2
    rw [fX5_power_L4]
    refine pw_iload_n C dX5_power_4 rfl rfl ?_
    refine pw_iload_n C dX5_power_5 rfl rfl ?_
    refine pm_icmp_ge (tgt := 20) C dX5_power_6 (by decide) (fun c1 => ?_) (fun c1 => ?_)
    · refine pw_iload_n C dX5_power_9 rfl rfl ?_
      refine pw_bipush (v := 10) C dX5_power_10 (by decide) ?_
      refine pw_imul C dX5_power_12 ?_
      refine pw_istore_n (lv2 := [some (.int a0), some (.int (u1 * 10)), some (.int u2)]) C dX5_power_13 rfl hN (by decide) rfl rfl ?_
      refine pw_iinc (lv2 := [some (.int a0), some (.int (u1 * 10)), some (.int (u2 + 1))]) C dX5_power_14 rfl rfl hN (by decide) rfl rfl ?_
      refine pw_goto (tgt := 4) C dX5_power_17 (by decide) ?_
      exact ih (u1 * 10) (u2 + 1)
    · refine pw_iload_n C dX5_power_20 rfl rfl ?_
      exact pm_iret C hR dX5_power_21
set_option maxRecDepth 100000 in
set_option maxHeartbeats 4000000 in
theorem c_X5_power {l : Launch} {w : Wd} {A : Nat → Prop} (N : Nat) (h : Hp) (a0 : Int32)  : ConI l yX5_power cX5_power 3 .int 0 w A [.int a0] h (Option.map (fun v => (v, h)) (fX5_power N h a0)) := by
  refine ConI.of (lv0 := [some (.int a0), none, none]) (by decide +kernel) (Nat.le_of_ble_eq_true rfl) rfl (fun x C hR hN => ?_)
  unfold fX5_power
  refine pw_iconst (v := 1) C dX5_power_0 (by decide) ?_
  refine pw_istore_n (lv2 := [some (.int a0), some (.int 1), none]) C dX5_power_1 rfl hN (by decide) rfl rfl ?_
  refine pw_iconst (v := 0) C dX5_power_2 (by decide) ?_
  refine pw_istore_n (lv2 := [some (.int a0), some (.int 1), some (.int 0)]) C dX5_power_3 rfl hN (by decide) rfl rfl ?_
  exact kX5_power_L4 C hR hN N h a0 N 1 0
set_option maxRecDepth 100000 in
set_option maxHeartbeats 4000000 in
theorem c_X5_clusterFor {l : Launch} {w : Wd} {A : Nat → Prop} (h : Hp) (a0 : Int32) (a1 : Int32)  : ConI l yX5_clusterFor cX5_clusterFor 2 .int 0 w A [.int a0, .int a1] h (some ((fX5_clusterFor h a0 a1), h)) := by
  refine ConI.of (lv0 := [some (.int a0), some (.int a1)]) (by decide +kernel) (Nat.le_of_ble_eq_true rfl) rfl (fun x C hR hN => ?_)
  unfold fX5_clusterFor
  refine pw_iload_n C dX5_clusterFor_0 rfl rfl ?_
  refine pt_if_ne (tgt := 8) C dX5_clusterFor_1 (by decide) (fun c1 => ?_) (fun c1 => ?_)
  · refine pw_iconst (v := 0) C dX5_clusterFor_4 (by decide) ?_
    refine pw_goto (tgt := 33) C dX5_clusterFor_5 (by decide) ?_
    exact pt_iret C hR dX5_clusterFor_33
  · refine pw_iload_n C dX5_clusterFor_8 rfl rfl ?_
    refine pt_if_le (tgt := 19) C dX5_clusterFor_9 (by decide) (fun c2 => ?_) (fun c2 => ?_)
    · refine pw_bipush (v := 10) C dX5_clusterFor_12 (by decide) ?_
      refine pw_iload_n C dX5_clusterFor_14 rfl rfl ?_
      refine pw_iadd C dX5_clusterFor_15 ?_
      refine pw_goto (tgt := 33) C dX5_clusterFor_16 (by decide) ?_
      exact pt_iret C hR dX5_clusterFor_33
    · refine pw_iload_n C dX5_clusterFor_19 rfl rfl ?_
      refine pw_iconst (v := 1) C dX5_clusterFor_20 (by decide) ?_
      refine pt_icmp_ne (tgt := 29) C dX5_clusterFor_21 (by decide) (fun c3 => ?_) (fun c3 => ?_)
      · refine pw_bipush (v := 31) C dX5_clusterFor_24 (by decide) ?_
        refine pw_goto (tgt := 33) C dX5_clusterFor_26 (by decide) ?_
        exact pt_iret C hR dX5_clusterFor_33
      · refine pw_bipush (v := 20) C dX5_clusterFor_29 (by decide) ?_
        refine pw_iload_n C dX5_clusterFor_31 rfl rfl ?_
        refine pw_iadd C dX5_clusterFor_32 ?_
        exact pt_iret C hR dX5_clusterFor_33
set_option maxRecDepth 100000 in
set_option maxHeartbeats 4000000 in
theorem c_X5_plain {l : Launch} {w : Wd} {A : Nat → Prop} (h : Hp) (a0 : Int32)  : ConI l yX5_plain cX5_plain 1 .int 0 w A [.int a0] h (some ((fX5_plain h a0), h)) := by
  refine ConI.of (lv0 := [some (.int a0)]) (by decide +kernel) (Nat.le_of_ble_eq_true rfl) rfl (fun x C hR hN => ?_)
  unfold fX5_plain
  refine pw_iload_n C dX5_plain_0 rfl rfl ?_
  refine pt_if_ge (tgt := 9) C dX5_plain_1 (by decide) (fun c1 => ?_) (fun c1 => ?_)
  · refine pw_iload_n C dX5_plain_4 rfl rfl ?_
    refine pw_ineg C dX5_plain_5 ?_
    refine pw_goto (tgt := 10) C dX5_plain_6 (by decide) ?_
    exact pt_iret C hR dX5_plain_10
  · refine pw_iload_n C dX5_plain_9 rfl rfl ?_
    exact pt_iret C hR dX5_plain_10
set_option maxRecDepth 100000 in
set_option maxHeartbeats 4000000 in
theorem kX5_bits_L4 {w : Wd} {x : Cz} (C : Ok w x cX5_bits RX5 0) (hR : OkI w x .int) (hN : xN x = 3) (N : Nat) (h : Hp) (a0 : Int32)   : ∀ (n : Nat) (u1 : Int32) (u2 : Int32), PW w x 4 [none, some (.int u1), some (.int u2)] [] h (Option.map (fun v => (v, h)) (fX5_bits_L4 N h a0 n u1 u2)) := by
  intro n
  induction n with
  | zero => intro u1 u2; rw [fX5_bits_L4]; exact pw_none
  | succ n ih =>
    intro u1 u2
    rw [fX5_bits_L4]
    refine pw_iload_n C dX5_bits_4 rfl rfl ?_
    refine pm_if_eq (tgt := 20) C dX5_bits_5 (by decide) (fun c1 => ?_) (fun c1 => ?_)
    · refine pw_iload_n C dX5_bits_20 rfl rfl ?_
      exact pm_iret C hR dX5_bits_21
    · refine pw_iinc (lv2 := [none, some (.int (u1 + 1)), some (.int u2)]) C dX5_bits_8 rfl rfl hN (by decide) rfl rfl ?_
      refine pw_iload_n C dX5_bits_11 rfl rfl ?_
      refine pw_iload_n C dX5_bits_12 rfl rfl ?_
      refine pw_iconst (v := 1) C dX5_bits_13 (by decide) ?_
      refine pw_isub C dX5_bits_14 ?_
      refine pw_iand C dX5_bits_15 ?_
      refine pw_istore_n (lv2 := [none, some (.int (u1 + 1)), some (.int (u2 &&& (u2 - 1)))]) C dX5_bits_16 rfl hN (by decide) rfl rfl ?_
      refine pw_goto (tgt := 4) C dX5_bits_17 (by decide) ?_
      exact ih (u1 + 1) (u2 &&& (u2 - 1))
set_option maxRecDepth 100000 in
set_option maxHeartbeats 4000000 in
theorem c_X5_bits {l : Launch} {w : Wd} {A : Nat → Prop} (N : Nat) (h : Hp) (a0 : Int32)  : ConI l yX5_bits cX5_bits 3 .int 0 w A [.int a0] h (Option.map (fun v => (v, h)) (fX5_bits N h a0)) := by
  refine ConI.of (lv0 := [some (.int a0), none, none]) (by decide +kernel) (Nat.le_of_ble_eq_true rfl) rfl (fun x C hR hN => ?_)
  unfold fX5_bits
  refine pw_iconst (v := 0) C dX5_bits_0 (by decide) ?_
  refine pw_istore_n (lv2 := [some (.int a0), some (.int 0), none]) C dX5_bits_1 rfl hN (by decide) rfl rfl ?_
  refine pw_iload_n C dX5_bits_2 rfl rfl ?_
  refine pw_istore_n (lv2 := [some (.int a0), some (.int 0), some (.int a0)]) C dX5_bits_3 rfl hN (by decide) rfl rfl ?_
  exact pw_lv (kX5_bits_L4 C hR hN N h a0 N 0 a0) ⟨rfl, rfl, trivial⟩
set_option maxRecDepth 100000 in
set_option maxHeartbeats 4000000 in
theorem kX5_tellOf_L4 {w : Wd} {x : Cz} (C : Ok w x cX5_tellOf RX5 0) (hR : OkI w x .int) (hN : xN x = 4) (N : Nat) (h : Hp) (a1 : Int32) (hM : LM w)  : ∀ (n : Nat) (u2 : Int32) (u3 : Int32), PW w x 4 [some (.ref (w.2.1 22)), some (.int a1), some (.int u2), some (.int u3)] [] h (Option.map (fun v => (v, h)) (fX5_tellOf_L4 N h a1 n u2 u3)) := by
  intro n
  induction n with
  | zero => intro u2 u3; rw [fX5_tellOf_L4]; exact pw_none
  | succ n ih =>
    intro u2 u3
    rw [fX5_tellOf_L4]
    refine pw_iload_n C dX5_tellOf_4 rfl rfl ?_
    refine pw_aload_n C dX5_tellOf_5 rfl rfl ?_
    refine pw_getr (q2 := 23) C (hM 22 _ rfl (by decide)) rfl (k := 0) (by decide) rfl fl_X5_7 dX5_tellOf_6 ?_
    refine pw_iconst (v := 0) C dX5_tellOf_9 (by decide) ?_
    refine pw_ialdc (k := 0) C (hM 23 _ rfl (by decide)) (by decide +kernel) dX5_tellOf_10 ?_
    refine pm_icmp_ge (tgt := 42) C dX5_tellOf_11 (by decide) (fun c2 => ?_) (fun c2 => ?_)
    · refine pw_iload_n C dX5_tellOf_14 rfl rfl ?_
      refine pw_iload_n C dX5_tellOf_15 rfl rfl ?_
      refine pw_iload_n C dX5_tellOf_16 rfl rfl ?_
      refine pw_ishr C dX5_tellOf_17 ?_
      refine pw_iconst (v := 1) C dX5_tellOf_18 (by decide) ?_
      refine pw_iand C dX5_tellOf_19 ?_
      refine pw_iconst (v := 1) C dX5_tellOf_20 (by decide) ?_
      refine pm_icmp_ne (tgt := 33) C dX5_tellOf_21 (by decide) (fun c3 => ?_) (fun c3 => ?_)
      · refine pw_aload_n C dX5_tellOf_24 rfl rfl ?_
        refine pw_getr (q2 := 32) C (hM 22 _ rfl (by decide)) rfl (k := 15) (by decide) rfl fl_X5_37 dX5_tellOf_25 ?_
        refine pw_iload_n C dX5_tellOf_28 rfl rfl ?_
        refine pm_ialdb C (hM 32 _ rfl (by decide)) dX5_tellOf_29 (fun v1 => ?_)
        refine pw_goto (tgt := 34) C dX5_tellOf_30 (by decide) ?_
        refine pw_iadd C dX5_tellOf_34 ?_
        refine pw_istore_n (lv2 := [some (.ref (w.2.1 22)), some (.int a1), some (.int (u2 + v1)), some (.int u3)]) C dX5_tellOf_35 rfl hN (by decide) rfl rfl ?_
        refine pw_iinc (lv2 := [some (.ref (w.2.1 22)), some (.int a1), some (.int (u2 + v1)), some (.int (u3 + 1))]) C dX5_tellOf_36 rfl rfl hN (by decide) rfl rfl ?_
        refine pw_goto (tgt := 4) C dX5_tellOf_39 (by decide) ?_
        exact ih (u2 + v1) (u3 + 1)
      · refine pw_iconst (v := 0) C dX5_tellOf_33 (by decide) ?_
        refine pw_iadd C dX5_tellOf_34 ?_
        refine pw_istore_n (lv2 := [some (.ref (w.2.1 22)), some (.int a1), some (.int (u2 + 0)), some (.int u3)]) C dX5_tellOf_35 rfl hN (by decide) rfl rfl ?_
        refine pw_iinc (lv2 := [some (.ref (w.2.1 22)), some (.int a1), some (.int (u2 + 0)), some (.int (u3 + 1))]) C dX5_tellOf_36 rfl rfl hN (by decide) rfl rfl ?_
        refine pw_goto (tgt := 4) C dX5_tellOf_39 (by decide) ?_
        exact ih (u2 + 0) (u3 + 1)
    · refine pw_iload_n C dX5_tellOf_42 rfl rfl ?_
      exact pm_iret C hR dX5_tellOf_43
set_option maxRecDepth 100000 in
set_option maxHeartbeats 4000000 in
theorem c_X5_tellOf {l : Launch} {w : Wd} {A : Nat → Prop} (N : Nat) (h : Hp) (a1 : Int32) (hM : LM w) : ConI l yX5_tellOf cX5_tellOf 4 .int 0 w A [.ref (w.2.1 22), .int a1] h (Option.map (fun v => (v, h)) (fX5_tellOf N h a1)) := by
  refine ConI.of (lv0 := [some (.ref (w.2.1 22)), some (.int a1), none, none]) (by decide +kernel) (Nat.le_of_ble_eq_true rfl) rfl (fun x C hR hN => ?_)
  unfold fX5_tellOf
  refine pw_iconst (v := 0) C dX5_tellOf_0 (by decide) ?_
  refine pw_istore_n (lv2 := [some (.ref (w.2.1 22)), some (.int a1), some (.int 0), none]) C dX5_tellOf_1 rfl hN (by decide) rfl rfl ?_
  refine pw_iconst (v := 0) C dX5_tellOf_2 (by decide) ?_
  refine pw_istore_n (lv2 := [some (.ref (w.2.1 22)), some (.int a1), some (.int 0), some (.int 0)]) C dX5_tellOf_3 rfl hN (by decide) rfl rfl ?_
  exact kX5_tellOf_L4 C hR hN N h a1 hM N 0 0
set_option maxRecDepth 100000 in
set_option maxHeartbeats 4000000 in
theorem kX5_hangingAt_L8 {w : Wd} {x : Cz} (C : Ok w x cX5_hangingAt RX5 0) (hR : OkI w x .int) (hN : xN x = 6) (N : Nat) (h : Hp) (a1 : Int32) (a2 : Int32) (hM : LM w)  : ∀ (n : Nat) (u3 : Int32) (u4 : Int32) (u5 : Int32), PW w x 8 [some (.ref (w.2.1 22)), some (.int a1), some (.int a2), some (.int u3), some (.int u4), some (.int u5)] [] h (Option.map (fun v => (v, h)) (fX5_hangingAt_L8 N h a1 a2 n u3 u4 u5)) := by
  intro n
  induction n with
  | zero => intro u3 u4 u5; rw [fX5_hangingAt_L8]; exact pw_none
  | succ n ih =>
    intro u3 u4 u5
    rw [fX5_hangingAt_L8]
    refine pw_iload C dX5_hangingAt_8 rfl ?_
    refine pw_aload_n C dX5_hangingAt_10 rfl rfl ?_
    refine pw_getr (q2 := 23) C (hM 22 _ rfl (by decide)) rfl (k := 0) (by decide) rfl fl_X5_7 dX5_hangingAt_11 ?_
    refine pw_iconst (v := 0) C dX5_hangingAt_14 (by decide) ?_
    refine pw_ialdc (k := 0) C (hM 23 _ rfl (by decide)) (by decide +kernel) dX5_hangingAt_15 ?_
    refine pm_icmp_ge (tgt := 55) C dX5_hangingAt_16 (by decide) (fun c2 => ?_) (fun c2 => ?_)
    · refine pw_aload_n C dX5_hangingAt_19 rfl rfl ?_
      refine pw_getr (q2 := 23) C (hM 22 _ rfl (by decide)) rfl (k := 0) (by decide) rfl fl_X5_7 dX5_hangingAt_20 ?_
      refine pw_bipush (v := 98) C dX5_hangingAt_23 (by decide) ?_
      refine pw_iload C dX5_hangingAt_25 rfl ?_
      refine pw_iadd C dX5_hangingAt_27 ?_
      refine pm_ialdb C (hM 23 _ rfl (by decide)) dX5_hangingAt_28 (fun v1 => ?_)
      refine pw_iload_n C dX5_hangingAt_29 rfl rfl ?_
      refine pm_icmp_ne (tgt := 49) C dX5_hangingAt_30 (by decide) (fun c3 => ?_) (fun c3 => ?_)
      · refine pw_iload C dX5_hangingAt_33 rfl ?_
        refine pw_iload_n C dX5_hangingAt_35 rfl rfl ?_
        refine PW.eq (apply_ite (fun z_ => Option.map (fun v => (v, h)) (fX5_hangingAt_L8 N h a1 a2 n z_ (u4 + 1) (u5 + 1))) _ _ _) ?_
        refine pw_icmp_ne (tgt := 44) C dX5_hangingAt_36 (by decide) (fun c4 => ?_) (fun c4 => ?_)
        · refine pw_iload C dX5_hangingAt_39 rfl ?_
          refine pw_goto (tgt := 45) C dX5_hangingAt_41 (by decide) ?_
          refine pw_istore_n (lv2 := [some (.ref (w.2.1 22)), some (.int a1), some (.int a2), some (.int u5), some (.int u4), some (.int u5)]) C dX5_hangingAt_45 rfl hN (by decide) rfl rfl ?_
          refine pw_iinc (lv2 := [some (.ref (w.2.1 22)), some (.int a1), some (.int a2), some (.int u5), some (.int (u4 + 1)), some (.int u5)]) C dX5_hangingAt_46 rfl rfl hN (by decide) rfl rfl ?_
          refine pw_iinc (lv2 := [some (.ref (w.2.1 22)), some (.int a1), some (.int a2), some (.int u5), some (.int (u4 + 1)), some (.int (u5 + 1))]) C dX5_hangingAt_49 rfl rfl hN (by decide) rfl rfl ?_
          refine pw_goto (tgt := 8) C dX5_hangingAt_52 (by decide) ?_
          exact ih u5 (u4 + 1) (u5 + 1)
        · refine pw_iload_n C dX5_hangingAt_44 rfl rfl ?_
          refine pw_istore_n (lv2 := [some (.ref (w.2.1 22)), some (.int a1), some (.int a2), some (.int u3), some (.int u4), some (.int u5)]) C dX5_hangingAt_45 rfl hN (by decide) rfl rfl ?_
          refine pw_iinc (lv2 := [some (.ref (w.2.1 22)), some (.int a1), some (.int a2), some (.int u3), some (.int (u4 + 1)), some (.int u5)]) C dX5_hangingAt_46 rfl rfl hN (by decide) rfl rfl ?_
          refine pw_iinc (lv2 := [some (.ref (w.2.1 22)), some (.int a1), some (.int a2), some (.int u3), some (.int (u4 + 1)), some (.int (u5 + 1))]) C dX5_hangingAt_49 rfl rfl hN (by decide) rfl rfl ?_
          refine pw_goto (tgt := 8) C dX5_hangingAt_52 (by decide) ?_
          exact ih u3 (u4 + 1) (u5 + 1)
      · refine pw_iinc (lv2 := [some (.ref (w.2.1 22)), some (.int a1), some (.int a2), some (.int u3), some (.int u4), some (.int (u5 + 1))]) C dX5_hangingAt_49 rfl rfl hN (by decide) rfl rfl ?_
        refine pw_goto (tgt := 8) C dX5_hangingAt_52 (by decide) ?_
        exact ih u3 u4 (u5 + 1)
    · refine pw_iload_n C dX5_hangingAt_55 rfl rfl ?_
      exact pm_iret C hR dX5_hangingAt_56
set_option maxRecDepth 100000 in
set_option maxHeartbeats 4000000 in
theorem c_X5_hangingAt {l : Launch} {w : Wd} {A : Nat → Prop} (N : Nat) (h : Hp) (a1 : Int32) (a2 : Int32) (hM : LM w) : ConI l yX5_hangingAt cX5_hangingAt 6 .int 0 w A [.ref (w.2.1 22), .int a1, .int a2] h (Option.map (fun v => (v, h)) (fX5_hangingAt N h a1 a2)) := by
  refine ConI.of (lv0 := [some (.ref (w.2.1 22)), some (.int a1), some (.int a2), none, none, none]) (by decide +kernel) (Nat.le_of_ble_eq_true rfl) rfl (fun x C hR hN => ?_)
  unfold fX5_hangingAt
  refine pw_iconst (v := (-1)) C dX5_hangingAt_0 (by decide) ?_
  refine pw_istore_n (lv2 := [some (.ref (w.2.1 22)), some (.int a1), some (.int a2), some (.int (-1)), none, none]) C dX5_hangingAt_1 rfl hN (by decide) rfl rfl ?_
  refine pw_iconst (v := 0) C dX5_hangingAt_2 (by decide) ?_
  refine pw_istore (lv2 := [some (.ref (w.2.1 22)), some (.int a1), some (.int a2), some (.int (-1)), some (.int 0), none]) C dX5_hangingAt_3 hN (by decide) rfl rfl ?_
  refine pw_iconst (v := 0) C dX5_hangingAt_5 (by decide) ?_
  refine pw_istore (lv2 := [some (.ref (w.2.1 22)), some (.int a1), some (.int a2), some (.int (-1)), some (.int 0), some (.int 0)]) C dX5_hangingAt_6 hN (by decide) rfl rfl ?_
  exact kX5_hangingAt_L8 C hR hN N h a1 a2 hM N (-1) 0 0
set_option maxRecDepth 100000 in
set_option maxHeartbeats 4000000 in
theorem c_J6_bitCount_0f7a4 {l : Launch} {w : Wd} {A : Nat → Prop} (h : Hp) (a0 : Int32)  : ConI l yJ6_bitCount_0f7a4 cJ6_bitCount_0f7a4 1 .int 0 w A [.int a0] h (Option.map (fun v => (v, h)) (fJ6_bitCount_0f7a4 h a0)) := by
  refine ConI.of (lv0 := [some (.int a0)]) (by decide +kernel) (Nat.le_of_ble_eq_true rfl) rfl (fun x C hR hN => ?_)
  unfold fJ6_bitCount_0f7a4
  refine pw_iload_n C dJ6_bitCount_0f7a4_0 rfl rfl ?_
  refine pw_iload_n C dJ6_bitCount_0f7a4_1 rfl rfl ?_
  refine pw_iconst (v := 1) C dJ6_bitCount_0f7a4_2 (by decide) ?_
  refine pw_iushr C dJ6_bitCount_0f7a4_3 ?_
  refine pw_ldcw (C := C) ct_J6_265 dJ6_bitCount_0f7a4_4 ?_
  refine pw_iand C dJ6_bitCount_0f7a4_7 ?_
  refine pw_isub C dJ6_bitCount_0f7a4_8 ?_
  refine pm_name (fun v1 => ?_)
  refine pw_istore_n (lv2 := [some (.int v1)]) C dJ6_bitCount_0f7a4_9 rfl hN (by decide) rfl rfl ?_
  refine pw_iload_n C dJ6_bitCount_0f7a4_10 rfl rfl ?_
  refine pw_ldcw (C := C) ct_J6_266 dJ6_bitCount_0f7a4_11 ?_
  refine pw_iand C dJ6_bitCount_0f7a4_14 ?_
  refine pw_iload_n C dJ6_bitCount_0f7a4_15 rfl rfl ?_
  refine pw_iconst (v := 2) C dJ6_bitCount_0f7a4_16 (by decide) ?_
  refine pw_iushr C dJ6_bitCount_0f7a4_17 ?_
  refine pw_ldcw (C := C) ct_J6_266 dJ6_bitCount_0f7a4_18 ?_
  refine pw_iand C dJ6_bitCount_0f7a4_21 ?_
  refine pw_iadd C dJ6_bitCount_0f7a4_22 ?_
  refine pm_name (fun v2 => ?_)
  refine pw_istore_n (lv2 := [some (.int v2)]) C dJ6_bitCount_0f7a4_23 rfl hN (by decide) rfl rfl ?_
  refine pw_iload_n C dJ6_bitCount_0f7a4_24 rfl rfl ?_
  refine pw_iload_n C dJ6_bitCount_0f7a4_25 rfl rfl ?_
  refine pw_iconst (v := 4) C dJ6_bitCount_0f7a4_26 (by decide) ?_
  refine pw_iushr C dJ6_bitCount_0f7a4_27 ?_
  refine pw_iadd C dJ6_bitCount_0f7a4_28 ?_
  refine pw_ldcw (C := C) ct_J6_267 dJ6_bitCount_0f7a4_29 ?_
  refine pw_iand C dJ6_bitCount_0f7a4_32 ?_
  refine pm_name (fun v3 => ?_)
  refine pw_istore_n (lv2 := [some (.int v3)]) C dJ6_bitCount_0f7a4_33 rfl hN (by decide) rfl rfl ?_
  refine pw_iload_n C dJ6_bitCount_0f7a4_34 rfl rfl ?_
  refine pw_iload_n C dJ6_bitCount_0f7a4_35 rfl rfl ?_
  refine pw_bipush (v := 8) C dJ6_bitCount_0f7a4_36 (by decide) ?_
  refine pw_iushr C dJ6_bitCount_0f7a4_38 ?_
  refine pw_iadd C dJ6_bitCount_0f7a4_39 ?_
  refine pm_name (fun v4 => ?_)
  refine pw_istore_n (lv2 := [some (.int v4)]) C dJ6_bitCount_0f7a4_40 rfl hN (by decide) rfl rfl ?_
  refine pw_iload_n C dJ6_bitCount_0f7a4_41 rfl rfl ?_
  refine pw_iload_n C dJ6_bitCount_0f7a4_42 rfl rfl ?_
  refine pw_bipush (v := 16) C dJ6_bitCount_0f7a4_43 (by decide) ?_
  refine pw_iushr C dJ6_bitCount_0f7a4_45 ?_
  refine pw_iadd C dJ6_bitCount_0f7a4_46 ?_
  refine pm_name (fun v5 => ?_)
  refine pw_istore_n (lv2 := [some (.int v5)]) C dJ6_bitCount_0f7a4_47 rfl hN (by decide) rfl rfl ?_
  refine pw_iload_n C dJ6_bitCount_0f7a4_48 rfl rfl ?_
  refine pw_bipush (v := 63) C dJ6_bitCount_0f7a4_49 (by decide) ?_
  refine pw_iand C dJ6_bitCount_0f7a4_51 ?_
  exact pm_iret C hR dJ6_bitCount_0f7a4_52
