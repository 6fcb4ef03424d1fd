set_option maxRecDepth 100000 in
set_option maxHeartbeats 4000000 in
theorem kX2_findFewest_J57 {w : Wd} {x : Cz} (C : Ok w x cX2_findFewest RX2 3) (hR : OkV w x) (hN : xN x = 9) (N : Nat) (a1 : Int32) (hL : LX w) (k20 : Int32 → Int32 → Int32 → Int32 → Hp → Option Rs) (hk20 : ∀ (u2 : Int32) (u3 : Int32) (u4 : Int32) (u5 : Int32) (h : Hp), PW w x 20 [some (.ref (w.2.1 12)), some (.int a1), some (.int u2), some (.int u3), some (.int u4), some (.int u5), none, none, none] [] h ((k20 u2 u3 u4 u5 h))) : ∀ (u2 : Int32) (u3 : Int32) (u4 : Int32) (u5 : Int32) (u6 : Int32) (t0 : Int32) (h : Hp), PW w x 57 [some (.ref (w.2.1 12)), some (.int a1), some (.int u2), some (.int u3), some (.int u4), some (.int u5), some (.int u6), none, none] [.int t0] h ((fX2_findFewest_J57 N a1 k20 u2 u3 u4 u5 u6 t0 h)) := by
  intro u2 u3 u4 u5 u6 t0 h
  unfold fX2_findFewest_J57
  refine pw_istore (lv2 := [some (.ref (w.2.1 12)), some (.int a1), some (.int u2), some (.int u3), some (.int u4), some (.int u5), some (.int u6), some (.int t0), none]) C dX2_findFewest_57 hN (by decide) rfl rfl ?_
  refine pw_iload C dX2_findFewest_59 rfl ?_
  refine pw_aload_n C dX2_findFewest_61 rfl rfl ?_
  refine pw_geti C (hL 12 _ rfl) rfl (k := 6) (by decide) rfl fl_X2_72 dX2_findFewest_62 ?_
  refine pw_icmp_ge (tgt := 120) C dX2_findFewest_65 (by decide) (fun c13 => ?_) (fun c13 => ?_)
  · refine pw_aload_n C dX2_findFewest_68 rfl rfl ?_
    refine pw_iload C dX2_findFewest_69 rfl ?_
    refine pw_callVp (as := [.int t0]) (rest := []) C dX2_findFewest_71 ml_X2_54 cw_X2_sumAt im_X2_sumAt sl_X2_sumAt (hL 12 _ rfl) rfl ⟨by decide, by decide⟩ (c_X2_sumAt h t0 hL) rfl rfl (Nat.le_of_ble_eq_true rfl) (fun v7 => ?_)
    refine pw_iload C dX2_findFewest_74 rfl ?_
    refine pw_icmp_ne (tgt := 120) C dX2_findFewest_76 (by decide) (fun c14 => ?_) (fun c14 => ?_)
    · refine pw_iload C dX2_findFewest_79 rfl ?_
      refine pw_callSp (as := [.int u5]) (rest := []) C dX2_findFewest_81 ml_X2_78 cw_J6_bitCount_0f7a4 st_J6_bitCount_0f7a4 ⟨by decide, by decide⟩ (c_J6_bitCount_0f7a4 h u5) rfl rfl (Nat.le_of_ble_eq_true rfl) (fun v8 => ?_)
      refine pw_aload_n C dX2_findFewest_84 rfl rfl ?_
      refine pw_iload C dX2_findFewest_85 rfl ?_
      refine pw_callVp (as := [.int t0]) (rest := [.int v8]) C dX2_findFewest_87 ml_X2_75 cw_X2_bitsAt im_X2_bitsAt sl_X2_bitsAt (hL 12 _ rfl) rfl ⟨by decide, by decide⟩ (c_X2_bitsAt h t0 hL) rfl rfl (Nat.le_of_ble_eq_true rfl) (fun v9 => ?_)
      refine pw_callSp (as := [.int v9]) (rest := [.int v8]) C dX2_findFewest_90 ml_X2_78 cw_J6_bitCount_0f7a4 st_J6_bitCount_0f7a4 ⟨by decide, by decide⟩ (c_J6_bitCount_0f7a4 h v9) rfl rfl (Nat.le_of_ble_eq_true rfl) (fun v10 => ?_)
      refine pw_iadd C dX2_findFewest_93 ?_
      refine pw_istore (lv2 := [some (.ref (w.2.1 12)), some (.int a1), some (.int u2), some (.int u3), some (.int u4), some (.int u5), some (.int u6), some (.int t0), some (.int (v8 + v10))]) C dX2_findFewest_94 hN (by decide) rfl rfl ?_
      refine pw_iload C dX2_findFewest_96 rfl ?_
      refine pw_iload C dX2_findFewest_98 rfl ?_
      refine pw_icmp_ge (tgt := 120) C dX2_findFewest_100 (by decide) (fun c15 => ?_) (fun c15 => ?_)
      · refine pw_iload C dX2_findFewest_103 rfl ?_
        refine pw_istore (lv2 := [some (.ref (w.2.1 12)), some (.int a1), some (.int u2), some (.int u3), some (.int (v8 + v10)), some (.int u5), some (.int u6), some (.int t0), some (.int (v8 + v10))]) C dX2_findFewest_105 hN (by decide) rfl rfl ?_
        refine pw_iload C dX2_findFewest_107 rfl ?_
        refine pw_bipush (v := 8) C dX2_findFewest_109 (by decide) ?_
        refine pw_ishl C dX2_findFewest_111 ?_
        refine pw_aload_n C dX2_findFewest_112 rfl rfl ?_
        refine pw_iload C dX2_findFewest_113 rfl ?_
        refine pw_callVp (as := [.int t0]) (rest := [.int (u5 <<< (8 &&& 31))]) C dX2_findFewest_115 ml_X2_75 cw_X2_bitsAt im_X2_bitsAt sl_X2_bitsAt (hL 12 _ rfl) rfl ⟨by decide, by decide⟩ (c_X2_bitsAt h t0 hL) rfl rfl (Nat.le_of_ble_eq_true rfl) (fun v11 => ?_)
        refine pw_ior C dX2_findFewest_118 ?_
        refine pw_name (fun v12 => ?_)
        refine pw_istore_n (lv2 := [some (.ref (w.2.1 12)), some (.int a1), some (.int u2), some (.int v12), some (.int (v8 + v10)), some (.int u5), some (.int u6), some (.int t0), some (.int (v8 + v10))]) C dX2_findFewest_119 rfl hN (by decide) rfl rfl ?_
        refine pw_iinc (lv2 := [some (.ref (w.2.1 12)), some (.int a1), some (.int u2), some (.int v12), some (.int (v8 + v10)), some (.int (u5 + 1)), some (.int u6), some (.int t0), some (.int (v8 + v10))]) C dX2_findFewest_120 rfl rfl hN (by decide) rfl rfl ?_
        refine pw_goto (tgt := 20) C dX2_findFewest_123 (by decide) ?_
        exact pw_lv (hk20 u2 v12 (v8 + v10) (u5 + 1) h) ⟨rfl, rfl, rfl, rfl, rfl, rfl, trivial⟩
      · refine pw_iinc (lv2 := [some (.ref (w.2.1 12)), some (.int a1), some (.int u2), some (.int u3), some (.int u4), some (.int (u5 + 1)), some (.int u6), some (.int t0), some (.int (v8 + v10))]) C dX2_findFewest_120 rfl rfl hN (by decide) rfl rfl ?_
        refine pw_goto (tgt := 20) C dX2_findFewest_123 (by decide) ?_
        exact pw_lv (hk20 u2 u3 u4 (u5 + 1) h) ⟨rfl, rfl, rfl, rfl, rfl, rfl, trivial⟩
    · refine pw_iinc (lv2 := [some (.ref (w.2.1 12)), some (.int a1), some (.int u2), some (.int u3), some (.int u4), some (.int (u5 + 1)), some (.int u6), some (.int t0), none]) C dX2_findFewest_120 rfl rfl hN (by decide) rfl rfl ?_
      refine pw_goto (tgt := 20) C dX2_findFewest_123 (by decide) ?_
      exact pw_lv (hk20 u2 u3 u4 (u5 + 1) h) ⟨rfl, rfl, rfl, rfl, rfl, rfl, trivial⟩
  · refine pw_iinc (lv2 := [some (.ref (w.2.1 12)), some (.int a1), some (.int u2), some (.int u3), some (.int u4), some (.int (u5 + 1)), some (.int u6), some (.int t0), none]) C dX2_findFewest_120 rfl rfl hN (by decide) rfl rfl ?_
    refine pw_goto (tgt := 20) C dX2_findFewest_123 (by decide) ?_
    exact pw_lv (hk20 u2 u3 u4 (u5 + 1) h) ⟨rfl, rfl, rfl, rfl, rfl, rfl, trivial⟩
set_option maxRecDepth 100000 in
set_option maxHeartbeats 4000000 in
theorem kX2_findFewest_L20 {w : Wd} {x : Cz} (C : Ok w x cX2_findFewest RX2 3) (hR : OkV w x) (hN : xN x = 9) (N : Nat) (a1 : Int32) (hL : LX w)  : ∀ (n : Nat) (u2 : Int32) (u3 : Int32) (u4 : Int32) (u5 : Int32) (h : Hp), PW w x 20 [some (.ref (w.2.1 12)), some (.int a1), some (.int u2), some (.int u3), some (.int u4), some (.int u5), none, none, none] [] h ((fX2_findFewest_L20 N a1 n u2 u3 u4 u5 h)) := by
  intro n
  induction n with
  | zero => intro u2 u3 u4 u5 h; rw [fX2_findFewest_L20]; exact pw_none
  | succ n ih =>
    intro u2 u3 u4 u5 h
    rw [fX2_findFewest_L20]
    refine pw_iload C dX2_findFewest_20 rfl ?_
    refine pw_iload_n C dX2_findFewest_22 rfl rfl ?_
    refine pw_icmp_ge (tgt := 126) C dX2_findFewest_23 (by decide) (fun c16 => ?_) (fun c16 => ?_)
    · refine pw_iload_n C dX2_findFewest_26 rfl rfl ?_
      refine pw_aload_n C dX2_findFewest_27 rfl rfl ?_
      refine pw_getr (q2 := 15) C (hL 12 _ rfl) rfl (k := 2) (by decide) rfl fl_X2_18 dX2_findFewest_28 ?_
      refine pw_iload C dX2_findFewest_31 rfl ?_
      refine pw_callSNt (host := "ToldInKnots") (as := [.ref (w.2.1 15), .int u5]) (rest := [.int a1]) C dX2_findFewest_33 (by decide +kernel) cw_X4_at st_X4_at ⟨by decide, by decide⟩ (c_X4_at h 15 256 u5 (hL 15 _ rfl)) rfl rfl (Nat.le_of_ble_eq_true rfl) ?_
      refine pw_isub C dX2_findFewest_36 ?_
      refine pw_istore (lv2 := [some (.ref (w.2.1 12)), some (.int a1), some (.int u2), some (.int u3), some (.int u4), some (.int u5), some (.int (a1 - (atF h 15 256 u5))), none, none]) C dX2_findFewest_37 hN (by decide) rfl rfl ?_
      refine pw_iload C dX2_findFewest_39 rfl ?_
      refine pw_if_ge (tgt := 51) C dX2_findFewest_41 (by decide) (fun c17 => ?_) (fun c17 => ?_)
      · refine pw_aload_n C dX2_findFewest_44 rfl rfl ?_
        refine pw_geti C (hL 12 _ rfl) rfl (k := 6) (by decide) rfl fl_X2_72 dX2_findFewest_45 ?_
        refine pw_goto (tgt := 57) C dX2_findFewest_48 (by decide) ?_
        exact kX2_findFewest_J57 C hR hN N a1 hL (fX2_findFewest_L20 N a1 n) ih u2 u3 u4 u5 (a1 - (atF h 15 256 u5)) (h 12 6) h
      · refine pw_aload_n C dX2_findFewest_51 rfl rfl ?_
        refine pw_iload C dX2_findFewest_52 rfl ?_
        refine pw_callVp (as := [.int (a1 - (atF h 15 256 u5))]) (rest := []) C dX2_findFewest_54 ml_X2_50 cw_X2_firstFrom im_X2_firstFrom sl_X2_firstFrom (hL 12 _ rfl) rfl ⟨by decide, by decide⟩ (c_X2_firstFrom N h (a1 - (atF h 15 256 u5)) hL) rfl rfl (Nat.le_of_ble_eq_true rfl) (fun v3 => ?_)
        exact kX2_findFewest_J57 C hR hN N a1 hL (fX2_findFewest_L20 N a1 n) ih u2 u3 u4 u5 (a1 - (atF h 15 256 u5)) v3 h
    · refine pw_aload_n C dX2_findFewest_126 rfl rfl ?_
      refine pw_iload_n C dX2_findFewest_127 rfl rfl ?_
      refine pw_bipush (v := (-4)) C dX2_findFewest_128 (by decide) ?_
      refine pw_icmp_ne (tgt := 138) C dX2_findFewest_130 (by decide) (fun c18 => ?_) (fun c18 => ?_)
      · refine pw_bipush (v := (-4)) C dX2_findFewest_133 (by decide) ?_
        refine pw_goto (tgt := 143) C dX2_findFewest_135 (by decide) ?_
        refine pw_puti C (hL 12 _ rfl) rfl (k := 7) (by decide) rfl fl_X2_64 dX2_findFewest_143 rfl (by decide) ?_
        refine pw_nameh (fun g4 => ?_)
        exact pw_vret C hR dX2_findFewest_146
      · refine pw_aload_n C dX2_findFewest_138 rfl rfl ?_
        refine pw_iload_n C dX2_findFewest_139 rfl rfl ?_
        refine pw_callVp (as := [.int u3]) (rest := [.ref (w.2.1 12)]) C dX2_findFewest_140 ml_X2_61 cw_X2_asCords im_X2_asCords sl_X2_asCords (hL 12 _ rfl) rfl ⟨by decide, by decide⟩ (c_X2_asCords N h u3 hL) rfl rfl (Nat.le_of_ble_eq_true rfl) (fun v5 => ?_)
        refine pw_puti C (hL 12 _ rfl) rfl (k := 7) (by decide) rfl fl_X2_64 dX2_findFewest_143 rfl (by decide) ?_
        refine pw_nameh (fun g6 => ?_)
        exact pw_vret C hR dX2_findFewest_146
set_option maxRecDepth 100000 in
set_option maxHeartbeats 4000000 in
theorem c_X2_findFewest {l : Launch} {w : Wd} {A : Nat → Prop} (N : Nat) (h : Hp) (a1 : Int32) (hL : LX w) : ConV l yX2_findFewest cX2_findFewest 9 3 w A [.ref (w.2.1 12), .int a1] h ((fX2_findFewest N h a1)) := by
  refine ConV.of (lv0 := [some (.ref (w.2.1 12)), some (.int a1), none, none, none, none, none, none, none]) (by decide +kernel) (Nat.le_of_ble_eq_true rfl) rfl (fun x C hR hN => ?_)
  unfold fX2_findFewest
  refine pw_aload_n C dX2_findFewest_0 rfl rfl ?_
  refine pw_iconst (v := 1) C dX2_findFewest_1 (by decide) ?_
  refine pw_callVvq (as := [.int 1]) (rest := []) C dX2_findFewest_2 ml_X2_35 cw_X2_spreadLow im_X2_spreadLow sl_X2_spreadLow (hL 12 _ rfl) rfl ⟨by decide, by decide⟩ (c_X2_spreadLow N h 1 hL) rfl rfl (Nat.le_of_ble_eq_true rfl) (fun z1 => ?_)
  refine pw_aload_n C dX2_findFewest_5 rfl rfl ?_
  refine pw_callViq (as := []) (rest := []) C dX2_findFewest_6 ml_X2_39 cw_X2_spreadHigh im_X2_spreadHigh sl_X2_spreadHigh (hL 12 _ rfl) rfl ⟨by decide, by decide⟩ (c_X2_spreadHigh N z1.2 hL) rfl rfl (Nat.le_of_ble_eq_true rfl) (fun z2 => ?_)
  refine pw_istore_n (lv2 := [some (.ref (w.2.1 12)), some (.int a1), some (.int z2.1), none, none, none, none, none, none]) C dX2_findFewest_9 rfl hN (by decide) rfl rfl ?_
  refine pw_bipush (v := (-4)) C dX2_findFewest_10 (by decide) ?_
  refine pw_istore_n (lv2 := [some (.ref (w.2.1 12)), some (.int a1), some (.int z2.1), some (.int (-4)), none, none, none, none, none]) C dX2_findFewest_12 rfl hN (by decide) rfl rfl ?_
  refine pw_bipush (v := 17) C dX2_findFewest_13 (by decide) ?_
  refine pw_istore (lv2 := [some (.ref (w.2.1 12)), some (.int a1), some (.int z2.1), some (.int (-4)), some (.int 17), none, none, none, none]) C dX2_findFewest_15 hN (by decide) rfl rfl ?_
  refine pw_iconst (v := 0) C dX2_findFewest_17 (by decide) ?_
  refine pw_istore (lv2 := [some (.ref (w.2.1 12)), some (.int a1), some (.int z2.1), some (.int (-4)), some (.int 17), some (.int 0), none, none, none]) C dX2_findFewest_18 hN (by decide) rfl rfl ?_
  exact kX2_findFewest_L20 C hR hN N a1 hL N z2.1 (-4) 17 0 z2.2
set_option maxRecDepth 100000 in
set_option maxHeartbeats 4000000 in
theorem c_X4_pendant {l : Launch} {w : Wd} {A : Nat → Prop} (N : Nat) (h : Hp) (a1 : Int32) (a2 : Int32) (hL : LX w) : ConI l yX4_pendant cX4_pendant 3 .int 3 w A [.ref (w.2.1 0), .int a1, .int a2] h (Option.map (fun v => (v, h)) (fX4_pendant N h a1 a2)) := by
  refine ConI.of (lv0 := [some (.ref (w.2.1 0)), some (.int a1), some (.int a2)]) (by decide +kernel) (Nat.le_of_ble_eq_true rfl) rfl (fun x C hR hN => ?_)
  unfold fX4_pendant
  refine pw_aload_n C dX4_pendant_0 rfl rfl ?_
  refine pw_getr (q2 := 6) C (hL 0 _ rfl) rfl (k := 3) (by decide) rfl fl_X4_23 dX4_pendant_1 ?_
  refine pw_iload_n C dX4_pendant_4 rfl rfl ?_
  refine pw_callVt (as := [.int a1]) (rest := []) C dX4_pendant_5 ml_X4_140 cw_X0_hasGroup im_X0_hasGroup sl_X0_hasGroup (hL 6 _ rfl) rfl ⟨by decide, by decide⟩ (c_X0_hasGroup h 7 a1 (hL 6 _ rfl) (hL 7 _ rfl)) rfl rfl (Nat.le_of_ble_eq_true rfl) ?_
  refine pm_if_eq (tgt := 27) C dX4_pendant_8 (by decide) (fun c2 => ?_) (fun c2 => ?_)
  · refine pw_iconst (v := (-1)) C dX4_pendant_27 (by decide) ?_
    exact pm_iret C hR dX4_pendant_28
  · refine pw_iload_n C dX4_pendant_11 rfl rfl ?_
    refine pm_if_lt (tgt := 27) C dX4_pendant_12 (by decide) (fun c3 => ?_) (fun c3 => ?_)
    · refine pw_iconst (v := (-1)) C dX4_pendant_27 (by decide) ?_
      exact pm_iret C hR dX4_pendant_28
    · refine pw_aload_n C dX4_pendant_15 rfl rfl ?_
      refine pw_getr (q2 := 6) C (hL 0 _ rfl) rfl (k := 3) (by decide) rfl fl_X4_23 dX4_pendant_16 ?_
      refine pw_iload_n C dX4_pendant_19 rfl rfl ?_
      refine pw_iload_n C dX4_pendant_20 rfl rfl ?_
      refine pm_callVp (as := [.int a1, .int a2]) (rest := []) C dX4_pendant_21 ml_X4_158 cw_X0_pendantAt im_X0_pendantAt sl_X0_pendantAt (hL 6 _ rfl) rfl ⟨by decide, by decide⟩ (c_X0_pendantAt N h 7 a1 a2 (hL 6 _ rfl) (hL 7 _ rfl)) rfl rfl (Nat.le_of_ble_eq_true rfl) (fun v1 => ?_)
      refine pw_goto (tgt := 28) C dX4_pendant_24 (by decide) ?_
      exact pm_iret C hR dX4_pendant_28
set_option maxRecDepth 100000 in
set_option maxHeartbeats 4000000 in
theorem c_X4_tie {l : Launch} {w : Wd} {A : Nat → Prop} (N : Nat) (h : Hp) (a1 : Int32) (a2 : Int32) (hL : LX w) : ConI l yX4_tie cX4_tie 4 .int 3 w A [.ref (w.2.1 0), .int a1, .int a2] h ((fX4_tie N h a1 a2)) := by
  refine ConI.of (lv0 := [some (.ref (w.2.1 0)), some (.int a1), some (.int a2), none]) (by decide +kernel) (Nat.le_of_ble_eq_true rfl) rfl (fun x C hR hN => ?_)
  unfold fX4_tie
  refine pw_aload_n C dX4_tie_0 rfl rfl ?_
  refine pw_getr (q2 := 6) C (hL 0 _ rfl) rfl (k := 3) (by decide) rfl fl_X4_23 dX4_tie_1 ?_
  refine pw_iload_n C dX4_tie_4 rfl rfl ?_
  refine pw_callVt (as := [.int a1]) (rest := []) C dX4_tie_5 ml_X4_94 cw_X0_hasCord im_X0_hasCord sl_X0_hasCord (hL 6 _ rfl) rfl ⟨by decide, by decide⟩ (c_X0_hasCord h 7 a1 (hL 6 _ rfl) (hL 7 _ rfl)) rfl rfl (Nat.le_of_ble_eq_true rfl) ?_
  refine pw_if_eq (tgt := 15) C dX4_tie_8 (by decide) (fun c4 => ?_) (fun c4 => ?_)
  · refine pw_iconst (v := (-1)) C dX4_tie_15 (by decide) ?_
    exact pw_iret C hR dX4_tie_16
  · refine pw_iload_n C dX4_tie_11 rfl rfl ?_
    refine pw_if_ge (tgt := 17) C dX4_tie_12 (by decide) (fun c5 => ?_) (fun c5 => ?_)
    · refine pw_iconst (v := (-1)) C dX4_tie_15 (by decide) ?_
      exact pw_iret C hR dX4_tie_16
    · refine pw_iload_n C dX4_tie_17 rfl rfl ?_
      refine pw_aload_n C dX4_tie_18 rfl rfl ?_
      refine pw_getr (q2 := 6) C (hL 0 _ rfl) rfl (k := 3) (by decide) rfl fl_X4_23 dX4_tie_19 ?_
      refine pw_iload_n C dX4_tie_22 rfl rfl ?_
      refine pw_callVt (as := [.int a1]) (rest := [.int a2]) C dX4_tie_23 ml_X4_161 cw_X0_mostOn im_X0_mostOn sl_X0_mostOn (hL 6 _ rfl) rfl ⟨by decide, by decide⟩ (c_X0_mostOn h 7 a1 (hL 6 _ rfl) (hL 7 _ rfl)) rfl rfl (Nat.le_of_ble_eq_true rfl) ?_
      refine pw_icmp_le (tgt := 32) C dX4_tie_26 (by decide) (fun c6 => ?_) (fun c6 => ?_)
      · refine pw_bipush (v := (-2)) C dX4_tie_29 (by decide) ?_
        exact pw_iret C hR dX4_tie_31
      · refine pw_aload_n C dX4_tie_32 rfl rfl ?_
        refine pw_getr (q2 := 6) C (hL 0 _ rfl) rfl (k := 3) (by decide) rfl fl_X4_23 dX4_tie_33 ?_
        refine pw_iload_n C dX4_tie_36 rfl rfl ?_
        refine pw_iload_n C dX4_tie_37 rfl rfl ?_
        refine pw_callVp (as := [.int a1, .int a2]) (rest := []) C dX4_tie_38 ml_X4_164 cw_X0_workToTell im_X0_workToTell sl_X0_workToTell (hL 6 _ rfl) rfl ⟨by decide, by decide⟩ (c_X0_workToTell N h 7 a1 a2 (hL 6 _ rfl) (hL 7 _ rfl)) rfl rfl (Nat.le_of_ble_eq_true rfl) (fun v1 => ?_)
        refine pw_istore_n (lv2 := [some (.ref (w.2.1 0)), some (.int a1), some (.int a2), some (.int v1)]) C dX4_tie_41 rfl hN (by decide) rfl rfl ?_
        refine pw_aload_n C dX4_tie_42 rfl rfl ?_
        refine pw_getr (q2 := 8) C (hL 0 _ rfl) rfl (k := 4) (by decide) rfl fl_X4_32 dX4_tie_43 ?_
        refine pw_aload_n C dX4_tie_46 rfl rfl ?_
        refine pw_getr (q2 := 6) C (hL 0 _ rfl) rfl (k := 3) (by decide) rfl fl_X4_23 dX4_tie_47 ?_
        refine pw_getrN (q2 := 7) C (hL 6 _ rfl) rfl (k := 0) (by decide) rfl "ToldInKnots" (by decide +kernel) dX4_tie_50 ?_
        refine pw_callVvq (as := [.ref (w.2.1 7)]) (rest := []) C dX4_tie_53 ml_X4_167 cw_X3_add im_X3_add sl_X3_add (hL 8 _ rfl) rfl ⟨by decide, by decide⟩ (c_X3_add N h 8 9 1432 7 179 (hL 8 _ rfl) (hL 9 _ rfl) (hL 7 _ rfl)) rfl rfl (Nat.le_of_ble_eq_true rfl) (fun z2 => ?_)
        refine pw_aload_n C dX4_tie_56 rfl rfl ?_
        refine pw_getr (q2 := 6) C (hL 0 _ rfl) rfl (k := 3) (by decide) rfl fl_X4_23 dX4_tie_57 ?_
        refine pw_iload_n C dX4_tie_60 rfl rfl ?_
        refine pw_iload_n C dX4_tie_61 rfl rfl ?_
        refine pw_callVvq (as := [.int a1, .int a2]) (rest := []) C dX4_tie_62 ml_X4_170 cw_X0_tell im_X0_tell sl_X0_tell (hL 6 _ rfl) rfl ⟨by decide, by decide⟩ (c_X0_tell N z2.2 7 a1 a2 (hL 6 _ rfl) (hL 7 _ rfl)) rfl rfl (Nat.le_of_ble_eq_true rfl) (fun z3 => ?_)
        refine pw_iload_n C dX4_tie_65 rfl rfl ?_
        exact pw_iret C hR dX4_tie_66
set_option maxRecDepth 100000 in
set_option maxHeartbeats 4000000 in
theorem c_X4_more {l : Launch} {w : Wd} {A : Nat → Prop} (N : Nat) (h : Hp) (a1 : Int32) (a2 : Int32) (hL : LX w) : ConI l yX4_more cX4_more 4 .int 3 w A [.ref (w.2.1 0), .int a1, .int a2] h ((fX4_more N h a1 a2)) := by
  refine ConI.of (lv0 := [some (.ref (w.2.1 0)), some (.int a1), some (.int a2), none]) (by decide +kernel) (Nat.le_of_ble_eq_true rfl) rfl (fun x C hR hN => ?_)
  unfold fX4_more
  refine pw_aload_n C dX4_more_0 rfl rfl ?_
  refine pw_getr (q2 := 6) C (hL 0 _ rfl) rfl (k := 3) (by decide) rfl fl_X4_23 dX4_more_1 ?_
  refine pw_iload_n C dX4_more_4 rfl rfl ?_
  refine pw_callVt (as := [.int a1]) (rest := []) C dX4_more_5 ml_X4_94 cw_X0_hasCord im_X0_hasCord sl_X0_hasCord (hL 6 _ rfl) rfl ⟨by decide, by decide⟩ (c_X0_hasCord h 7 a1 (hL 6 _ rfl) (hL 7 _ rfl)) rfl rfl (Nat.le_of_ble_eq_true rfl) ?_
  refine pw_if_eq (tgt := 25) C dX4_more_8 (by decide) (fun c4 => ?_) (fun c4 => ?_)
  · refine pw_iconst (v := (-1)) C dX4_more_25 (by decide) ?_
    exact pw_iret C hR dX4_more_26
  · refine pw_iload_n C dX4_more_11 rfl rfl ?_
    refine pw_sipush (v := (-9999)) C dX4_more_12 (by decide) ?_
    refine pw_icmp_lt (tgt := 25) C dX4_more_15 (by decide) (fun c5 => ?_) (fun c5 => ?_)
    · refine pw_iconst (v := (-1)) C dX4_more_25 (by decide) ?_
      exact pw_iret C hR dX4_more_26
    · refine pw_iload_n C dX4_more_18 rfl rfl ?_
      refine pw_sipush (v := 9999) C dX4_more_19 (by decide) ?_
      refine pw_icmp_le (tgt := 27) C dX4_more_22 (by decide) (fun c6 => ?_) (fun c6 => ?_)
      · refine pw_iconst (v := (-1)) C dX4_more_25 (by decide) ?_
        exact pw_iret C hR dX4_more_26
      · refine pw_aload_n C dX4_more_27 rfl rfl ?_
        refine pw_getr (q2 := 6) C (hL 0 _ rfl) rfl (k := 3) (by decide) rfl fl_X4_23 dX4_more_28 ?_
        refine pw_iload_n C dX4_more_31 rfl rfl ?_
        refine pw_callVp (as := [.int a1]) (rest := []) C dX4_more_32 ml_X4_120 cw_X0_valueOf im_X0_valueOf sl_X0_valueOf (hL 6 _ rfl) rfl ⟨by decide, by decide⟩ (c_X0_valueOf N h 7 a1 (hL 6 _ rfl) (hL 7 _ rfl)) rfl rfl (Nat.le_of_ble_eq_true rfl) (fun v1 => ?_)
        refine pw_istore_n (lv2 := [some (.ref (w.2.1 0)), some (.int a1), some (.int a2), some (.int v1)]) C dX4_more_35 rfl hN (by decide) rfl rfl ?_
        refine pw_iload_n C dX4_more_36 rfl rfl ?_
        refine pw_bipush (v := (-4)) C dX4_more_37 (by decide) ?_
        refine pw_icmp_eq (tgt := 62) C dX4_more_39 (by decide) (fun c7 => ?_) (fun c7 => ?_)
        · refine pw_bipush (v := (-2)) C dX4_more_62 (by decide) ?_
          exact pw_iret C hR dX4_more_64
        · refine pw_iload_n C dX4_more_42 rfl rfl ?_
          refine pw_iload_n C dX4_more_43 rfl rfl ?_
          refine pw_iadd C dX4_more_44 ?_
          refine pw_if_lt (tgt := 62) C dX4_more_45 (by decide) (fun c8 => ?_) (fun c8 => ?_)
          · refine pw_bipush (v := (-2)) C dX4_more_62 (by decide) ?_
            exact pw_iret C hR dX4_more_64
          · refine pw_iload_n C dX4_more_48 rfl rfl ?_
            refine pw_iload_n C dX4_more_49 rfl rfl ?_
            refine pw_iadd C dX4_more_50 ?_
            refine pw_aload_n C dX4_more_51 rfl rfl ?_
            refine pw_getr (q2 := 6) C (hL 0 _ rfl) rfl (k := 3) (by decide) rfl fl_X4_23 dX4_more_52 ?_
            refine pw_iload_n C dX4_more_55 rfl rfl ?_
            refine pw_callVt (as := [.int a1]) (rest := [.int (v1 + a2)]) C dX4_more_56 ml_X4_161 cw_X0_mostOn im_X0_mostOn sl_X0_mostOn (hL 6 _ rfl) rfl ⟨by decide, by decide⟩ (c_X0_mostOn h 7 a1 (hL 6 _ rfl) (hL 7 _ rfl)) rfl rfl (Nat.le_of_ble_eq_true rfl) ?_
            refine pw_icmp_le (tgt := 65) C dX4_more_59 (by decide) (fun c9 => ?_) (fun c9 => ?_)
            · refine pw_bipush (v := (-2)) C dX4_more_62 (by decide) ?_
              exact pw_iret C hR dX4_more_64
            · refine pw_aload_n C dX4_more_65 rfl rfl ?_
              refine pw_getr (q2 := 8) C (hL 0 _ rfl) rfl (k := 4) (by decide) rfl fl_X4_32 dX4_more_66 ?_
              refine pw_aload_n C dX4_more_69 rfl rfl ?_
              refine pw_getr (q2 := 6) C (hL 0 _ rfl) rfl (k := 3) (by decide) rfl fl_X4_23 dX4_more_70 ?_
              refine pw_getrN (q2 := 7) C (hL 6 _ rfl) rfl (k := 0) (by decide) rfl "ToldInKnots" (by decide +kernel) dX4_more_73 ?_
              refine pw_callVvq (as := [.ref (w.2.1 7)]) (rest := []) C dX4_more_76 ml_X4_167 cw_X3_add im_X3_add sl_X3_add (hL 8 _ rfl) rfl ⟨by decide, by decide⟩ (c_X3_add N h 8 9 1432 7 179 (hL 8 _ rfl) (hL 9 _ rfl) (hL 7 _ rfl)) rfl rfl (Nat.le_of_ble_eq_true rfl) (fun z2 => ?_)
              refine pw_aload_n C dX4_more_79 rfl rfl ?_
              refine pw_getr (q2 := 6) C (hL 0 _ rfl) rfl (k := 3) (by decide) rfl fl_X4_23 dX4_more_80 ?_
              refine pw_iload_n C dX4_more_83 rfl rfl ?_
              refine pw_iload_n C dX4_more_84 rfl rfl ?_
              refine pw_iload_n C dX4_more_85 rfl rfl ?_
              refine pw_iadd C dX4_more_86 ?_
              refine pw_callVvq (as := [.int a1, .int (v1 + a2)]) (rest := []) C dX4_more_87 ml_X4_170 cw_X0_tell im_X0_tell sl_X0_tell (hL 6 _ rfl) rfl ⟨by decide, by decide⟩ (c_X0_tell N z2.2 7 a1 (v1 + a2) (hL 6 _ rfl) (hL 7 _ rfl)) rfl rfl (Nat.le_of_ble_eq_true rfl) (fun z3 => ?_)
              refine pw_iload_n C dX4_more_90 rfl rfl ?_
              refine pw_iload_n C dX4_more_91 rfl rfl ?_
              refine pw_iadd C dX4_more_92 ?_
              exact pw_iret C hR dX4_more_93
set_option maxRecDepth 100000 in
set_option maxHeartbeats 4000000 in
theorem c_X4_dye {l : Launch} {w : Wd} {A : Nat → Prop} (N : Nat) (h : Hp) (a1 : Int32) (a2 : Int32) (hL : LX w) : ConI l yX4_dye cX4_dye 4 .int 3 w A [.ref (w.2.1 0), .int a1, .int a2] h ((fX4_dye N h a1 a2)) := by
  refine ConI.of (lv0 := [some (.ref (w.2.1 0)), some (.int a1), some (.int a2), none]) (by decide +kernel) (Nat.le_of_ble_eq_true rfl) rfl (fun x C hR hN => ?_)
  unfold fX4_dye
  refine pw_aload_n C dX4_dye_0 rfl rfl ?_
  refine pw_getr (q2 := 6) C (hL 0 _ rfl) rfl (k := 3) (by decide) rfl fl_X4_23 dX4_dye_1 ?_
  refine pw_iload_n C dX4_dye_4 rfl rfl ?_
  refine pw_callVt (as := [.int a1]) (rest := []) C dX4_dye_5 ml_X4_94 cw_X0_hasCord im_X0_hasCord sl_X0_hasCord (hL 6 _ rfl) rfl ⟨by decide, by decide⟩ (c_X0_hasCord h 7 a1 (hL 6 _ rfl) (hL 7 _ rfl)) rfl rfl (Nat.le_of_ble_eq_true rfl) ?_
  refine pw_if_eq (tgt := 18) C dX4_dye_8 (by decide) (fun c3 => ?_) (fun c3 => ?_)
  · refine pw_iconst (v := (-1)) C dX4_dye_18 (by decide) ?_
    exact pw_iret C hR dX4_dye_19
  · refine pw_iload_n C dX4_dye_11 rfl rfl ?_
    refine pw_callSt (as := [.int a2]) (rest := []) C dX4_dye_12 ml_X4_181 cw_X4_isColour st_X4_isColour ⟨by decide, by decide⟩ (c_X4_isColour h a2) rfl rfl (Nat.le_of_ble_eq_true rfl) ?_
    refine pw_if_ne (tgt := 20) C dX4_dye_15 (by decide) (fun c4 => ?_) (fun c4 => ?_)
    · refine pw_iconst (v := (-1)) C dX4_dye_18 (by decide) ?_
      exact pw_iret C hR dX4_dye_19
    · refine pw_aload_n C dX4_dye_20 rfl rfl ?_
      refine pw_getr (q2 := 6) C (hL 0 _ rfl) rfl (k := 3) (by decide) rfl fl_X4_23 dX4_dye_21 ?_
      refine pw_iload_n C dX4_dye_24 rfl rfl ?_
      refine pw_callVt (as := [.int a1]) (rest := []) C dX4_dye_25 ml_X4_98 cw_X0_colourOf im_X0_colourOf sl_X0_colourOf (hL 6 _ rfl) rfl ⟨by decide, by decide⟩ (c_X0_colourOf h 7 a1 (hL 6 _ rfl) (hL 7 _ rfl)) rfl rfl (Nat.le_of_ble_eq_true rfl) ?_
      refine pw_istore_n (lv2 := [some (.ref (w.2.1 0)), some (.int a1), some (.int a2), some (.int (fX0_colourOf h 7 a1))]) C dX4_dye_28 rfl hN (by decide) rfl rfl ?_
      refine pw_aload_n C dX4_dye_29 rfl rfl ?_
      refine pw_getr (q2 := 8) C (hL 0 _ rfl) rfl (k := 4) (by decide) rfl fl_X4_32 dX4_dye_30 ?_
      refine pw_aload_n C dX4_dye_33 rfl rfl ?_
      refine pw_getr (q2 := 6) C (hL 0 _ rfl) rfl (k := 3) (by decide) rfl fl_X4_23 dX4_dye_34 ?_
      refine pw_getrN (q2 := 7) C (hL 6 _ rfl) rfl (k := 0) (by decide) rfl "ToldInKnots" (by decide +kernel) dX4_dye_37 ?_
      refine pw_callVvq (as := [.ref (w.2.1 7)]) (rest := []) C dX4_dye_40 ml_X4_167 cw_X3_add im_X3_add sl_X3_add (hL 8 _ rfl) rfl ⟨by decide, by decide⟩ (c_X3_add N h 8 9 1432 7 179 (hL 8 _ rfl) (hL 9 _ rfl) (hL 7 _ rfl)) rfl rfl (Nat.le_of_ble_eq_true rfl) (fun z1 => ?_)
      refine pw_aload_n C dX4_dye_43 rfl rfl ?_
      refine pw_getr (q2 := 6) C (hL 0 _ rfl) rfl (k := 3) (by decide) rfl fl_X4_23 dX4_dye_44 ?_
      refine pw_iload_n C dX4_dye_47 rfl rfl ?_
      refine pw_iload_n C dX4_dye_48 rfl rfl ?_
      refine pw_callVvq (as := [.int a1, .int a2]) (rest := []) C dX4_dye_49 ml_X4_184 cw_X0_setColour im_X0_setColour sl_X0_setColour (hL 6 _ rfl) rfl ⟨by decide, by decide⟩ (c_X0_setColour z1.2 7 a1 a2 (hL 6 _ rfl) (hL 7 _ rfl)) rfl rfl (Nat.le_of_ble_eq_true rfl) (fun z2 => ?_)
      refine pw_iload_n C dX4_dye_52 rfl rfl ?_
      exact pw_iret C hR dX4_dye_53
set_option maxRecDepth 100000 in
set_option maxHeartbeats 4000000 in
theorem c_X4_undo {l : Launch} {w : Wd} {A : Nat → Prop} (h : Hp) (hL : LX w) : ConI l yX4_undo cX4_undo 1 .int 3 w A [.ref (w.2.1 0)] h ((fX4_undo h)) := by
  refine ConI.of (lv0 := [some (.ref (w.2.1 0))]) (by decide +kernel) (Nat.le_of_ble_eq_true rfl) rfl (fun x C hR hN => ?_)
  unfold fX4_undo
  refine pw_aload_n C dX4_undo_0 rfl rfl ?_
  refine pw_getr (q2 := 8) C (hL 0 _ rfl) rfl (k := 4) (by decide) rfl fl_X4_32 dX4_undo_1 ?_
  refine pw_getiN C (hL 8 _ rfl) rfl (k := 2) (by decide) rfl "ToldInKnots" (by decide +kernel) dX4_undo_4 ?_
  refine pw_if_ne (tgt := 13) C dX4_undo_7 (by decide) (fun c2 => ?_) (fun c2 => ?_)
  · refine pw_bipush (v := (-2)) C dX4_undo_10 (by decide) ?_
    exact pw_iret C hR dX4_undo_12
  · refine pw_aload_n C dX4_undo_13 rfl rfl ?_
    refine pw_getr (q2 := 8) C (hL 0 _ rfl) rfl (k := 4) (by decide) rfl fl_X4_32 dX4_undo_14 ?_
    refine pw_aload_n C dX4_undo_17 rfl rfl ?_
    refine pw_getr (q2 := 6) C (hL 0 _ rfl) rfl (k := 3) (by decide) rfl fl_X4_23 dX4_undo_18 ?_
    refine pw_getrN (q2 := 7) C (hL 6 _ rfl) rfl (k := 0) (by decide) rfl "ToldInKnots" (by decide +kernel) dX4_undo_21 ?_
    refine pw_callVvq (as := [.ref (w.2.1 7)]) (rest := []) C dX4_undo_24 ml_X4_196 cw_X3_takeInto im_X3_takeInto sl_X3_takeInto (hL 8 _ rfl) rfl ⟨by decide, by decide⟩ (c_X3_takeInto h 8 9 1432 7 179 (hL 8 _ rfl) (hL 9 _ rfl) (hL 7 _ rfl)) rfl rfl (Nat.le_of_ble_eq_true rfl) (fun z1 => ?_)
    refine pw_aload_n C dX4_undo_27 rfl rfl ?_
    refine pw_getr (q2 := 8) C (hL 0 _ rfl) rfl (k := 4) (by decide) rfl fl_X4_32 dX4_undo_28 ?_
    refine pw_getiN C (hL 8 _ rfl) rfl (k := 2) (by decide) rfl "ToldInKnots" (by decide +kernel) dX4_undo_31 ?_
    exact pw_iret C hR dX4_undo_34
set_option maxRecDepth 100000 in
set_option maxHeartbeats 4000000 in
theorem kX4_closed_J124 {w : Wd} {x : Cz} (C : Ok w x cX4_closed RX4 3) (hR : OkI w x .int) (hN : xN x = 9) (N : Nat) (h : Hp) (a1 : Int32) (a2 : Int32) (a3 : Int32) (hL : LX w) (k45 : Int32 → Int32 → Int32 → Int32 → Option Int32) (hk45 : ∀ (u4 : Int32) (u5 : Int32) (u6 : Int32) (u7 : Int32), PW w x 45 [some (.ref (w.2.1 0)), some (.int a1), some (.int a2), some (.int a3), some (.int u4), some (.int u5), some (.int u6), some (.int u7), none] [] h (Option.map (fun v => (v, h)) (k45 u4 u5 u6 u7))) : ∀ (u4 : Int32) (u5 : Int32) (u7 : Int32) (u8 : Int32) (t0 : Int32), PW w x 124 [some (.ref (w.2.1 0)), some (.int a1), some (.int a2), some (.int a3), some (.int u4), some (.int u5), none, some (.int u7), some (.int u8)] [.int t0] h (Option.map (fun v => (v, h)) (fX4_closed_J124 N h a1 a2 a3 k45 u4 u5 u7 u8 t0)) := by
  intro u4 u5 u7 u8 t0
  unfold fX4_closed_J124
  refine pw_istore (lv2 := [some (.ref (w.2.1 0)), some (.int a1), some (.int a2), some (.int a3), some (.int u4), some (.int u5), some (.int t0), some (.int u7), some (.int u8)]) C dX4_closed_124 hN (by decide) rfl rfl ?_
  refine pw_iload C dX4_closed_126 rfl ?_
  refine pw_iload C dX4_closed_128 rfl ?_
  refine pw_callSt (as := [.int u8]) (rest := [.int u4]) C dX4_closed_130 ml_X4_220 cw_X4_countOf st_X4_countOf ⟨by decide, by decide⟩ (c_X4_countOf h u8) rfl rfl (Nat.le_of_ble_eq_true rfl) ?_
  refine pw_iadd C dX4_closed_133 ?_
  refine pm_name (fun v3 => ?_)
  refine pw_istore (lv2 := [some (.ref (w.2.1 0)), some (.int a1), some (.int a2), some (.int a3), some (.int v3), some (.int u5), some (.int t0), some (.int u7), some (.int u8)]) C dX4_closed_134 hN (by decide) rfl rfl ?_
  refine pw_iinc (lv2 := [some (.ref (w.2.1 0)), some (.int a1), some (.int a2), some (.int a3), some (.int v3), some (.int u5), some (.int t0), some (.int (u7 + 1)), some (.int u8)]) C dX4_closed_136 rfl rfl hN (by decide) rfl rfl ?_
  refine pw_goto (tgt := 45) C dX4_closed_139 (by decide) ?_
  exact pw_lv (hk45 v3 u5 t0 (u7 + 1)) ⟨rfl, rfl, rfl, rfl, rfl, rfl, rfl, rfl, trivial⟩
set_option maxRecDepth 100000 in
set_option maxHeartbeats 4000000 in
theorem kX4_closed_J159 {w : Wd} {x : Cz} (C : Ok w x cX4_closed RX4 3) (hR : OkI w x .int) (hN : xN x = 9) (N : Nat) (h : Hp) (a1 : Int32) (a2 : Int32) (a3 : Int32) (hL : LX w)  : ∀ (u4 : Int32) (t0 : Int32), PW w x 159 [none, none, none, some (.int a3), some (.int u4), none, none, none, none] [.int t0] h (Option.map (fun v => (v, h)) (fX4_closed_J159 N h a1 a2 a3 u4 t0)) := by
  intro u4 t0
  unfold fX4_closed_J159
  refine pw_istore (lv2 := [none, none, none, some (.int a3), some (.int u4), none, none, some (.int t0), none]) C dX4_closed_159 hN (by decide) rfl rfl ?_
  refine pw_iload_n C dX4_closed_161 rfl rfl ?_
  refine pm_if_ne (tgt := 168) C dX4_closed_162 (by decide) (fun c4 => ?_) (fun c4 => ?_)
  · refine pw_iload C dX4_closed_165 rfl ?_
    exact pm_iret C hR dX4_closed_167
  · refine pw_iload C dX4_closed_168 rfl ?_
    refine pm_if_ne (tgt := 178) C dX4_closed_170 (by decide) (fun c5 => ?_) (fun c5 => ?_)
    · refine pw_bipush (v := (-4)) C dX4_closed_173 (by decide) ?_
      refine pw_goto (tgt := 180) C dX4_closed_175 (by decide) ?_
      exact pm_iret C hR dX4_closed_180
    · refine pw_iload C dX4_closed_178 rfl ?_
      exact pm_iret C hR dX4_closed_180
set_option maxRecDepth 100000 in
set_option maxHeartbeats 4000000 in
theorem kX4_closed_L45 {w : Wd} {x : Cz} (C : Ok w x cX4_closed RX4 3) (hR : OkI w x .int) (hN : xN x = 9) (N : Nat) (h : Hp) (a1 : Int32) (a2 : Int32) (a3 : Int32) (hL : LX w)  : ∀ (n : Nat) (u4 : Int32) (u5 : Int32) (u6 : Int32) (u7 : Int32), PW w x 45 [some (.ref (w.2.1 0)), some (.int a1), some (.int a2), some (.int a3), some (.int u4), some (.int u5), some (.int u6), some (.int u7), none] [] h (Option.map (fun v => (v, h)) (fX4_closed_L45 N h a1 a2 a3 n u4 u5 u6 u7)) := by
  intro n
  induction n with
  | zero => intro u4 u5 u6 u7; rw [fX4_closed_L45]; exact pw_none
  | succ n ih =>
    intro u4 u5 u6 u7
    rw [fX4_closed_L45]
    refine pw_iload C dX4_closed_45 rfl ?_
    refine pw_aload_n C dX4_closed_47 rfl rfl ?_
    refine pw_getr (q2 := 6) C (hL 0 _ rfl) rfl (k := 3) (by decide) rfl fl_X4_23 dX4_closed_48 ?_
    refine pw_iload_n C dX4_closed_51 rfl rfl ?_
    refine pw_callVt (as := [.int a1]) (rest := [.int u7]) C dX4_closed_52 ml_X4_102 cw_X0_sizeOf im_X0_sizeOf sl_X0_sizeOf (hL 6 _ rfl) rfl ⟨by decide, by decide⟩ (c_X0_sizeOf h 7 a1 (hL 6 _ rfl) (hL 7 _ rfl)) rfl rfl (Nat.le_of_ble_eq_true rfl) ?_
    refine pm_icmp_ge (tgt := 142) C dX4_closed_55 (by decide) (fun c6 => ?_) (fun c6 => ?_)
    · refine pw_aload_n C dX4_closed_58 rfl rfl ?_
      refine pw_getr (q2 := 6) C (hL 0 _ rfl) rfl (k := 3) (by decide) rfl fl_X4_23 dX4_closed_59 ?_
      refine pw_iload_n C dX4_closed_62 rfl rfl ?_
      refine pw_iload C dX4_closed_63 rfl ?_
      refine pw_callVt (as := [.int a1, .int u7]) (rest := []) C dX4_closed_65 ml_X4_136 cw_X0_codeOf im_X0_codeOf sl_X0_codeOf (hL 6 _ rfl) rfl ⟨by decide, by decide⟩ (c_X0_codeOf h 7 a1 u7 (hL 6 _ rfl) (hL 7 _ rfl)) rfl rfl (Nat.le_of_ble_eq_true rfl) ?_
      refine pw_istore (lv2 := [some (.ref (w.2.1 0)), some (.int a1), some (.int a2), some (.int a3), some (.int u4), some (.int u5), some (.int u6), some (.int u7), some (.int (fX0_codeOf h 7 a1 u7))]) C dX4_closed_68 hN (by decide) rfl rfl ?_
      refine pw_iload C dX4_closed_70 rfl ?_
      refine pw_callSt (as := [.int (fX0_codeOf h 7 a1 u7)]) (rest := []) C dX4_closed_72 ml_X4_217 cw_X4_kindOf st_X4_kindOf ⟨by decide, by decide⟩ (c_X4_kindOf h (fX0_codeOf h 7 a1 u7)) rfl rfl (Nat.le_of_ble_eq_true rfl) ?_
      refine pw_iconst (v := 1) C dX4_closed_75 (by decide) ?_
      refine pm_icmp_ne (tgt := 101) C dX4_closed_76 (by decide) (fun c7 => ?_) (fun c7 => ?_)
      · refine pw_iinc (lv2 := [some (.ref (w.2.1 0)), some (.int a1), some (.int a2), some (.int a3), some (.int u4), some (.int (u5 + 1)), some (.int u6), some (.int u7), some (.int (fX0_codeOf h 7 a1 u7))]) C dX4_closed_79 rfl rfl hN (by decide) rfl rfl ?_
        refine pw_iload C dX4_closed_82 rfl ?_
        refine pw_iload C dX4_closed_84 rfl ?_
        refine pw_callSt (as := [.int (fX0_codeOf h 7 a1 u7)]) (rest := [.int u4]) C dX4_closed_86 ml_X4_220 cw_X4_countOf st_X4_countOf ⟨by decide, by decide⟩ (c_X4_countOf h (fX0_codeOf h 7 a1 u7)) rfl rfl (Nat.le_of_ble_eq_true rfl) ?_
        refine pw_iload C dX4_closed_89 rfl ?_
        refine pw_callSt (as := [.int (u5 + 1)]) (rest := [.int (fX4_countOf h (fX0_codeOf h 7 a1 u7)), .int u4]) C dX4_closed_91 ml_X4_223 cw_X4_tens st_X4_tens ⟨by decide, by decide⟩ (c_X4_tens h (u5 + 1)) rfl rfl (Nat.le_of_ble_eq_true rfl) ?_
        refine pw_imul C dX4_closed_94 ?_
        refine pw_iadd C dX4_closed_95 ?_
        refine pm_name (fun v1 => ?_)
        refine pw_istore (lv2 := [some (.ref (w.2.1 0)), some (.int a1), some (.int a2), some (.int a3), some (.int v1), some (.int (u5 + 1)), some (.int u6), some (.int u7), some (.int (fX0_codeOf h 7 a1 u7))]) C dX4_closed_96 hN (by decide) rfl rfl ?_
        refine pw_goto (tgt := 136) C dX4_closed_98 (by decide) ?_
        refine pw_iinc (lv2 := [some (.ref (w.2.1 0)), some (.int a1), some (.int a2), some (.int a3), some (.int v1), some (.int (u5 + 1)), some (.int u6), some (.int (u7 + 1)), some (.int (fX0_codeOf h 7 a1 u7))]) C dX4_closed_136 rfl rfl hN (by decide) rfl rfl ?_
        refine pw_goto (tgt := 45) C dX4_closed_139 (by decide) ?_
        exact pw_lv (ih v1 (u5 + 1) u6 (u7 + 1)) ⟨rfl, rfl, rfl, rfl, rfl, rfl, rfl, rfl, trivial⟩
      · refine pw_iload C dX4_closed_101 rfl ?_
        refine pw_callSt (as := [.int (fX0_codeOf h 7 a1 u7)]) (rest := []) C dX4_closed_103 ml_X4_217 cw_X4_kindOf st_X4_kindOf ⟨by decide, by decide⟩ (c_X4_kindOf h (fX0_codeOf h 7 a1 u7)) rfl rfl (Nat.le_of_ble_eq_true rfl) ?_
        refine pm_if_eq (tgt := 136) C dX4_closed_106 (by decide) (fun c8 => ?_) (fun c8 => ?_)
        · refine pw_iinc (lv2 := [some (.ref (w.2.1 0)), some (.int a1), some (.int a2), some (.int a3), some (.int u4), some (.int u5), some (.int u6), some (.int (u7 + 1)), some (.int (fX0_codeOf h 7 a1 u7))]) C dX4_closed_136 rfl rfl hN (by decide) rfl rfl ?_
          refine pw_goto (tgt := 45) C dX4_closed_139 (by decide) ?_
          exact pw_lv (ih u4 u5 u6 (u7 + 1)) ⟨rfl, rfl, rfl, rfl, rfl, rfl, rfl, rfl, trivial⟩
        · refine pw_iload C dX4_closed_109 rfl ?_
          refine PW.eq (apply_ite (fun z_ => Option.map (fun v => (v, h)) (fX4_closed_J124 N h a1 a2 a3 (fX4_closed_L45 N h a1 a2 a3 n) u4 u5 u7 (fX0_codeOf h 7 a1 u7) z_)) _ _ _) ?_
          refine pw_if_eq (tgt := 123) C dX4_closed_111 (by decide) (fun c9 => ?_) (fun c9 => ?_)
          · refine pw_iconst (v := 0) C dX4_closed_123 (by decide) ?_
            exact pw_lv (kX4_closed_J124 C hR hN N h a1 a2 a3 hL (fX4_closed_L45 N h a1 a2 a3 n) ih u4 u5 u7 (fX0_codeOf h 7 a1 u7) 0) ⟨rfl, rfl, rfl, rfl, rfl, rfl, rfl, rfl, trivial⟩
          · refine pw_iload C dX4_closed_114 rfl ?_
            refine PW.eq (apply_ite (fun z_ => Option.map (fun v => (v, h)) (fX4_closed_J124 N h a1 a2 a3 (fX4_closed_L45 N h a1 a2 a3 n) u4 u5 u7 (fX0_codeOf h 7 a1 u7) z_)) _ _ _) ?_
            refine pw_if_ne (tgt := 123) C dX4_closed_116 (by decide) (fun c10 => ?_) (fun c10 => ?_)
            · refine pw_iconst (v := 1) C dX4_closed_119 (by decide) ?_
              refine pw_goto (tgt := 124) C dX4_closed_120 (by decide) ?_
              exact pw_lv (kX4_closed_J124 C hR hN N h a1 a2 a3 hL (fX4_closed_L45 N h a1 a2 a3 n) ih u4 u5 u7 (fX0_codeOf h 7 a1 u7) 1) ⟨rfl, rfl, rfl, rfl, rfl, rfl, rfl, rfl, trivial⟩
            · refine pw_iconst (v := 0) C dX4_closed_123 (by decide) ?_
              exact pw_lv (kX4_closed_J124 C hR hN N h a1 a2 a3 hL (fX4_closed_L45 N h a1 a2 a3 n) ih u4 u5 u7 (fX0_codeOf h 7 a1 u7) 0) ⟨rfl, rfl, rfl, rfl, rfl, rfl, rfl, rfl, trivial⟩
    · refine pw_iload C dX4_closed_142 rfl ?_
      refine pm_if_eq (tgt := 158) C dX4_closed_144 (by decide) (fun c11 => ?_) (fun c11 => ?_)
      · refine pw_iconst (v := 0) C dX4_closed_158 (by decide) ?_
        exact pw_lv (kX4_closed_J159 C hR hN N h a1 a2 a3 hL u4 0) ⟨rfl, rfl, trivial⟩
      · refine pw_iload_n C dX4_closed_147 rfl rfl ?_
        refine pw_iconst (v := 1) C dX4_closed_148 (by decide) ?_
        refine pw_isub C dX4_closed_149 ?_
        refine pw_iload C dX4_closed_150 rfl ?_
        refine pm_callSp (as := [.int (a2 - 1), .int u5]) (rest := []) C dX4_closed_152 ml_X4_226 cw_X4_choices st_X4_choices ⟨by decide, by decide⟩ (c_X4_choices N h (a2 - 1) u5) rfl rfl (Nat.le_of_ble_eq_true rfl) (fun v2 => ?_)
        refine pw_goto (tgt := 159) C dX4_closed_155 (by decide) ?_
        exact pw_lv (kX4_closed_J159 C hR hN N h a1 a2 a3 hL u4 v2) ⟨rfl, rfl, trivial⟩
set_option maxRecDepth 100000 in
set_option maxHeartbeats 4000000 in
theorem c_X4_closed {l : Launch} {w : Wd} {A : Nat → Prop} (N : Nat) (h : Hp) (a1 : Int32) (a2 : Int32) (a3 : Int32) (hL : LX w) : ConI l yX4_closed cX4_closed 9 .int 3 w A [.ref (w.2.1 0), .int a1, .int a2, .int a3] h (Option.map (fun v => (v, h)) (fX4_closed N h a1 a2 a3)) := by
  refine ConI.of (lv0 := [some (.ref (w.2.1 0)), some (.int a1), some (.int a2), some (.int a3), none, none, none, none, none]) (by decide +kernel) (Nat.le_of_ble_eq_true rfl) rfl (fun x C hR hN => ?_)
  unfold fX4_closed
  refine pw_aload_n C dX4_closed_0 rfl rfl ?_
  refine pw_getr (q2 := 6) C (hL 0 _ rfl) rfl (k := 3) (by decide) rfl fl_X4_23 dX4_closed_1 ?_
  refine pw_iload_n C dX4_closed_4 rfl rfl ?_
  refine pw_callVt (as := [.int a1]) (rest := []) C dX4_closed_5 ml_X4_94 cw_X0_hasCord im_X0_hasCord sl_X0_hasCord (hL 6 _ rfl) rfl ⟨by decide, by decide⟩ (c_X0_hasCord h 7 a1 (hL 6 _ rfl) (hL 7 _ rfl)) rfl rfl (Nat.le_of_ble_eq_true rfl) ?_
  refine pm_if_eq (tgt := 31) C dX4_closed_8 (by decide) (fun c12 => ?_) (fun c12 => ?_)
  · refine pw_iconst (v := (-1)) C dX4_closed_31 (by decide) ?_
    exact pm_iret C hR dX4_closed_32
  · refine pw_iload_n C dX4_closed_11 rfl rfl ?_
    refine pw_iconst (v := 1) C dX4_closed_12 (by decide) ?_
    refine pm_icmp_lt (tgt := 31) C dX4_closed_13 (by decide) (fun c13 => ?_) (fun c13 => ?_)
    · refine pw_iconst (v := (-1)) C dX4_closed_31 (by decide) ?_
      exact pm_iret C hR dX4_closed_32
    · refine pw_iload_n C dX4_closed_16 rfl rfl ?_
      refine pw_bipush (v := 6) C dX4_closed_17 (by decide) ?_
      refine pm_icmp_gt (tgt := 31) C dX4_closed_19 (by decide) (fun c14 => ?_) (fun c14 => ?_)
      · refine pw_iconst (v := (-1)) C dX4_closed_31 (by decide) ?_
        exact pm_iret C hR dX4_closed_32
      · refine pw_iload_n C dX4_closed_22 rfl rfl ?_
        refine pm_if_lt (tgt := 31) C dX4_closed_23 (by decide) (fun c15 => ?_) (fun c15 => ?_)
        · refine pw_iconst (v := (-1)) C dX4_closed_31 (by decide) ?_
          exact pm_iret C hR dX4_closed_32
        · refine pw_iload_n C dX4_closed_26 rfl rfl ?_
          refine pw_iconst (v := 1) C dX4_closed_27 (by decide) ?_
          refine pm_icmp_le (tgt := 33) C dX4_closed_28 (by decide) (fun c16 => ?_) (fun c16 => ?_)
          · refine pw_iconst (v := (-1)) C dX4_closed_31 (by decide) ?_
            exact pm_iret C hR dX4_closed_32
          · refine pw_iconst (v := 0) C dX4_closed_33 (by decide) ?_
            refine pw_istore (lv2 := [some (.ref (w.2.1 0)), some (.int a1), some (.int a2), some (.int a3), some (.int 0), none, none, none, none]) C dX4_closed_34 hN (by decide) rfl rfl ?_
            refine pw_iconst (v := 0) C dX4_closed_36 (by decide) ?_
            refine pw_istore (lv2 := [some (.ref (w.2.1 0)), some (.int a1), some (.int a2), some (.int a3), some (.int 0), some (.int 0), none, none, none]) C dX4_closed_37 hN (by decide) rfl rfl ?_
            refine pw_iconst (v := 1) C dX4_closed_39 (by decide) ?_
            refine pw_istore (lv2 := [some (.ref (w.2.1 0)), some (.int a1), some (.int a2), some (.int a3), some (.int 0), some (.int 0), some (.int 1), none, none]) C dX4_closed_40 hN (by decide) rfl rfl ?_
            refine pw_iconst (v := 0) C dX4_closed_42 (by decide) ?_
            refine pw_istore (lv2 := [some (.ref (w.2.1 0)), some (.int a1), some (.int a2), some (.int a3), some (.int 0), some (.int 0), some (.int 1), some (.int 0), none]) C dX4_closed_43 hN (by decide) rfl rfl ?_
            exact kX4_closed_L45 C hR hN N h a1 a2 a3 hL N 0 0 1 0
set_option maxRecDepth 100000 in
set_option maxHeartbeats 4000000 in
theorem kX4_order_L68 {w : Wd} {x : Cz} (C : Ok w x cX4_order RX4 3) (hR : OkI w x .int) (hN : xN x = 8) (N : Nat) (a1 : Int32) (hL : LX w) (k27 : Int32 → Int32 → Int32 → Hp → Option Rs) (hk27 : ∀ (u2 : Int32) (u3 : Int32) (u4 : Int32) (h : Hp), PW w x 27 [some (.ref (w.2.1 0)), some (.int a1), some (.int u2), some (.int u3), some (.int u4), none, none, none] [] h ((k27 u2 u3 u4 h))) : ∀ (n : Nat) (u2 : Int32) (u3 : Int32) (u4 : Int32) (u5 : Int32) (u6 : Int32) (u7 : Int32) (h : Hp), PW w x 68 [some (.ref (w.2.1 0)), some (.int a1), some (.int u2), some (.int u3), some (.int u4), some (.int u5), some (.int u6), some (.int u7)] [] h ((fX4_order_L68 N a1 k27 n u2 u3 u4 u5 u6 u7 h)) := by
  intro n
  induction n with
  | zero => intro u2 u3 u4 u5 u6 u7 h; rw [fX4_order_L68]; exact pw_none
  | succ n ih =>
    intro u2 u3 u4 u5 u6 u7 h
    rw [fX4_order_L68]
    refine pw_iload C dX4_order_68 rfl ?_
    refine pw_iload C dX4_order_70 rfl ?_
    refine pw_icmp_ge (tgt := 118) C dX4_order_72 (by decide) (fun c8 => ?_) (fun c8 => ?_)
    · refine pw_aload_n C dX4_order_75 rfl rfl ?_
      refine pw_getr (q2 := 20) C (hL 0 _ rfl) rfl (k := 9) (by decide) rfl fl_X4_53 dX4_order_76 ?_
      refine pw_iload C dX4_order_79 rfl ?_
      refine pw_callSt (as := [.ref (w.2.1 20), .int u7]) (rest := []) C dX4_order_81 ml_X4_229 cw_X4_at st_X4_at ⟨by decide, by decide⟩ (c_X4_at h 20 16 u7 (hL 20 _ rfl)) rfl rfl (Nat.le_of_ble_eq_true rfl) ?_
      refine pw_iload C dX4_order_84 rfl ?_
      refine pw_icmp_gt (tgt := 108) C dX4_order_86 (by decide) (fun c9 => ?_) (fun c9 => ?_)
      · refine pw_iload C dX4_order_108 rfl ?_
        refine pw_istore (lv2 := [some (.ref (w.2.1 0)), some (.int a1), some (.int u2), some (.int u3), some (.int u4), some (.int u5), some (.int u6), some (.int u7)]) C dX4_order_110 hN (by decide) rfl rfl ?_
        refine pw_iinc (lv2 := [some (.ref (w.2.1 0)), some (.int a1), some (.int u2), some (.int u3), some (.int u4), some (.int u5), some (.int u6), some (.int (u7 + 1))]) C dX4_order_112 rfl rfl hN (by decide) rfl rfl ?_
        refine pw_goto (tgt := 68) C dX4_order_115 (by decide) ?_
        exact ih u2 u3 u4 u5 u6 (u7 + 1) h
      · refine pw_iload C dX4_order_89 rfl ?_
        refine pw_aload_n C dX4_order_91 rfl rfl ?_
        refine pw_getr (q2 := 21) C (hL 0 _ rfl) rfl (k := 10) (by decide) rfl fl_X4_56 dX4_order_92 ?_
        refine pw_iload C dX4_order_95 rfl ?_
        refine pw_callSt (as := [.ref (w.2.1 21), .int u7]) (rest := [.int u6]) C dX4_order_97 ml_X4_229 cw_X4_at st_X4_at ⟨by decide, by decide⟩ (c_X4_at h 21 16 u7 (hL 21 _ rfl)) rfl rfl (Nat.le_of_ble_eq_true rfl) ?_
        refine pw_iconst (v := 1) C dX4_order_100 (by decide) ?_
        refine pw_iadd C dX4_order_101 ?_
        refine pw_mmax C (by decide) ml_X4_233 (Nat.le_of_ble_eq_true rfl) dX4_order_102 ?_
        refine pw_goto (tgt := 110) C dX4_order_105 (by decide) ?_
        refine pw_name (fun v4 => ?_)
        refine pw_istore (lv2 := [some (.ref (w.2.1 0)), some (.int a1), some (.int u2), some (.int u3), some (.int u4), some (.int u5), some (.int v4), some (.int u7)]) C dX4_order_110 hN (by decide) rfl rfl ?_
        refine pw_iinc (lv2 := [some (.ref (w.2.1 0)), some (.int a1), some (.int u2), some (.int u3), some (.int u4), some (.int u5), some (.int v4), some (.int (u7 + 1))]) C dX4_order_112 rfl rfl hN (by decide) rfl rfl ?_
        refine pw_goto (tgt := 68) C dX4_order_115 (by decide) ?_
        exact ih u2 u3 u4 u5 v4 (u7 + 1) h
    · refine pw_aload_n C dX4_order_118 rfl rfl ?_
      refine pw_getr (q2 := 20) C (hL 0 _ rfl) rfl (k := 9) (by decide) rfl fl_X4_53 dX4_order_119 ?_
      refine pw_iload C dX4_order_122 rfl ?_
      refine pw_iload C dX4_order_124 rfl ?_
      refine pw_callSw (as := [.ref (w.2.1 20), .int u4, .int u5]) (rest := []) C dX4_order_126 ml_X4_238 cw_X4_put st_X4_put ⟨by decide, by decide⟩ (c_X4_put h 20 16 u4 u5 (hL 20 _ rfl)) rfl rfl (Nat.le_of_ble_eq_true rfl) ?_
      refine pw_nameh (fun g5 => ?_)
      refine pw_aload_n C dX4_order_129 rfl rfl ?_
      refine pw_getr (q2 := 21) C (hL 0 _ rfl) rfl (k := 10) (by decide) rfl fl_X4_56 dX4_order_130 ?_
      refine pw_iload C dX4_order_133 rfl ?_
      refine pw_iload C dX4_order_135 rfl ?_
      refine pw_callSw (as := [.ref (w.2.1 21), .int u4, .int u6]) (rest := []) C dX4_order_137 ml_X4_238 cw_X4_put st_X4_put ⟨by decide, by decide⟩ (c_X4_put g5 21 16 u4 u6 (hL 21 _ rfl)) rfl rfl (Nat.le_of_ble_eq_true rfl) ?_
      refine pw_nameh (fun g6 => ?_)
      refine pw_iload_n C dX4_order_140 rfl rfl ?_
      refine pw_iload C dX4_order_141 rfl ?_
      refine pw_mmax C (by decide) ml_X4_233 (Nat.le_of_ble_eq_true rfl) dX4_order_143 ?_
      refine pw_name (fun v7 => ?_)
      refine pw_istore_n (lv2 := [some (.ref (w.2.1 0)), some (.int a1), some (.int u2), some (.int v7), some (.int u4), some (.int u5), some (.int u6), some (.int u7)]) C dX4_order_146 rfl hN (by decide) rfl rfl ?_
      refine pw_iinc (lv2 := [some (.ref (w.2.1 0)), some (.int a1), some (.int u2), some (.int v7), some (.int (u4 + 1)), some (.int u5), some (.int u6), some (.int u7)]) C dX4_order_147 rfl rfl hN (by decide) rfl rfl ?_
      refine pw_goto (tgt := 27) C dX4_order_150 (by decide) ?_
      exact pw_lv (hk27 u2 v7 (u4 + 1) g6) ⟨rfl, rfl, rfl, rfl, rfl, trivial⟩
set_option maxRecDepth 100000 in
set_option maxHeartbeats 4000000 in
theorem kX4_order_L27 {w : Wd} {x : Cz} (C : Ok w x cX4_order RX4 3) (hR : OkI w x .int) (hN : xN x = 8) (N : Nat) (a1 : Int32) (hL : LX w)  : ∀ (n : Nat) (u2 : Int32) (u3 : Int32) (u4 : Int32) (h : Hp), PW w x 27 [some (.ref (w.2.1 0)), some (.int a1), some (.int u2), some (.int u3), some (.int u4), none, none, none] [] h ((fX4_order_L27 N a1 n u2 u3 u4 h)) := by
  intro n
  induction n with
  | zero => intro u2 u3 u4 h; rw [fX4_order_L27]; exact pw_none
  | succ n ih =>
    intro u2 u3 u4 h
    rw [fX4_order_L27]
    refine pw_iload C dX4_order_27 rfl ?_
    refine pw_iload_n C dX4_order_29 rfl rfl ?_
    refine pw_icmp_ge (tgt := 153) C dX4_order_30 (by decide) (fun c10 => ?_) (fun c10 => ?_)
    · refine pw_aload_n C dX4_order_33 rfl rfl ?_
      refine pw_getr (q2 := 6) C (hL 0 _ rfl) rfl (k := 3) (by decide) rfl fl_X4_23 dX4_order_34 ?_
      refine pw_aload_n C dX4_order_37 rfl rfl ?_
      refine pw_getr (q2 := 6) C (hL 0 _ rfl) rfl (k := 3) (by decide) rfl fl_X4_23 dX4_order_38 ?_
      refine pw_iload_n C dX4_order_41 rfl rfl ?_
      refine pw_iload C dX4_order_42 rfl ?_
      refine pw_callVp (as := [.int a1, .int u4]) (rest := [.ref (w.2.1 6)]) C dX4_order_44 ml_X4_158 cw_X0_pendantAt im_X0_pendantAt sl_X0_pendantAt (hL 6 _ rfl) rfl ⟨by decide, by decide⟩ (c_X0_pendantAt N h 7 a1 u4 (hL 6 _ rfl) (hL 7 _ rfl)) rfl rfl (Nat.le_of_ble_eq_true rfl) (fun v2 => ?_)
      refine pw_callVp (as := [.int v2]) (rest := []) C dX4_order_47 ml_X4_120 cw_X0_valueOf im_X0_valueOf sl_X0_valueOf (hL 6 _ rfl) rfl ⟨by decide, by decide⟩ (c_X0_valueOf N h 7 v2 (hL 6 _ rfl) (hL 7 _ rfl)) rfl rfl (Nat.le_of_ble_eq_true rfl) (fun v3 => ?_)
      refine pw_istore (lv2 := [some (.ref (w.2.1 0)), some (.int a1), some (.int u2), some (.int u3), some (.int u4), some (.int v3), none, none]) C dX4_order_50 hN (by decide) rfl rfl ?_
      refine pw_iload C dX4_order_52 rfl ?_
      refine pw_bipush (v := (-4)) C dX4_order_54 (by decide) ?_
      refine pw_icmp_ne (tgt := 62) C dX4_order_56 (by decide) (fun c11 => ?_) (fun c11 => ?_)
      · refine pw_bipush (v := (-4)) C dX4_order_59 (by decide) ?_
        exact pw_iret C hR dX4_order_61
      · refine pw_iconst (v := 1) C dX4_order_62 (by decide) ?_
        refine pw_istore (lv2 := [some (.ref (w.2.1 0)), some (.int a1), some (.int u2), some (.int u3), some (.int u4), some (.int v3), some (.int 1), none]) C dX4_order_63 hN (by decide) rfl rfl ?_
        refine pw_iconst (v := 0) C dX4_order_65 (by decide) ?_
        refine pw_istore (lv2 := [some (.ref (w.2.1 0)), some (.int a1), some (.int u2), some (.int u3), some (.int u4), some (.int v3), some (.int 1), some (.int 0)]) C dX4_order_66 hN (by decide) rfl rfl ?_
        exact kX4_order_L68 C hR hN N a1 hL (fX4_order_L27 N a1 n) ih N u2 u3 u4 v3 1 0 h
    · refine pw_iload_n C dX4_order_153 rfl rfl ?_
      refine pw_iload_n C dX4_order_154 rfl rfl ?_
      refine pw_isub C dX4_order_155 ?_
      exact pw_iret C hR dX4_order_156
set_option maxRecDepth 100000 in
set_option maxHeartbeats 4000000 in
theorem c_X4_order {l : Launch} {w : Wd} {A : Nat → Prop} (N : Nat) (h : Hp) (a1 : Int32) (hL : LX w) : ConI l yX4_order cX4_order 8 .int 3 w A [.ref (w.2.1 0), .int a1] h ((fX4_order N h a1)) := by
  refine ConI.of (lv0 := [some (.ref (w.2.1 0)), some (.int a1), none, none, none, none, none, none]) (by decide +kernel) (Nat.le_of_ble_eq_true rfl) rfl (fun x C hR hN => ?_)
  unfold fX4_order
  refine pw_aload_n C dX4_order_0 rfl rfl ?_
  refine pw_getr (q2 := 6) C (hL 0 _ rfl) rfl (k := 3) (by decide) rfl fl_X4_23 dX4_order_1 ?_
  refine pw_iload_n C dX4_order_4 rfl rfl ?_
  refine pw_callVt (as := [.int a1]) (rest := []) C dX4_order_5 ml_X4_140 cw_X0_hasGroup im_X0_hasGroup sl_X0_hasGroup (hL 6 _ rfl) rfl ⟨by decide, by decide⟩ (c_X0_hasGroup h 7 a1 (hL 6 _ rfl) (hL 7 _ rfl)) rfl rfl (Nat.le_of_ble_eq_true rfl) ?_
  refine pw_if_ne (tgt := 13) C dX4_order_8 (by decide) (fun c12 => ?_) (fun c12 => ?_)
  · refine pw_iconst (v := (-1)) C dX4_order_11 (by decide) ?_
    exact pw_iret C hR dX4_order_12
  · refine pw_aload_n C dX4_order_13 rfl rfl ?_
    refine pw_getr (q2 := 6) C (hL 0 _ rfl) rfl (k := 3) (by decide) rfl fl_X4_23 dX4_order_14 ?_
    refine pw_iload_n C dX4_order_17 rfl rfl ?_
    refine pw_callVp (as := [.int a1]) (rest := []) C dX4_order_18 ml_X4_143 cw_X0_pendantsIn im_X0_pendantsIn sl_X0_pendantsIn (hL 6 _ rfl) rfl ⟨by decide, by decide⟩ (c_X0_pendantsIn N h 7 a1 (hL 6 _ rfl) (hL 7 _ rfl)) rfl rfl (Nat.le_of_ble_eq_true rfl) (fun v1 => ?_)
    refine pw_istore_n (lv2 := [some (.ref (w.2.1 0)), some (.int a1), some (.int v1), none, none, none, none, none]) C dX4_order_21 rfl hN (by decide) rfl rfl ?_
    refine pw_iconst (v := 0) C dX4_order_22 (by decide) ?_
    refine pw_istore_n (lv2 := [some (.ref (w.2.1 0)), some (.int a1), some (.int v1), some (.int 0), none, none, none, none]) C dX4_order_23 rfl hN (by decide) rfl rfl ?_
    refine pw_iconst (v := 0) C dX4_order_24 (by decide) ?_
    refine pw_istore (lv2 := [some (.ref (w.2.1 0)), some (.int a1), some (.int v1), some (.int 0), some (.int 0), none, none, none]) C dX4_order_25 hN (by decide) rfl rfl ?_
    exact kX4_order_L27 C hR hN N a1 hL N v1 0 0 h
set_option maxRecDepth 100000 in
set_option maxHeartbeats 4000000 in
theorem c_X4_keep {l : Launch} {w : Wd} {A : Nat → Prop} (N : Nat) (h : Hp) (hL : LX w) : ConI l yX4_keep cX4_keep 1 .int 3 w A [.ref (w.2.1 0)] h ((fX4_keep N h)) := by
  refine ConI.of (lv0 := [some (.ref (w.2.1 0))]) (by decide +kernel) (Nat.le_of_ble_eq_true rfl) rfl (fun x C hR hN => ?_)
  unfold fX4_keep
  refine pw_aload_n C dX4_keep_0 rfl rfl ?_
  refine pw_getr (q2 := 10) C (hL 0 _ rfl) rfl (k := 5) (by decide) rfl fl_X4_36 dX4_keep_1 ?_
  refine pw_getiN C (hL 10 _ rfl) rfl (k := 2) (by decide) rfl "ToldInKnots" (by decide +kernel) dX4_keep_4 ?_
  refine pw_iconst (v := 2) C dX4_keep_7 (by decide) ?_
  refine pw_icmp_lt (tgt := 14) C dX4_keep_8 (by decide) (fun c2 => ?_) (fun c2 => ?_)
  · refine pw_aload_n C dX4_keep_14 rfl rfl ?_
    refine pw_getr (q2 := 10) C (hL 0 _ rfl) rfl (k := 5) (by decide) rfl fl_X4_36 dX4_keep_15 ?_
    refine pw_aload_n C dX4_keep_18 rfl rfl ?_
    refine pw_getr (q2 := 6) C (hL 0 _ rfl) rfl (k := 3) (by decide) rfl fl_X4_23 dX4_keep_19 ?_
    refine pw_getrN (q2 := 7) C (hL 6 _ rfl) rfl (k := 0) (by decide) rfl "ToldInKnots" (by decide +kernel) dX4_keep_22 ?_
    refine pw_callVvq (as := [.ref (w.2.1 7)]) (rest := []) C dX4_keep_25 ml_X4_167 cw_X3_add im_X3_add sl_X3_add (hL 10 _ rfl) rfl ⟨by decide, by decide⟩ (c_X3_add N h 10 11 358 7 179 (hL 10 _ rfl) (hL 11 _ rfl) (hL 7 _ rfl)) rfl rfl (Nat.le_of_ble_eq_true rfl) (fun z1 => ?_)
    refine pw_aload_n C dX4_keep_28 rfl rfl ?_
    refine pw_getr (q2 := 10) C (hL 0 _ rfl) rfl (k := 5) (by decide) rfl fl_X4_36 dX4_keep_29 ?_
    refine pw_getiN C (hL 10 _ rfl) rfl (k := 2) (by decide) rfl "ToldInKnots" (by decide +kernel) dX4_keep_32 ?_
    exact pw_iret C hR dX4_keep_35
  · refine pw_bipush (v := (-3)) C dX4_keep_11 (by decide) ?_
    exact pw_iret C hR dX4_keep_13
set_option maxRecDepth 100000 in
set_option maxHeartbeats 4000000 in
theorem c_X4_back {l : Launch} {w : Wd} {A : Nat → Prop} (h : Hp) (hL : LX w) : ConI l yX4_back cX4_back 1 .int 3 w A [.ref (w.2.1 0)] h ((fX4_back h)) := by
  refine ConI.of (lv0 := [some (.ref (w.2.1 0))]) (by decide +kernel) (Nat.le_of_ble_eq_true rfl) rfl (fun x C hR hN => ?_)
  unfold fX4_back
  refine pw_aload_n C dX4_back_0 rfl rfl ?_
  refine pw_getr (q2 := 10) C (hL 0 _ rfl) rfl (k := 5) (by decide) rfl fl_X4_36 dX4_back_1 ?_
  refine pw_getiN C (hL 10 _ rfl) rfl (k := 2) (by decide) rfl "ToldInKnots" (by decide +kernel) dX4_back_4 ?_
  refine pw_if_ne (tgt := 13) C dX4_back_7 (by decide) (fun c3 => ?_) (fun c3 => ?_)
  · refine pw_bipush (v := (-2)) C dX4_back_10 (by decide) ?_
    exact pw_iret C hR dX4_back_12
  · refine pw_aload_n C dX4_back_13 rfl rfl ?_
    refine pw_getr (q2 := 10) C (hL 0 _ rfl) rfl (k := 5) (by decide) rfl fl_X4_36 dX4_back_14 ?_
    refine pw_aload_n C dX4_back_17 rfl rfl ?_
    refine pw_getr (q2 := 6) C (hL 0 _ rfl) rfl (k := 3) (by decide) rfl fl_X4_23 dX4_back_18 ?_
    refine pw_getrN (q2 := 7) C (hL 6 _ rfl) rfl (k := 0) (by decide) rfl "ToldInKnots" (by decide +kernel) dX4_back_21 ?_
    refine pw_callVvq (as := [.ref (w.2.1 7)]) (rest := []) C dX4_back_24 ml_X4_196 cw_X3_takeInto im_X3_takeInto sl_X3_takeInto (hL 10 _ rfl) rfl ⟨by decide, by decide⟩ (c_X3_takeInto h 10 11 358 7 179 (hL 10 _ rfl) (hL 11 _ rfl) (hL 7 _ rfl)) rfl rfl (Nat.le_of_ble_eq_true rfl) (fun z1 => ?_)
    refine pw_aload_n C dX4_back_27 rfl rfl ?_
    refine pw_getr (q2 := 8) C (hL 0 _ rfl) rfl (k := 4) (by decide) rfl fl_X4_32 dX4_back_28 ?_
    refine pw_callVvq (as := []) (rest := []) C dX4_back_31 ml_X4_88 cw_X3_clear im_X3_clear sl_X3_clear (hL 8 _ rfl) rfl ⟨by decide, by decide⟩ (c_X3_clear z1.2 8 9 1432 (hL 8 _ rfl) (hL 9 _ rfl)) rfl rfl (Nat.le_of_ble_eq_true rfl) (fun z2 => ?_)
    refine pw_aload_n C dX4_back_34 rfl rfl ?_
    refine pw_getr (q2 := 10) C (hL 0 _ rfl) rfl (k := 5) (by decide) rfl fl_X4_36 dX4_back_35 ?_
    refine pw_getiN C (hL 10 _ rfl) rfl (k := 2) (by decide) rfl "ToldInKnots" (by decide +kernel) dX4_back_38 ?_
    exact pw_iret C hR dX4_back_41
set_option maxRecDepth 100000 in
set_option maxHeartbeats 4000000 in
theorem kX4_measureRoom_J90 {w : Wd} {x : Cz} (C : Ok w x cX4_measureRoom RX4 3) (hR : OkV w x) (hN : xN x = 6) (N : Nat) (a1 : Int32) (hL : LX w) (k18 : Int32 → Hp → Option Rs) (hk18 : ∀ (u2 : Int32) (h : Hp), PW w x 18 [some (.ref (w.2.1 0)), some (.int a1), some (.int u2), none, none, none] [] h ((k18 u2 h))) (k31 : Int32 → Int32 → Hp → Option Rs) (hk31 : ∀ (u2 : Int32) (u3 : Int32) (h : Hp), PW w x 31 [some (.ref (w.2.1 0)), some (.int a1), some (.int u2), some (.int u3), none, none] [] h ((k31 u2 u3 h))) : ∀ (u2 : Int32) (u3 : Int32) (t0 : Int32) (h : Hp), PW w x 90 [some (.ref (w.2.1 0)), some (.int a1), some (.int u2), some (.int u3), none, none] [.int t0] h ((fX4_measureRoom_J90 N a1 k18 k31 u2 u3 t0 h)) := by
  intro u2 u3 t0 h
  unfold fX4_measureRoom_J90
  refine pw_istore (lv2 := [some (.ref (w.2.1 0)), some (.int a1), some (.int u2), some (.int u3), none, some (.int t0)]) C dX4_measureRoom_90 hN (by decide) rfl rfl ?_
  refine pw_aload_n C dX4_measureRoom_92 rfl rfl ?_
  refine pw_getr (q2 := 18) C (hL 0 _ rfl) rfl (k := 7) (by decide) rfl fl_X4_46 dX4_measureRoom_93 ?_
  refine pw_iload_n C dX4_measureRoom_96 rfl rfl ?_
  refine pw_aload_n C dX4_measureRoom_97 rfl rfl ?_
  refine pw_getr (q2 := 18) C (hL 0 _ rfl) rfl (k := 7) (by decide) rfl fl_X4_46 dX4_measureRoom_98 ?_
  refine pw_iload_n C dX4_measureRoom_101 rfl rfl ?_
  refine pw_callSt (as := [.ref (w.2.1 18), .int u3]) (rest := [.int u3, .ref (w.2.1 18)]) C dX4_measureRoom_102 ml_X4_229 cw_X4_at st_X4_at ⟨by decide, by decide⟩ (c_X4_at h 18 4 u3 (hL 18 _ rfl)) rfl rfl (Nat.le_of_ble_eq_true rfl) ?_
  refine pw_iload C dX4_measureRoom_105 rfl ?_
  refine pw_iadd C dX4_measureRoom_107 ?_
  refine pw_callSw (as := [.ref (w.2.1 18), .int u3, .int ((atF h 18 4 u3) + t0)]) (rest := []) C dX4_measureRoom_108 ml_X4_238 cw_X4_put st_X4_put ⟨by decide, by decide⟩ (c_X4_put h 18 4 u3 ((atF h 18 4 u3) + t0) (hL 18 _ rfl)) rfl rfl (Nat.le_of_ble_eq_true rfl) ?_
  refine pw_nameh (fun g4 => ?_)
  refine pw_aload_n C dX4_measureRoom_111 rfl rfl ?_
  refine pw_getr (q2 := 19) C (hL 0 _ rfl) rfl (k := 8) (by decide) rfl fl_X4_50 dX4_measureRoom_112 ?_
  refine pw_iload_n C dX4_measureRoom_115 rfl rfl ?_
  refine pw_aload_n C dX4_measureRoom_116 rfl rfl ?_
  refine pw_getr (q2 := 19) C (hL 0 _ rfl) rfl (k := 8) (by decide) rfl fl_X4_50 dX4_measureRoom_117 ?_
  refine pw_iload_n C dX4_measureRoom_120 rfl rfl ?_
  refine pw_callSt (as := [.ref (w.2.1 19), .int u3]) (rest := [.int u3, .ref (w.2.1 19)]) C dX4_measureRoom_121 ml_X4_229 cw_X4_at st_X4_at ⟨by decide, by decide⟩ (c_X4_at g4 19 4 u3 (hL 19 _ rfl)) rfl rfl (Nat.le_of_ble_eq_true rfl) ?_
  refine pw_bipush (v := 9) C dX4_measureRoom_124 (by decide) ?_
  refine pw_iadd C dX4_measureRoom_126 ?_
  refine pw_iload C dX4_measureRoom_127 rfl ?_
  refine pw_isub C dX4_measureRoom_129 ?_
  refine pw_callSw (as := [.ref (w.2.1 19), .int u3, .int (((atF g4 19 4 u3) + 9) - t0)]) (rest := []) C dX4_measureRoom_130 ml_X4_238 cw_X4_put st_X4_put ⟨by decide, by decide⟩ (c_X4_put g4 19 4 u3 (((atF g4 19 4 u3) + 9) - t0) (hL 19 _ rfl)) rfl rfl (Nat.le_of_ble_eq_true rfl) ?_
  refine pw_nameh (fun g5 => ?_)
  refine pw_iinc (lv2 := [some (.ref (w.2.1 0)), some (.int a1), some (.int u2), some (.int (u3 + 1)), none, some (.int t0)]) C dX4_measureRoom_133 rfl rfl hN (by decide) rfl rfl ?_
  refine pw_goto (tgt := 31) C dX4_measureRoom_136 (by decide) ?_
  exact pw_lv (hk31 u2 (u3 + 1) g5) ⟨rfl, rfl, rfl, rfl, trivial⟩
set_option maxRecDepth 100000 in
set_option maxHeartbeats 4000000 in
theorem kX4_measureRoom_L31 {w : Wd} {x : Cz} (C : Ok w x cX4_measureRoom RX4 3) (hR : OkV w x) (hN : xN x = 6) (N : Nat) (a1 : Int32) (hL : LX w) (k18 : Int32 → Hp → Option Rs) (hk18 : ∀ (u2 : Int32) (h : Hp), PW w x 18 [some (.ref (w.2.1 0)), some (.int a1), some (.int u2), none, none, none] [] h ((k18 u2 h))) : ∀ (n : Nat) (u2 : Int32) (u3 : Int32) (h : Hp), PW w x 31 [some (.ref (w.2.1 0)), some (.int a1), some (.int u2), some (.int u3), none, none] [] h ((fX4_measureRoom_L31 N a1 k18 n u2 u3 h)) := by
  intro n
  induction n with
  | zero => intro u2 u3 h; rw [fX4_measureRoom_L31]; exact pw_none
  | succ n ih =>
    intro u2 u3 h
    rw [fX4_measureRoom_L31]
    refine pw_aload_n C dX4_measureRoom_31 rfl rfl ?_
    refine pw_getr (q2 := 6) C (hL 0 _ rfl) rfl (k := 3) (by decide) rfl fl_X4_23 dX4_measureRoom_32 ?_
    refine pw_iload_n C dX4_measureRoom_35 rfl rfl ?_
    refine pw_iload_n C dX4_measureRoom_36 rfl rfl ?_
    refine pw_callVt (as := [.int u2, .int a1]) (rest := []) C dX4_measureRoom_37 ml_X4_207 cw_X0_isIn im_X0_isIn sl_X0_isIn (hL 6 _ rfl) rfl ⟨by decide, by decide⟩ (c_X0_isIn h 7 u2 a1 (hL 6 _ rfl) (hL 7 _ rfl)) rfl rfl (Nat.le_of_ble_eq_true rfl) ?_
    refine pw_if_eq (tgt := 139) C dX4_measureRoom_40 (by decide) (fun c6 => ?_) (fun c6 => ?_)
    · refine pw_iinc (lv2 := [some (.ref (w.2.1 0)), some (.int a1), some (.int (u2 + 1)), some (.int u3), none, none]) C dX4_measureRoom_139 rfl rfl hN (by decide) rfl rfl ?_
      refine pw_goto (tgt := 18) C dX4_measureRoom_142 (by decide) ?_
      exact pw_lv (hk18 (u2 + 1) h) ⟨rfl, rfl, rfl, trivial⟩
    · refine pw_iload_n C dX4_measureRoom_43 rfl rfl ?_
      refine pw_aload_n C dX4_measureRoom_44 rfl rfl ?_
      refine pw_getr (q2 := 6) C (hL 0 _ rfl) rfl (k := 3) (by decide) rfl fl_X4_23 dX4_measureRoom_45 ?_
      refine pw_iload_n C dX4_measureRoom_48 rfl rfl ?_
      refine pw_callVt (as := [.int u2]) (rest := [.int u3]) C dX4_measureRoom_49 ml_X4_102 cw_X0_sizeOf im_X0_sizeOf sl_X0_sizeOf (hL 6 _ rfl) rfl ⟨by decide, by decide⟩ (c_X0_sizeOf h 7 u2 (hL 6 _ rfl) (hL 7 _ rfl)) rfl rfl (Nat.le_of_ble_eq_true rfl) ?_
      refine pw_icmp_ge (tgt := 139) C dX4_measureRoom_52 (by decide) (fun c7 => ?_) (fun c7 => ?_)
      · refine pw_aload_n C dX4_measureRoom_55 rfl rfl ?_
        refine pw_getr (q2 := 6) C (hL 0 _ rfl) rfl (k := 3) (by decide) rfl fl_X4_23 dX4_measureRoom_56 ?_
        refine pw_iload_n C dX4_measureRoom_59 rfl rfl ?_
        refine pw_iload_n C dX4_measureRoom_60 rfl rfl ?_
        refine pw_callVt (as := [.int u2, .int u3]) (rest := []) C dX4_measureRoom_61 ml_X4_136 cw_X0_codeOf im_X0_codeOf sl_X0_codeOf (hL 6 _ rfl) rfl ⟨by decide, by decide⟩ (c_X0_codeOf h 7 u2 u3 (hL 6 _ rfl) (hL 7 _ rfl)) rfl rfl (Nat.le_of_ble_eq_true rfl) ?_
        refine pw_callSt (as := [.int (fX0_codeOf h 7 u2 u3)]) (rest := []) C dX4_measureRoom_64 ml_X4_220 cw_X4_countOf st_X4_countOf ⟨by decide, by decide⟩ (c_X4_countOf h (fX0_codeOf h 7 u2 u3)) rfl rfl (Nat.le_of_ble_eq_true rfl) ?_
        refine pw_name (fun v3 => ?_)
        refine pw_istore (lv2 := [some (.ref (w.2.1 0)), some (.int a1), some (.int u2), some (.int u3), some (.int v3), none]) C dX4_measureRoom_67 hN (by decide) rfl rfl ?_
        refine pw_aload_n C dX4_measureRoom_69 rfl rfl ?_
        refine pw_getr (q2 := 6) C (hL 0 _ rfl) rfl (k := 3) (by decide) rfl fl_X4_23 dX4_measureRoom_70 ?_
        refine pw_iload_n C dX4_measureRoom_73 rfl rfl ?_
        refine pw_callVt (as := [.int u2]) (rest := []) C dX4_measureRoom_74 ml_X4_117 cw_X0_isTop im_X0_isTop sl_X0_isTop (hL 6 _ rfl) rfl ⟨by decide, by decide⟩ (c_X0_isTop h 7 u2 (hL 6 _ rfl) (hL 7 _ rfl)) rfl rfl (Nat.le_of_ble_eq_true rfl) ?_
        refine PW.eq (apply_ite (fun z_ => (fX4_measureRoom_J90 N a1 k18 (fX4_measureRoom_L31 N a1 k18 n) u2 u3 z_ h)) _ _ _) ?_
        refine pw_if_eq (tgt := 85) C dX4_measureRoom_77 (by decide) (fun c8 => ?_) (fun c8 => ?_)
        · refine pw_bipush (v := 9) C dX4_measureRoom_85 (by decide) ?_
          refine pw_iload C dX4_measureRoom_87 rfl ?_
          refine pw_isub C dX4_measureRoom_89 ?_
          exact pw_lv (kX4_measureRoom_J90 C hR hN N a1 hL k18 hk18 (fX4_measureRoom_L31 N a1 k18 n) ih u2 u3 (9 - v3) h) ⟨rfl, rfl, rfl, rfl, trivial⟩
        · refine pw_iload C dX4_measureRoom_80 rfl ?_
          refine pw_goto (tgt := 90) C dX4_measureRoom_82 (by decide) ?_
          exact pw_lv (kX4_measureRoom_J90 C hR hN N a1 hL k18 hk18 (fX4_measureRoom_L31 N a1 k18 n) ih u2 u3 v3 h) ⟨rfl, rfl, rfl, rfl, trivial⟩
      · refine pw_iinc (lv2 := [some (.ref (w.2.1 0)), some (.int a1), some (.int (u2 + 1)), some (.int u3), none, none]) C dX4_measureRoom_139 rfl rfl hN (by decide) rfl rfl ?_
        refine pw_goto (tgt := 18) C dX4_measureRoom_142 (by decide) ?_
        exact pw_lv (hk18 (u2 + 1) h) ⟨rfl, rfl, rfl, trivial⟩
set_option maxRecDepth 100000 in
set_option maxHeartbeats 4000000 in
theorem kX4_measureRoom_L18 {w : Wd} {x : Cz} (C : Ok w x cX4_measureRoom RX4 3) (hR : OkV w x) (hN : xN x = 6) (N : Nat) (a1 : Int32) (hL : LX w)  : ∀ (n : Nat) (u2 : Int32) (h : Hp), PW w x 18 [some (.ref (w.2.1 0)), some (.int a1), some (.int u2), none, none, none] [] h ((fX4_measureRoom_L18 N a1 n u2 h)) := by
  intro n
  induction n with
  | zero => intro u2 h; rw [fX4_measureRoom_L18]; exact pw_none
  | succ n ih =>
    intro u2 h
    rw [fX4_measureRoom_L18]
    refine pw_iload_n C dX4_measureRoom_18 rfl rfl ?_
    refine pw_aload_n C dX4_measureRoom_19 rfl rfl ?_
    refine pw_getr (q2 := 6) C (hL 0 _ rfl) rfl (k := 3) (by decide) rfl fl_X4_23 dX4_measureRoom_20 ?_
    refine pw_callVt (as := []) (rest := [.int u2]) C dX4_measureRoom_23 ml_X4_91 cw_X0_cords im_X0_cords sl_X0_cords (hL 6 _ rfl) rfl ⟨by decide, by decide⟩ (c_X0_cords h 7 (hL 6 _ rfl) (hL 7 _ rfl)) rfl rfl (Nat.le_of_ble_eq_true rfl) ?_
    refine pw_icmp_ge (tgt := 145) C dX4_measureRoom_26 (by decide) (fun c9 => ?_) (fun c9 => ?_)
    · refine pw_iconst (v := 0) C dX4_measureRoom_29 (by decide) ?_
      refine pw_istore_n (lv2 := [some (.ref (w.2.1 0)), some (.int a1), some (.int u2), some (.int 0), none, none]) C dX4_measureRoom_30 rfl hN (by decide) rfl rfl ?_
      exact kX4_measureRoom_L31 C hR hN N a1 hL (fX4_measureRoom_L18 N a1 n) ih N u2 0 h
    · exact pw_vret C hR dX4_measureRoom_145
set_option maxRecDepth 100000 in
set_option maxHeartbeats 4000000 in
theorem c_X4_measureRoom {l : Launch} {w : Wd} {A : Nat → Prop} (N : Nat) (h : Hp) (a1 : Int32) (hL : LX w) : ConV l yX4_measureRoom cX4_measureRoom 6 3 w A [.ref (w.2.1 0), .int a1] h ((fX4_measureRoom N h a1)) := by
  refine ConV.of (lv0 := [some (.ref (w.2.1 0)), some (.int a1), none, none, none, none]) (by decide +kernel) (Nat.le_of_ble_eq_true rfl) rfl (fun x C hR hN => ?_)
  unfold fX4_measureRoom
  refine pw_aload_n C dX4_measureRoom_0 rfl rfl ?_
  refine pw_getr (q2 := 18) C (hL 0 _ rfl) rfl (k := 7) (by decide) rfl fl_X4_46 dX4_measureRoom_1 ?_
  refine pw_iconst (v := 0) C dX4_measureRoom_4 (by decide) ?_
  refine pw_callSvq (as := [.ref (w.2.1 18), .int 0]) (rest := []) C dX4_measureRoom_5 ml_X4_284 cw_J7_fill_53178 st_J7_fill_53178 ⟨by decide, by decide⟩ (c_J7_fill_53178 N h 18 4 0 (hL 18 _ rfl)) rfl rfl (Nat.le_of_ble_eq_true rfl) (fun z1 => ?_)
  refine pw_aload_n C dX4_measureRoom_8 rfl rfl ?_
  refine pw_getr (q2 := 19) C (hL 0 _ rfl) rfl (k := 8) (by decide) rfl fl_X4_50 dX4_measureRoom_9 ?_
  refine pw_iconst (v := 0) C dX4_measureRoom_12 (by decide) ?_
  refine pw_callSvq (as := [.ref (w.2.1 19), .int 0]) (rest := []) C dX4_measureRoom_13 ml_X4_284 cw_J7_fill_53178 st_J7_fill_53178 ⟨by decide, by decide⟩ (c_J7_fill_53178 N z1.2 19 4 0 (hL 19 _ rfl)) rfl rfl (Nat.le_of_ble_eq_true rfl) (fun z2 => ?_)
  refine pw_iconst (v := 0) C dX4_measureRoom_16 (by decide) ?_
  refine pw_istore_n (lv2 := [some (.ref (w.2.1 0)), some (.int a1), some (.int 0), none, none, none]) C dX4_measureRoom_17 rfl hN (by decide) rfl rfl ?_
  exact kX4_measureRoom_L18 C hR hN N a1 hL N 0 z2.2
set_option maxRecDepth 100000 in
set_option maxHeartbeats 4000000 in
theorem kX5_takes_J114 {w : Wd} {x : Cz} (C : Ok w x cX5_takes RX5 3) (hR : OkI w x .boolean) (hN : xN x = 2) (N : Nat) (a1 : Int32) (hM : LM w)  : ∀ (h : Hp), PW w x 114 [some (.ref (w.2.1 22)), some (.int a1)] [] h ((fX5_takes_J114 N a1 h)) := by
  intro h
  unfold fX5_takes_J114
  refine pw_aload_n C dX5_takes_114 rfl rfl ?_
  refine pw_iload_n C dX5_takes_115 rfl rfl ?_
  refine pw_callViq (as := [.int a1]) (rest := []) C dX5_takes_116 ml_X5_101 cw_X5_takesKnots im_X5_takesKnots sl_X5_takesKnots (hM 22 _ rfl (by decide)) rfl ⟨by decide, by decide⟩ (c_X5_takesKnots N h a1 hM) rfl rfl (Nat.le_of_ble_eq_true rfl) (fun z8 => ?_)
  refine pw_goto (tgt := 127) C dX5_takes_119 (by decide) ?_
  exact pw_zret C hR dX5_takes_127
set_option maxRecDepth 100000 in
set_option maxHeartbeats 4000000 in
theorem c_X5_takes {l : Launch} {w : Wd} {A : Nat → Prop} (N : Nat) (h : Hp) (a1 : Int32) (hM : LM w) : ConI l yX5_takes cX5_takes 2 .boolean 3 w A [.ref (w.2.1 22), .int a1] h ((fX5_takes N h a1)) := by
  refine ConI.of (lv0 := [some (.ref (w.2.1 22)), some (.int a1)]) (by decide +kernel) (Nat.le_of_ble_eq_true rfl) rfl (fun x C hR hN => ?_)
  unfold fX5_takes
  refine pw_aload_n C dX5_takes_0 rfl rfl ?_
  refine pw_geti C (hM 22 _ rfl (by decide)) rfl (k := 8) (by decide) rfl fl_X5_66 dX5_takes_1 ?_
  refine pw_ite (fun e4_0 => ?_) (fun e4_0 => ?_)
  · refine pw_tsIn (tgt := 44) (off := 40) C dX5_takes_4 (by rw [e4_0]; decide) (by rw [e4_0]; decide) (by rw [e4_0]; decide) (by decide) ?_
    refine pw_aload_n C dX5_takes_44 rfl rfl ?_
    refine pw_iload_n C dX5_takes_45 rfl rfl ?_
    refine pw_callViq (as := [.int a1]) (rest := []) C dX5_takes_46 ml_X5_98 cw_X5_takesGroup im_X5_takesGroup sl_X5_takesGroup (hM 22 _ rfl (by decide)) rfl ⟨by decide, by decide⟩ (c_X5_takesGroup h a1 hM) rfl rfl (Nat.le_of_ble_eq_true rfl) (fun z7 => ?_)
    exact pw_zret C hR dX5_takes_49
  · refine pw_ite (fun e4_1 => ?_) (fun e4_1 => ?_)
    · refine pw_tsIn (tgt := 50) (off := 46) C dX5_takes_4 (by rw [e4_1]; decide) (by rw [e4_1]; decide) (by rw [e4_1]; decide) (by decide) ?_
      refine pw_iload_n C dX5_takes_50 rfl rfl ?_
      refine pw_i2l C dX5_takes_51 ?_
      refine pw_ldc2 (C := C) cl_X5_87 dX5_takes_52 ?_
      refine pw_ldc2 (C := C) cl_X5_89 dX5_takes_55 ?_
      refine pw_callSt (as := [.long (a1).toInt64, .long 48, .long 57]) (rest := []) C dX5_takes_58 ml_X5_54 cw_X5_in st_X5_in ⟨by decide, by decide⟩ (c_X5_in h (a1).toInt64 48 57) rfl rfl (Nat.le_of_ble_eq_true rfl) ?_
      refine pw_if_eq (tgt := 86) C dX5_takes_61 (by decide) (fun c9 => ?_) (fun c9 => ?_)
      · refine pw_iconst (v := 0) C dX5_takes_86 (by decide) ?_
        exact pw_zret' C hR dX5_takes_87 (by decide)
      · refine pw_aload_n C dX5_takes_64 rfl rfl ?_
        refine pw_callVt (as := []) (rest := []) C dX5_takes_65 ml_X5_91 cw_X5_hasRoom im_X5_hasRoom sl_X5_hasRoom (hM 22 _ rfl (by decide)) rfl ⟨by decide, by decide⟩ (c_X5_hasRoom h hM) rfl rfl (Nat.le_of_ble_eq_true rfl) ?_
        refine pw_if_eq (tgt := 86) C dX5_takes_68 (by decide) (fun c10 => ?_) (fun c10 => ?_)
        · refine pw_iconst (v := 0) C dX5_takes_86 (by decide) ?_
          exact pw_zret' C hR dX5_takes_87 (by decide)
        · refine pw_aload_n C dX5_takes_71 rfl rfl ?_
          refine pw_iload_n C dX5_takes_72 rfl rfl ?_
          refine pw_bipush (v := 48) C dX5_takes_73 (by decide) ?_
          refine pw_isub C dX5_takes_75 ?_
          refine pw_callViq (as := [.int (a1 - 48)]) (rest := []) C dX5_takes_76 ml_X5_95 cw_X5_takesColour im_X5_takesColour sl_X5_takesColour (hM 22 _ rfl (by decide)) rfl ⟨by decide, by decide⟩ (c_X5_takesColour h (a1 - 48) hM) rfl rfl (Nat.le_of_ble_eq_true rfl) (fun z6 => ?_)
          refine pw_if_eq (tgt := 86) C dX5_takes_79 (by decide) (fun c11 => ?_) (fun c11 => ?_)
          · refine pw_iconst (v := 0) C dX5_takes_86 (by decide) ?_
            exact pw_zret' C hR dX5_takes_87 (by decide)
          · refine pw_iconst (v := 1) C dX5_takes_82 (by decide) ?_
            refine pw_goto (tgt := 87) C dX5_takes_83 (by decide) ?_
            exact pw_zret' C hR dX5_takes_87 (by decide)
    · refine pw_ite (fun e4_2 => ?_) (fun e4_2 => ?_)
      · refine pw_tsIn (tgt := 88) (off := 84) C dX5_takes_4 (by rw [e4_2]; decide) (by rw [e4_2]; decide) (by rw [e4_2]; decide) (by decide) ?_
        refine pw_aload_n C dX5_takes_88 rfl rfl ?_
        refine pw_iload_n C dX5_takes_89 rfl rfl ?_
        refine pw_callViq (as := [.int a1]) (rest := []) C dX5_takes_90 ml_X5_101 cw_X5_takesKnots im_X5_takesKnots sl_X5_takesKnots (hM 22 _ rfl (by decide)) rfl ⟨by decide, by decide⟩ (c_X5_takesKnots N h a1 hM) rfl rfl (Nat.le_of_ble_eq_true rfl) (fun z5 => ?_)
        exact pw_zret C hR dX5_takes_93
      · refine pw_ite (fun e4_3 => ?_) (fun e4_3 => ?_)
        · refine pw_tsIn (tgt := 94) (off := 90) C dX5_takes_4 (by rw [e4_3]; decide) (by rw [e4_3]; decide) (by rw [e4_3]; decide) (by decide) ?_
          refine pw_iload_n C dX5_takes_94 rfl rfl ?_
          refine pw_bipush (v := 46) C dX5_takes_95 (by decide) ?_
          refine pw_icmp_eq (tgt := 114) C dX5_takes_97 (by decide) (fun c12 => ?_) (fun c12 => ?_)
          · exact kX5_takes_J114 C hR hN N a1 hM h
          · refine pw_iload_n C dX5_takes_100 rfl rfl ?_
            refine pw_i2l C dX5_takes_101 ?_
            refine pw_ldc2 (C := C) cl_X5_104 dX5_takes_102 ?_
            refine pw_ldc2 (C := C) cl_X5_106 dX5_takes_105 ?_
            refine pw_callSt (as := [.long (a1).toInt64, .long 97, .long 122]) (rest := []) C dX5_takes_108 ml_X5_54 cw_X5_in st_X5_in ⟨by decide, by decide⟩ (c_X5_in h (a1).toInt64 97 122) rfl rfl (Nat.le_of_ble_eq_true rfl) ?_
            refine pw_if_eq (tgt := 122) C dX5_takes_111 (by decide) (fun c13 => ?_) (fun c13 => ?_)
            · refine pw_aload_n C dX5_takes_122 rfl rfl ?_
              refine pw_iload_n C dX5_takes_123 rfl rfl ?_
              refine pw_callViq (as := [.int a1]) (rest := []) C dX5_takes_124 ml_X5_108 cw_X5_takesBehind im_X5_takesBehind sl_X5_takesBehind (hM 22 _ rfl (by decide)) rfl ⟨by decide, by decide⟩ (c_X5_takesBehind h a1 hM) rfl rfl (Nat.le_of_ble_eq_true rfl) (fun z4 => ?_)
              exact pw_zret C hR dX5_takes_127
            · exact kX5_takes_J114 C hR hN N a1 hM h
        · refine pw_ite (fun e4_4 => ?_) (fun e4_4 => ?_)
          · refine pw_tsIn (tgt := 128) (off := 124) C dX5_takes_4 (by rw [e4_4]; decide) (by rw [e4_4]; decide) (by rw [e4_4]; decide) (by decide) ?_
            refine pw_aload_n C dX5_takes_128 rfl rfl ?_
            refine pw_iload_n C dX5_takes_129 rfl rfl ?_
            refine pw_callViq (as := [.int a1]) (rest := []) C dX5_takes_130 ml_X5_108 cw_X5_takesBehind im_X5_takesBehind sl_X5_takesBehind (hM 22 _ rfl (by decide)) rfl ⟨by decide, by decide⟩ (c_X5_takesBehind h a1 hM) rfl rfl (Nat.le_of_ble_eq_true rfl) (fun z3 => ?_)
            exact pw_zret C hR dX5_takes_133
          · refine pw_ite (fun e4_5 => ?_) (fun e4_5 => ?_)
            · refine pw_tsIn (tgt := 134) (off := 130) C dX5_takes_4 (by rw [e4_5]; decide) (by rw [e4_5]; decide) (by rw [e4_5]; decide) (by decide) ?_
              refine pw_iload_n C dX5_takes_134 rfl rfl ?_
              refine pw_i2l C dX5_takes_135 ?_
              refine pw_ldc2 (C := C) cl_X5_111 dX5_takes_136 ?_
              refine pw_ldc2 (C := C) cl_X5_89 dX5_takes_139 ?_
              refine pw_callSt (as := [.long (a1).toInt64, .long 49, .long 57]) (rest := []) C dX5_takes_142 ml_X5_54 cw_X5_in st_X5_in ⟨by decide, by decide⟩ (c_X5_in h (a1).toInt64 49 57) rfl rfl (Nat.le_of_ble_eq_true rfl) ?_
              refine pw_if_eq (tgt := 166) C dX5_takes_145 (by decide) (fun c14 => ?_) (fun c14 => ?_)
              · refine pw_iconst (v := 0) C dX5_takes_166 (by decide) ?_
                exact pw_zret' C hR dX5_takes_167 (by decide)
              · refine pw_aload_n C dX5_takes_148 rfl rfl ?_
                refine pw_bipush (v := 10) C dX5_takes_149 (by decide) ?_
                refine pw_iload_n C dX5_takes_151 rfl rfl ?_
                refine pw_iadd C dX5_takes_152 ?_
                refine pw_bipush (v := 48) C dX5_takes_153 (by decide) ?_
                refine pw_isub C dX5_takes_155 ?_
                refine pw_callViq (as := [.int ((10 + a1) - 48)]) (rest := []) C dX5_takes_156 ml_X5_84 cw_X5_takesCluster im_X5_takesCluster sl_X5_takesCluster (hM 22 _ rfl (by decide)) rfl ⟨by decide, by decide⟩ (c_X5_takesCluster N h ((10 + a1) - 48) hM) rfl rfl (Nat.le_of_ble_eq_true rfl) (fun z2 => ?_)
                refine pw_if_eq (tgt := 166) C dX5_takes_159 (by decide) (fun c15 => ?_) (fun c15 => ?_)
                · refine pw_iconst (v := 0) C dX5_takes_166 (by decide) ?_
                  exact pw_zret' C hR dX5_takes_167 (by decide)
                · refine pw_iconst (v := 1) C dX5_takes_162 (by decide) ?_
                  refine pw_goto (tgt := 167) C dX5_takes_163 (by decide) ?_
                  exact pw_zret' C hR dX5_takes_167 (by decide)
            · refine pw_tsOut (tgt := 168) C dX5_takes_4 (by have := i_neN (z := 0) (by decide) e4_0; have := i_neN (z := 1) (by decide) e4_1; have := i_neN (z := 2) (by decide) e4_2; have := i_neN (z := 3) (by decide) e4_3; have := i_neN (z := 4) (by decide) e4_4; have := i_neN (z := 5) (by decide) e4_5; omega) (by decide) ?_
              refine pw_iload_n C dX5_takes_168 rfl rfl ?_
              refine pw_i2l C dX5_takes_169 ?_
              refine pw_ldc2 (C := C) cl_X5_113 dX5_takes_170 ?_
              refine pw_ldc2 (C := C) cl_X5_89 dX5_takes_173 ?_
              refine pw_callSt (as := [.long (a1).toInt64, .long 50, .long 57]) (rest := []) C dX5_takes_176 ml_X5_54 cw_X5_in st_X5_in ⟨by decide, by decide⟩ (c_X5_in h (a1).toInt64 50 57) rfl rfl (Nat.le_of_ble_eq_true rfl) ?_
              refine pw_if_eq (tgt := 200) C dX5_takes_179 (by decide) (fun c16 => ?_) (fun c16 => ?_)
              · refine pw_iconst (v := 0) C dX5_takes_200 (by decide) ?_
                exact pw_zret' C hR dX5_takes_201 (by decide)
              · refine pw_aload_n C dX5_takes_182 rfl rfl ?_
                refine pw_bipush (v := 20) C dX5_takes_183 (by decide) ?_
                refine pw_iload_n C dX5_takes_185 rfl rfl ?_
                refine pw_iadd C dX5_takes_186 ?_
                refine pw_bipush (v := 48) C dX5_takes_187 (by decide) ?_
                refine pw_isub C dX5_takes_189 ?_
                refine pw_callViq (as := [.int ((20 + a1) - 48)]) (rest := []) C dX5_takes_190 ml_X5_84 cw_X5_takesCluster im_X5_takesCluster sl_X5_takesCluster (hM 22 _ rfl (by decide)) rfl ⟨by decide, by decide⟩ (c_X5_takesCluster N h ((20 + a1) - 48) hM) rfl rfl (Nat.le_of_ble_eq_true rfl) (fun z1 => ?_)
                refine pw_if_eq (tgt := 200) C dX5_takes_193 (by decide) (fun c17 => ?_) (fun c17 => ?_)
                · refine pw_iconst (v := 0) C dX5_takes_200 (by decide) ?_
                  exact pw_zret' C hR dX5_takes_201 (by decide)
                · refine pw_iconst (v := 1) C dX5_takes_196 (by decide) ?_
                  refine pw_goto (tgt := 201) C dX5_takes_197 (by decide) ?_
                  exact pw_zret' C hR dX5_takes_201 (by decide)
set_option maxRecDepth 100000 in
set_option maxHeartbeats 4000000 in
theorem kX5_beneath_L4 {w : Wd} {x : Cz} (C : Ok w x cX5_beneath RX5 3) (hR : OkI w x .int) (hN : xN x = 4) (N : Nat) (h : Hp) (a1 : Int32) (hM : LM w)  : ∀ (n : Nat) (u2 : Int32) (u3 : Int32), PW w x 4 [some (.ref (w.2.1 22)), some (.int a1), some (.int u2), some (.int u3)] [] h (Option.map (fun v => (v, h)) (fX5_beneath_L4 N h a1 n u2 u3)) := by
  intro n
  induction n with
  | zero => intro u2 u3; rw [fX5_beneath_L4]; exact pw_none
  | succ n ih =>
    intro u2 u3
    rw [fX5_beneath_L4]
    refine pw_iload_n C dX5_beneath_4 rfl rfl ?_
    refine pw_aload_n C dX5_beneath_5 rfl rfl ?_
    refine pw_getr (q2 := 23) C (hM 22 _ rfl (by decide)) rfl (k := 0) (by decide) rfl fl_X5_7 dX5_beneath_6 ?_
    refine pw_iconst (v := 0) C dX5_beneath_9 (by decide) ?_
    refine pw_ialdc (k := 0) C (hM 23 _ rfl (by decide)) (by decide +kernel) dX5_beneath_10 ?_
    refine pm_icmp_ge (tgt := 50) C dX5_beneath_11 (by decide) (fun c4 => ?_) (fun c4 => ?_)
    · refine pw_aload_n C dX5_beneath_14 rfl rfl ?_
      refine pw_iload_n C dX5_beneath_15 rfl rfl ?_
      refine pw_iload_n C dX5_beneath_16 rfl rfl ?_
      refine pm_callVp (as := [.int u3, .int a1]) (rest := []) C dX5_beneath_17 ml_X5_142 cw_X5_isUnder im_X5_isUnder sl_X5_isUnder (hM 22 _ rfl (by decide)) rfl ⟨by decide, by decide⟩ (c_X5_isUnder h u3 a1 hM) rfl rfl (Nat.le_of_ble_eq_true rfl) (fun v1 => ?_)
      refine pm_if_eq (tgt := 44) C dX5_beneath_20 (by decide) (fun c5 => ?_) (fun c5 => ?_)
      · refine pw_iinc (lv2 := [some (.ref (w.2.1 22)), some (.int a1), some (.int u2), some (.int (u3 + 1))]) C dX5_beneath_44 rfl rfl hN (by decide) rfl rfl ?_
        refine pw_goto (tgt := 4) C dX5_beneath_47 (by decide) ?_
        exact ih u2 (u3 + 1)
      · refine pw_aload_n C dX5_beneath_23 rfl rfl ?_
        refine pw_iload_n C dX5_beneath_24 rfl rfl ?_
        refine pm_callVp (as := [.int u3]) (rest := []) C dX5_beneath_25 ml_X5_146 cw_X5_value im_X5_value sl_X5_value (hM 22 _ rfl (by decide)) rfl ⟨by decide, by decide⟩ (c_X5_value N h u3 hM) rfl rfl (Nat.le_of_ble_eq_true rfl) (fun v2 => ?_)
        refine pw_bipush (v := (-4)) C dX5_beneath_28 (by decide) ?_
        refine pm_icmp_ne (tgt := 36) C dX5_beneath_30 (by decide) (fun c6 => ?_) (fun c6 => ?_)
        · refine pw_bipush (v := (-4)) C dX5_beneath_33 (by decide) ?_
          exact pm_iret C hR dX5_beneath_35
        · refine pw_iload_n C dX5_beneath_36 rfl rfl ?_
          refine pw_aload_n C dX5_beneath_37 rfl rfl ?_
          refine pw_iload_n C dX5_beneath_38 rfl rfl ?_
          refine pm_callVp (as := [.int u3]) (rest := [.int u2]) C dX5_beneath_39 ml_X5_146 cw_X5_value im_X5_value sl_X5_value (hM 22 _ rfl (by decide)) rfl ⟨by decide, by decide⟩ (c_X5_value N h u3 hM) rfl rfl (Nat.le_of_ble_eq_true rfl) (fun v3 => ?_)
          refine pw_iadd C dX5_beneath_42 ?_
          refine pw_istore_n (lv2 := [some (.ref (w.2.1 22)), some (.int a1), some (.int (u2 + v3)), some (.int u3)]) C dX5_beneath_43 rfl hN (by decide) rfl rfl ?_
          refine pw_iinc (lv2 := [some (.ref (w.2.1 22)), some (.int a1), some (.int (u2 + v3)), some (.int (u3 + 1))]) C dX5_beneath_44 rfl rfl hN (by decide) rfl rfl ?_
          refine pw_goto (tgt := 4) C dX5_beneath_47 (by decide) ?_
          exact ih (u2 + v3) (u3 + 1)
    · refine pw_iload_n C dX5_beneath_50 rfl rfl ?_
      exact pm_iret C hR dX5_beneath_51
set_option maxRecDepth 100000 in
set_option maxHeartbeats 4000000 in
theorem c_X5_beneath {l : Launch} {w : Wd} {A : Nat → Prop} (N : Nat) (h : Hp) (a1 : Int32) (hM : LM w) : ConI l yX5_beneath cX5_beneath 4 .int 3 w A [.ref (w.2.1 22), .int a1] h (Option.map (fun v => (v, h)) (fX5_beneath N h a1)) := by
  refine ConI.of (lv0 := [some (.ref (w.2.1 22)), some (.int a1), none, none]) (by decide +kernel) (Nat.le_of_ble_eq_true rfl) rfl (fun x C hR hN => ?_)
  unfold fX5_beneath
  refine pw_iconst (v := 0) C dX5_beneath_0 (by decide) ?_
  refine pw_istore_n (lv2 := [some (.ref (w.2.1 22)), some (.int a1), some (.int 0), none]) C dX5_beneath_1 rfl hN (by decide) rfl rfl ?_
  refine pw_iconst (v := 0) C dX5_beneath_2 (by decide) ?_
  refine pw_istore_n (lv2 := [some (.ref (w.2.1 22)), some (.int a1), some (.int 0), some (.int 0)]) C dX5_beneath_3 rfl hN (by decide) rfl rfl ?_
  exact kX5_beneath_L4 C hR hN N h a1 hM N 0 0
set_option maxRecDepth 100000 in
set_option maxHeartbeats 4000000 in
theorem kX5_manyOf_L4 {w : Wd} {x : Cz} (C : Ok w x cX5_manyOf RX5 3) (hR : OkI w x .int) (hN : xN x = 4) (N : Nat) (h : Hp) (a1 : Int32) (hM : LM w)  : ∀ (n : Nat) (u2 : Int32) (u3 : Int32), PW w x 4 [some (.ref (w.2.1 22)), some (.int a1), some (.int u2), some (.int u3)] [] h (Option.map (fun v => (v, h)) (fX5_manyOf_L4 N h a1 n u2 u3)) := by
  intro n
  induction n with
  | zero => intro u2 u3; rw [fX5_manyOf_L4]; exact pw_none
  | succ n ih =>
    intro u2 u3
    rw [fX5_manyOf_L4]
    refine pw_iload_n C dX5_manyOf_4 rfl rfl ?_
    refine pw_aload_n C dX5_manyOf_5 rfl rfl ?_
    refine pw_getr (q2 := 23) C (hM 22 _ rfl (by decide)) rfl (k := 0) (by decide) rfl fl_X5_7 dX5_manyOf_6 ?_
    refine pw_iconst (v := 0) C dX5_manyOf_9 (by decide) ?_
    refine pw_ialdc (k := 0) C (hM 23 _ rfl (by decide)) (by decide +kernel) dX5_manyOf_10 ?_
    refine pm_icmp_ge (tgt := 37) C dX5_manyOf_11 (by decide) (fun c2 => ?_) (fun c2 => ?_)
    · refine pw_iload_n C dX5_manyOf_14 rfl rfl ?_
      refine pw_aload_n C dX5_manyOf_15 rfl rfl ?_
      refine pw_iload_n C dX5_manyOf_16 rfl rfl ?_
      refine pw_iload_n C dX5_manyOf_17 rfl rfl ?_
      refine pm_callVp (as := [.int u3, .int a1]) (rest := [.int u2]) C dX5_manyOf_18 ml_X5_173 cw_X5_isOf im_X5_isOf sl_X5_isOf (hM 22 _ rfl (by decide)) rfl ⟨by decide, by decide⟩ (c_X5_isOf h u3 a1 hM) rfl rfl (Nat.le_of_ble_eq_true rfl) (fun v1 => ?_)
      refine PW.eq (apply_ite (fun z_ => Option.map (fun v => (v, h)) (fX5_manyOf_L4 N h a1 n z_ (u3 + 1))) _ _ _) ?_
      refine pw_if_eq (tgt := 28) C dX5_manyOf_21 (by decide) (fun c3 => ?_) (fun c3 => ?_)
      · refine pw_iconst (v := 0) C dX5_manyOf_28 (by decide) ?_
        refine pw_iadd C dX5_manyOf_29 ?_
        refine pw_istore_n (lv2 := [some (.ref (w.2.1 22)), some (.int a1), some (.int (u2 + 0)), some (.int u3)]) C dX5_manyOf_30 rfl hN (by decide) rfl rfl ?_
        refine pw_iinc (lv2 := [some (.ref (w.2.1 22)), some (.int a1), some (.int (u2 + 0)), some (.int (u3 + 1))]) C dX5_manyOf_31 rfl rfl hN (by decide) rfl rfl ?_
        refine pw_goto (tgt := 4) C dX5_manyOf_34 (by decide) ?_
        exact ih (u2 + 0) (u3 + 1)
      · refine pw_iconst (v := 1) C dX5_manyOf_24 (by decide) ?_
        refine pw_goto (tgt := 29) C dX5_manyOf_25 (by decide) ?_
        refine pw_iadd C dX5_manyOf_29 ?_
        refine pw_istore_n (lv2 := [some (.ref (w.2.1 22)), some (.int a1), some (.int (u2 + 1)), some (.int u3)]) C dX5_manyOf_30 rfl hN (by decide) rfl rfl ?_
        refine pw_iinc (lv2 := [some (.ref (w.2.1 22)), some (.int a1), some (.int (u2 + 1)), some (.int (u3 + 1))]) C dX5_manyOf_31 rfl rfl hN (by decide) rfl rfl ?_
        refine pw_goto (tgt := 4) C dX5_manyOf_34 (by decide) ?_
        exact ih (u2 + 1) (u3 + 1)
    · refine pw_iload_n C dX5_manyOf_37 rfl rfl ?_
      exact pm_iret C hR dX5_manyOf_38
set_option maxRecDepth 100000 in
set_option maxHeartbeats 4000000 in
theorem c_X5_manyOf {l : Launch} {w : Wd} {A : Nat → Prop} (N : Nat) (h : Hp) (a1 : Int32) (hM : LM w) : ConI l yX5_manyOf cX5_manyOf 4 .int 3 w A [.ref (w.2.1 22), .int a1] h (Option.map (fun v => (v, h)) (fX5_manyOf N h a1)) := by
  refine ConI.of (lv0 := [some (.ref (w.2.1 22)), some (.int a1), none, none]) (by decide +kernel) (Nat.le_of_ble_eq_true rfl) rfl (fun x C hR hN => ?_)
  unfold fX5_manyOf
  refine pw_iconst (v := 0) C dX5_manyOf_0 (by decide) ?_
  refine pw_istore_n (lv2 := [some (.ref (w.2.1 22)), some (.int a1), some (.int 0), none]) C dX5_manyOf_1 rfl hN (by decide) rfl rfl ?_
  refine pw_iconst (v := 0) C dX5_manyOf_2 (by decide) ?_
  refine pw_istore_n (lv2 := [some (.ref (w.2.1 22)), some (.int a1), some (.int 0), some (.int 0)]) C dX5_manyOf_3 rfl hN (by decide) rfl rfl ?_
  exact kX5_manyOf_L4 C hR hN N h a1 hM N 0 0
set_option maxRecDepth 100000 in
set_option maxHeartbeats 4000000 in
theorem kX5_pendantAt_L27 {w : Wd} {x : Cz} (C : Ok w x cX5_pendantAt RX5 3) (hR : OkI w x .int) (hN : xN x = 6) (N : Nat) (h : Hp) (a1 : Int32) (a2 : Int32) (hM : LM w) (k2 : Int32 → Option Int32) (hk2 : ∀ (u3 : Int32), PW w x 2 [some (.ref (w.2.1 22)), some (.int a1), some (.int a2), some (.int u3), none, none] [] h (Option.map (fun v => (v, h)) (k2 u3))) : ∀ (n : Nat) (u3 : Int32) (u4 : Int32) (u5 : Int32), PW w x 27 [some (.ref (w.2.1 22)), some (.int a1), some (.int a2), some (.int u3), some (.int u4), some (.int u5)] [] h (Option.map (fun v => (v, h)) (fX5_pendantAt_L27 N h a1 a2 k2 n u3 u4 u5)) := by
  intro n
  induction n with
  | zero => intro u3 u4 u5; rw [fX5_pendantAt_L27]; exact pw_none
  | succ n ih =>
    intro u3 u4 u5
    rw [fX5_pendantAt_L27]
    refine pw_iload C dX5_pendantAt_27 rfl ?_
    refine pw_aload_n C dX5_pendantAt_29 rfl rfl ?_
    refine pw_getr (q2 := 23) C (hM 22 _ rfl (by decide)) rfl (k := 0) (by decide) rfl fl_X5_7 dX5_pendantAt_30 ?_
    refine pw_iconst (v := 0) C dX5_pendantAt_33 (by decide) ?_
    refine pw_ialdc (k := 0) C (hM 23 _ rfl (by decide)) (by decide +kernel) dX5_pendantAt_34 ?_
    refine pm_icmp_ge (tgt := 88) C dX5_pendantAt_35 (by decide) (fun c5 => ?_) (fun c5 => ?_)
    · refine pw_iload C dX5_pendantAt_38 rfl ?_
      refine pw_aload_n C dX5_pendantAt_40 rfl rfl ?_
      refine pw_iload C dX5_pendantAt_41 rfl ?_
      refine pw_iload_n C dX5_pendantAt_43 rfl rfl ?_
      refine pm_callVp (as := [.int u5, .int a1]) (rest := [.int u4]) C dX5_pendantAt_44 ml_X5_173 cw_X5_isOf im_X5_isOf sl_X5_isOf (hM 22 _ rfl (by decide)) rfl ⟨by decide, by decide⟩ (c_X5_isOf h u5 a1 hM) rfl rfl (Nat.le_of_ble_eq_true rfl) (fun v2 => ?_)
      refine pm_if_eq (tgt := 78) C dX5_pendantAt_47 (by decide) (fun c6 => ?_) (fun c6 => ?_)
      · refine pw_iconst (v := 0) C dX5_pendantAt_78 (by decide) ?_
        refine pw_iadd C dX5_pendantAt_79 ?_
        refine pw_istore (lv2 := [some (.ref (w.2.1 22)), some (.int a1), some (.int a2), some (.int u3), some (.int (u4 + 0)), some (.int u5)]) C dX5_pendantAt_80 hN (by decide) rfl rfl ?_
        refine pw_iinc (lv2 := [some (.ref (w.2.1 22)), some (.int a1), some (.int a2), some (.int u3), some (.int (u4 + 0)), some (.int (u5 + 1))]) C dX5_pendantAt_82 rfl rfl hN (by decide) rfl rfl ?_
        refine pw_goto (tgt := 27) C dX5_pendantAt_85 (by decide) ?_
        exact ih u3 (u4 + 0) (u5 + 1)
      · refine pw_aload_n C dX5_pendantAt_50 rfl rfl ?_
        refine pw_getr (q2 := 23) C (hM 22 _ rfl (by decide)) rfl (k := 0) (by decide) rfl fl_X5_7 dX5_pendantAt_51 ?_
        refine pw_sipush (v := 146) C dX5_pendantAt_54 (by decide) ?_
        refine pw_iload C dX5_pendantAt_57 rfl ?_
        refine pw_iadd C dX5_pendantAt_59 ?_
        refine pm_ialdb C (hM 23 _ rfl (by decide)) dX5_pendantAt_60 (fun v3 => ?_)
        refine pw_aload_n C dX5_pendantAt_61 rfl rfl ?_
        refine pw_getr (q2 := 23) C (hM 22 _ rfl (by decide)) rfl (k := 0) (by decide) rfl fl_X5_7 dX5_pendantAt_62 ?_
        refine pw_sipush (v := 146) C dX5_pendantAt_65 (by decide) ?_
        refine pw_iload_n C dX5_pendantAt_68 rfl rfl ?_
        refine pw_iadd C dX5_pendantAt_69 ?_
        refine pm_ialdb C (hM 23 _ rfl (by decide)) dX5_pendantAt_70 (fun v4 => ?_)
        refine PW.eq (apply_ite (fun z_ => Option.map (fun v => (v, h)) (fX5_pendantAt_L27 N h a1 a2 k2 n u3 z_ (u5 + 1))) _ _ _) ?_
        refine pw_icmp_ge (tgt := 78) C dX5_pendantAt_71 (by decide) (fun c7 => ?_) (fun c7 => ?_)
        · refine pw_iconst (v := 1) C dX5_pendantAt_74 (by decide) ?_
          refine pw_goto (tgt := 79) C dX5_pendantAt_75 (by decide) ?_
          refine pw_iadd C dX5_pendantAt_79 ?_
          refine pw_istore (lv2 := [some (.ref (w.2.1 22)), some (.int a1), some (.int a2), some (.int u3), some (.int (u4 + 1)), some (.int u5)]) C dX5_pendantAt_80 hN (by decide) rfl rfl ?_
          refine pw_iinc (lv2 := [some (.ref (w.2.1 22)), some (.int a1), some (.int a2), some (.int u3), some (.int (u4 + 1)), some (.int (u5 + 1))]) C dX5_pendantAt_82 rfl rfl hN (by decide) rfl rfl ?_
          refine pw_goto (tgt := 27) C dX5_pendantAt_85 (by decide) ?_
          exact ih u3 (u4 + 1) (u5 + 1)
        · refine pw_iconst (v := 0) C dX5_pendantAt_78 (by decide) ?_
          refine pw_iadd C dX5_pendantAt_79 ?_
          refine pw_istore (lv2 := [some (.ref (w.2.1 22)), some (.int a1), some (.int a2), some (.int u3), some (.int (u4 + 0)), some (.int u5)]) C dX5_pendantAt_80 hN (by decide) rfl rfl ?_
          refine pw_iinc (lv2 := [some (.ref (w.2.1 22)), some (.int a1), some (.int a2), some (.int u3), some (.int (u4 + 0)), some (.int (u5 + 1))]) C dX5_pendantAt_82 rfl rfl hN (by decide) rfl rfl ?_
          refine pw_goto (tgt := 27) C dX5_pendantAt_85 (by decide) ?_
          exact ih u3 (u4 + 0) (u5 + 1)
    · refine pw_iload C dX5_pendantAt_88 rfl ?_
      refine pw_iload_n C dX5_pendantAt_90 rfl rfl ?_
      refine pm_icmp_ne (tgt := 96) C dX5_pendantAt_91 (by decide) (fun c8 => ?_) (fun c8 => ?_)
      · refine pw_iload_n C dX5_pendantAt_94 rfl rfl ?_
        exact pm_iret C hR dX5_pendantAt_95
      · refine pw_iinc (lv2 := [some (.ref (w.2.1 22)), some (.int a1), some (.int a2), some (.int (u3 + 1)), some (.int u4), some (.int u5)]) C dX5_pendantAt_96 rfl rfl hN (by decide) rfl rfl ?_
        refine pw_goto (tgt := 2) C dX5_pendantAt_99 (by decide) ?_
        exact pw_lv (hk2 (u3 + 1)) ⟨rfl, rfl, rfl, rfl, trivial⟩
set_option maxRecDepth 100000 in
set_option maxHeartbeats 4000000 in
theorem kX5_pendantAt_L2 {w : Wd} {x : Cz} (C : Ok w x cX5_pendantAt RX5 3) (hR : OkI w x .int) (hN : xN x = 6) (N : Nat) (h : Hp) (a1 : Int32) (a2 : Int32) (hM : LM w)  : ∀ (n : Nat) (u3 : Int32), PW w x 2 [some (.ref (w.2.1 22)), some (.int a1), some (.int a2), some (.int u3), none, none] [] h (Option.map (fun v => (v, h)) (fX5_pendantAt_L2 N h a1 a2 n u3)) := by
  intro n
  induction n with
  | zero => intro u3; rw [fX5_pendantAt_L2]; exact pw_none
  | succ n ih =>
    intro u3
    rw [fX5_pendantAt_L2]
    refine pw_iload_n C dX5_pendantAt_2 rfl rfl ?_
    refine pw_aload_n C dX5_pendantAt_3 rfl rfl ?_
    refine pw_getr (q2 := 23) C (hM 22 _ rfl (by decide)) rfl (k := 0) (by decide) rfl fl_X5_7 dX5_pendantAt_4 ?_
    refine pw_iconst (v := 0) C dX5_pendantAt_7 (by decide) ?_
    refine pw_ialdc (k := 0) C (hM 23 _ rfl (by decide)) (by decide +kernel) dX5_pendantAt_8 ?_
    refine pm_icmp_ge (tgt := 102) C dX5_pendantAt_9 (by decide) (fun c9 => ?_) (fun c9 => ?_)
    · refine pw_aload_n C dX5_pendantAt_12 rfl rfl ?_
      refine pw_iload_n C dX5_pendantAt_13 rfl rfl ?_
      refine pw_iload_n C dX5_pendantAt_14 rfl rfl ?_
      refine pm_callVp (as := [.int u3, .int a1]) (rest := []) C dX5_pendantAt_15 ml_X5_173 cw_X5_isOf im_X5_isOf sl_X5_isOf (hM 22 _ rfl (by decide)) rfl ⟨by decide, by decide⟩ (c_X5_isOf h u3 a1 hM) rfl rfl (Nat.le_of_ble_eq_true rfl) (fun v1 => ?_)
      refine pm_if_eq (tgt := 96) C dX5_pendantAt_18 (by decide) (fun c10 => ?_) (fun c10 => ?_)
      · refine pw_iinc (lv2 := [some (.ref (w.2.1 22)), some (.int a1), some (.int a2), some (.int (u3 + 1)), none, none]) C dX5_pendantAt_96 rfl rfl hN (by decide) rfl rfl ?_
        refine pw_goto (tgt := 2) C dX5_pendantAt_99 (by decide) ?_
        exact ih (u3 + 1)
      · refine pw_iconst (v := 0) C dX5_pendantAt_21 (by decide) ?_
        refine pw_istore (lv2 := [some (.ref (w.2.1 22)), some (.int a1), some (.int a2), some (.int u3), some (.int 0), none]) C dX5_pendantAt_22 hN (by decide) rfl rfl ?_
        refine pw_iconst (v := 0) C dX5_pendantAt_24 (by decide) ?_
        refine pw_istore (lv2 := [some (.ref (w.2.1 22)), some (.int a1), some (.int a2), some (.int u3), some (.int 0), some (.int 0)]) C dX5_pendantAt_25 hN (by decide) rfl rfl ?_
        exact kX5_pendantAt_L27 C hR hN N h a1 a2 hM (fX5_pendantAt_L2 N h a1 a2 n) ih N u3 0 0
    · refine pw_bipush (v := (-4)) C dX5_pendantAt_102 (by decide) ?_
      exact pm_iret C hR dX5_pendantAt_104
set_option maxRecDepth 100000 in
set_option maxHeartbeats 4000000 in
theorem c_X5_pendantAt {l : Launch} {w : Wd} {A : Nat → Prop} (N : Nat) (h : Hp) (a1 : Int32) (a2 : Int32) (hM : LM w) : ConI l yX5_pendantAt cX5_pendantAt 6 .int 3 w A [.ref (w.2.1 22), .int a1, .int a2] h (Option.map (fun v => (v, h)) (fX5_pendantAt N h a1 a2)) := by
  refine ConI.of (lv0 := [some (.ref (w.2.1 22)), some (.int a1), some (.int a2), none, none, none]) (by decide +kernel) (Nat.le_of_ble_eq_true rfl) rfl (fun x C hR hN => ?_)
  unfold fX5_pendantAt
  refine pw_iconst (v := 0) C dX5_pendantAt_0 (by decide) ?_
  refine pw_istore_n (lv2 := [some (.ref (w.2.1 22)), some (.int a1), some (.int a2), some (.int 0), none, none]) C dX5_pendantAt_1 rfl hN (by decide) rfl rfl ?_
  exact kX5_pendantAt_L2 C hR hN N h a1 a2 hM N 0
