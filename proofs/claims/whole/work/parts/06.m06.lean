set_option maxRecDepth 100000 in
set_option maxHeartbeats 4000000 in
theorem c_X5_tie {l : Launch} {w : Wd} {A : Nat → Prop} (N : Nat) (h : Hp) (a1 : Int32) (a2 : Int32) (hM : LM w) : ConI l yX5_tie cX5_tie 4 .int 3 w A [.ref (w.2.1 22), .int a1, .int a2] h ((fX5_tie N h a1 a2)) := by
  refine ConI.of (lv0 := [some (.ref (w.2.1 22)), some (.int a1), some (.int a2), none]) (by decide +kernel) (Nat.le_of_ble_eq_true rfl) rfl (fun x C hR hN => ?_)
  unfold fX5_tie
  refine pw_aload_n C dX5_tie_0 rfl rfl ?_
  refine pw_iload_n C dX5_tie_1 rfl rfl ?_
  refine pw_callVt (as := [.int a1]) (rest := []) C dX5_tie_2 ml_X5_156 cw_X5_isCord im_X5_isCord sl_X5_isCord (hM 22 _ rfl (by decide)) rfl ⟨by decide, by decide⟩ (c_X5_isCord h a1 hM) rfl rfl (Nat.le_of_ble_eq_true rfl) ?_
  refine pw_if_eq (tgt := 12) C dX5_tie_5 (by decide) (fun c5 => ?_) (fun c5 => ?_)
  · refine pw_iconst (v := (-1)) C dX5_tie_12 (by decide) ?_
    exact pw_iret C hR dX5_tie_13
  · refine pw_iload_n C dX5_tie_8 rfl rfl ?_
    refine pw_if_ge (tgt := 14) C dX5_tie_9 (by decide) (fun c6 => ?_) (fun c6 => ?_)
    · refine pw_iconst (v := (-1)) C dX5_tie_12 (by decide) ?_
      exact pw_iret C hR dX5_tie_13
    · refine pw_iload_n C dX5_tie_14 rfl rfl ?_
      refine pw_aload_n C dX5_tie_15 rfl rfl ?_
      refine pw_getr (q2 := 23) C (hM 22 _ rfl (by decide)) rfl (k := 0) (by decide) rfl fl_X5_7 dX5_tie_16 ?_
      refine pw_bipush (v := 18) C dX5_tie_19 (by decide) ?_
      refine pw_iload_n C dX5_tie_21 rfl rfl ?_
      refine pw_iadd C dX5_tie_22 ?_
      refine pw_ialdb C (hM 23 _ rfl (by decide)) dX5_tie_23 (fun v1 => ?_)
      refine pw_callSp (as := [.int v1]) (rest := [.int a2]) C dX5_tie_24 ml_X5_201 cw_X5_power st_X5_power ⟨by decide, by decide⟩ (c_X5_power N h v1) rfl rfl (Nat.le_of_ble_eq_true rfl) (fun v2 => ?_)
      refine pw_icmp_lt (tgt := 33) C dX5_tie_27 (by decide) (fun c7 => ?_) (fun c7 => ?_)
      · refine pw_aload_n C dX5_tie_33 rfl rfl ?_
        refine pw_iload_n C dX5_tie_34 rfl rfl ?_
        refine pw_iload_n C dX5_tie_35 rfl rfl ?_
        refine pw_callVp (as := [.int a1, .int a2]) (rest := []) C dX5_tie_36 ml_X5_204 cw_X5_workFor im_X5_workFor sl_X5_workFor (hM 22 _ rfl (by decide)) rfl ⟨by decide, by decide⟩ (c_X5_workFor N h a1 a2 hM) rfl rfl (Nat.le_of_ble_eq_true rfl) (fun v3 => ?_)
        refine pw_istore_n (lv2 := [some (.ref (w.2.1 22)), some (.int a1), some (.int a2), some (.int v3)]) C dX5_tie_39 rfl hN (by decide) rfl rfl ?_
        refine pw_aload_n C dX5_tie_40 rfl rfl ?_
        refine pw_iload_n C dX5_tie_41 rfl rfl ?_
        refine pw_iload_n C dX5_tie_42 rfl rfl ?_
        refine pw_callVvq (as := [.int a1, .int a2]) (rest := []) C dX5_tie_43 ml_X5_207 cw_X5_ties im_X5_ties sl_X5_ties (hM 22 _ rfl (by decide)) rfl ⟨by decide, by decide⟩ (c_X5_ties N h a1 a2 hM) rfl rfl (Nat.le_of_ble_eq_true rfl) (fun z4 => ?_)
        refine pw_iload_n C dX5_tie_46 rfl rfl ?_
        exact pw_iret C hR dX5_tie_47
      · refine pw_bipush (v := (-2)) C dX5_tie_30 (by decide) ?_
        exact pw_iret C hR dX5_tie_32
set_option maxRecDepth 100000 in
set_option maxHeartbeats 4000000 in
theorem c_X5_more {l : Launch} {w : Wd} {A : Nat → Prop} (N : Nat) (h : Hp) (a1 : Int32) (a2 : Int32) (hM : LM w) : ConI l yX5_more cX5_more 4 .int 3 w A [.ref (w.2.1 22), .int a1, .int a2] h ((fX5_more N h a1 a2)) := by
  refine ConI.of (lv0 := [some (.ref (w.2.1 22)), some (.int a1), some (.int a2), none]) (by decide +kernel) (Nat.le_of_ble_eq_true rfl) rfl (fun x C hR hN => ?_)
  unfold fX5_more
  refine pw_aload_n C dX5_more_0 rfl rfl ?_
  refine pw_iload_n C dX5_more_1 rfl rfl ?_
  refine pw_callVt (as := [.int a1]) (rest := []) C dX5_more_2 ml_X5_156 cw_X5_isCord im_X5_isCord sl_X5_isCord (hM 22 _ rfl (by decide)) rfl ⟨by decide, by decide⟩ (c_X5_isCord h a1 hM) rfl rfl (Nat.le_of_ble_eq_true rfl) ?_
  refine pw_if_eq (tgt := 22) C dX5_more_5 (by decide) (fun c6 => ?_) (fun c6 => ?_)
  · refine pw_iconst (v := (-1)) C dX5_more_22 (by decide) ?_
    exact pw_iret C hR dX5_more_23
  · refine pw_iload_n C dX5_more_8 rfl rfl ?_
    refine pw_i2l C dX5_more_9 ?_
    refine pw_ldc2 (C := C) cl_X5_211 dX5_more_10 ?_
    refine pw_ldc2 (C := C) cl_X5_213 dX5_more_13 ?_
    refine pw_callSt (as := [.long (a2).toInt64, .long (-9999), .long 9999]) (rest := []) C dX5_more_16 ml_X5_54 cw_X5_in st_X5_in ⟨by decide, by decide⟩ (c_X5_in h (a2).toInt64 (-9999) 9999) rfl rfl (Nat.le_of_ble_eq_true rfl) ?_
    refine pw_if_ne (tgt := 24) C dX5_more_19 (by decide) (fun c7 => ?_) (fun c7 => ?_)
    · refine pw_iconst (v := (-1)) C dX5_more_22 (by decide) ?_
      exact pw_iret C hR dX5_more_23
    · refine pw_aload_n C dX5_more_24 rfl rfl ?_
      refine pw_iload_n C dX5_more_25 rfl rfl ?_
      refine pw_callVp (as := [.int a1]) (rest := []) C dX5_more_26 ml_X5_146 cw_X5_value im_X5_value sl_X5_value (hM 22 _ rfl (by decide)) rfl ⟨by decide, by decide⟩ (c_X5_value N h a1 hM) rfl rfl (Nat.le_of_ble_eq_true rfl) (fun v1 => ?_)
      refine pw_iload_n C dX5_more_29 rfl rfl ?_
      refine pw_iadd C dX5_more_30 ?_
      refine pw_istore_n (lv2 := [some (.ref (w.2.1 22)), some (.int a1), some (.int a2), some (.int (v1 + a2))]) C dX5_more_31 rfl hN (by decide) rfl rfl ?_
      refine pw_aload_n C dX5_more_32 rfl rfl ?_
      refine pw_iload_n C dX5_more_33 rfl rfl ?_
      refine pw_callVp (as := [.int a1]) (rest := []) C dX5_more_34 ml_X5_146 cw_X5_value im_X5_value sl_X5_value (hM 22 _ rfl (by decide)) rfl ⟨by decide, by decide⟩ (c_X5_value N h a1 hM) rfl rfl (Nat.le_of_ble_eq_true rfl) (fun v2 => ?_)
      refine pw_bipush (v := (-4)) C dX5_more_37 (by decide) ?_
      refine pw_icmp_eq (tgt := 66) C dX5_more_39 (by decide) (fun c8 => ?_) (fun c8 => ?_)
      · refine pw_bipush (v := (-2)) C dX5_more_66 (by decide) ?_
        exact pw_iret C hR dX5_more_68
      · refine pw_iload_n C dX5_more_42 rfl rfl ?_
        refine pw_i2l C dX5_more_43 ?_
        refine pw_lconst (v := 0) C dX5_more_44 (by decide) ?_
        refine pw_aload_n C dX5_more_45 rfl rfl ?_
        refine pw_getr (q2 := 23) C (hM 22 _ rfl (by decide)) rfl (k := 0) (by decide) rfl fl_X5_7 dX5_more_46 ?_
        refine pw_bipush (v := 18) C dX5_more_49 (by decide) ?_
        refine pw_iload_n C dX5_more_51 rfl rfl ?_
        refine pw_iadd C dX5_more_52 ?_
        refine pw_ialdb C (hM 23 _ rfl (by decide)) dX5_more_53 (fun v3 => ?_)
        refine pw_callSp (as := [.int v3]) (rest := [.long 0, .long ((v1 + a2)).toInt64]) C dX5_more_54 ml_X5_201 cw_X5_power st_X5_power ⟨by decide, by decide⟩ (c_X5_power N h v3) rfl rfl (Nat.le_of_ble_eq_true rfl) (fun v4 => ?_)
        refine pw_iconst (v := 1) C dX5_more_57 (by decide) ?_
        refine pw_isub C dX5_more_58 ?_
        refine pw_i2l C dX5_more_59 ?_
        refine pw_callSt (as := [.long ((v1 + a2)).toInt64, .long 0, .long ((v4 - 1)).toInt64]) (rest := []) C dX5_more_60 ml_X5_54 cw_X5_in st_X5_in ⟨by decide, by decide⟩ (c_X5_in h ((v1 + a2)).toInt64 0 ((v4 - 1)).toInt64) rfl rfl (Nat.le_of_ble_eq_true rfl) ?_
        refine pw_if_ne (tgt := 69) C dX5_more_63 (by decide) (fun c9 => ?_) (fun c9 => ?_)
        · refine pw_bipush (v := (-2)) C dX5_more_66 (by decide) ?_
          exact pw_iret C hR dX5_more_68
        · refine pw_aload_n C dX5_more_69 rfl rfl ?_
          refine pw_iload_n C dX5_more_70 rfl rfl ?_
          refine pw_iload_n C dX5_more_71 rfl rfl ?_
          refine pw_callVvq (as := [.int a1, .int (v1 + a2)]) (rest := []) C dX5_more_72 ml_X5_207 cw_X5_ties im_X5_ties sl_X5_ties (hM 22 _ rfl (by decide)) rfl ⟨by decide, by decide⟩ (c_X5_ties N h a1 (v1 + a2) hM) rfl rfl (Nat.le_of_ble_eq_true rfl) (fun z5 => ?_)
          refine pw_iload_n C dX5_more_75 rfl rfl ?_
          exact pw_iret C hR dX5_more_76
set_option maxRecDepth 100000 in
set_option maxHeartbeats 4000000 in
theorem kX5_layRoom_J136 {w : Wd} {x : Cz} (C : Ok w x cX5_layRoom RX5 3) (hR : OkV w x) (hN : xN x = 6) (N : Nat) (a1 : Int32) (hM : LM w) (k29 : Int32 → Hp → Option Rs) (hk29 : ∀ (u2 : Int32) (h : Hp), PW w x 29 [some (.ref (w.2.1 22)), some (.int a1), some (.int u2), none, none, none] [] h ((k29 u2 h))) (k75 : Int32 → Int32 → Int32 → Hp → Option Rs) (hk75 : ∀ (u2 : Int32) (u3 : Int32) (u4 : Int32) (h : Hp), PW w x 75 [some (.ref (w.2.1 22)), some (.int a1), some (.int u2), some (.int u3), some (.int u4), none] [] h ((k75 u2 u3 u4 h))) : ∀ (u2 : Int32) (u3 : Int32) (u4 : Int32) (u5 : Int32) (t0 : Int32) (t1 : Int32) (t2 : Int32) (h : Hp), PW w x 136 [some (.ref (w.2.1 22)), some (.int a1), some (.int u2), some (.int u3), some (.int u4), some (.int u5)] [.int t0, .int t1, .int t2, .ref (w.2.1 29)] h ((fX5_layRoom_J136 N a1 k29 k75 u2 u3 u4 u5 t0 t1 t2 h)) := by
  intro u2 u3 u4 u5 t0 t1 t2 h
  unfold fX5_layRoom_J136
  refine pw_iadd C dX5_layRoom_136 ?_
  refine pw_iast C (hM 29 _ rfl (by decide)) dX5_layRoom_137 ?_
  refine pw_nameh (fun g9 => ?_)
  refine pw_aload_n C dX5_layRoom_138 rfl rfl ?_
  refine pw_getr (q2 := 30) C (hM 22 _ rfl (by decide)) rfl (k := 13) (by decide) rfl fl_X5_31 dX5_layRoom_139 ?_
  refine pw_iload C dX5_layRoom_142 rfl ?_
  refine pw_dup2_11 C dX5_layRoom_144 rfl rfl ?_
  refine pw_ialdb C (hM 30 _ rfl (by decide)) dX5_layRoom_145 (fun v10 => ?_)
  refine pw_iload_n C dX5_layRoom_146 rfl rfl ?_
  refine pw_if_eq (tgt := 158) C dX5_layRoom_147 (by decide) (fun c13 => ?_) (fun c13 => ?_)
  · refine pw_iload C dX5_layRoom_158 rfl ?_
    refine pw_iadd C dX5_layRoom_160 ?_
    refine pw_iast C (hM 30 _ rfl (by decide)) dX5_layRoom_161 ?_
    refine pw_nameh (fun g11 => ?_)
    refine pw_iinc (lv2 := [some (.ref (w.2.1 22)), some (.int a1), some (.int u2), some (.int u3), some (.int (u4 + 1)), some (.int u5)]) C dX5_layRoom_162 rfl rfl hN (by decide) rfl rfl ?_
    refine pw_goto (tgt := 75) C dX5_layRoom_165 (by decide) ?_
    exact pw_lv (hk75 u2 u3 (u4 + 1) g11) ⟨rfl, rfl, rfl, rfl, rfl, trivial⟩
  · refine pw_bipush (v := 9) C dX5_layRoom_150 (by decide) ?_
    refine pw_iload C dX5_layRoom_152 rfl ?_
    refine pw_isub C dX5_layRoom_154 ?_
    refine pw_goto (tgt := 160) C dX5_layRoom_155 (by decide) ?_
    refine pw_iadd C dX5_layRoom_160 ?_
    refine pw_iast C (hM 30 _ rfl (by decide)) dX5_layRoom_161 ?_
    refine pw_nameh (fun g12 => ?_)
    refine pw_iinc (lv2 := [some (.ref (w.2.1 22)), some (.int a1), some (.int u2), some (.int u3), some (.int (u4 + 1)), some (.int u5)]) C dX5_layRoom_162 rfl rfl hN (by decide) rfl rfl ?_
    refine pw_goto (tgt := 75) C dX5_layRoom_165 (by decide) ?_
    exact pw_lv (hk75 u2 u3 (u4 + 1) g12) ⟨rfl, rfl, rfl, rfl, rfl, trivial⟩
set_option maxRecDepth 100000 in
set_option maxHeartbeats 4000000 in
theorem kX5_layRoom_J102 {w : Wd} {x : Cz} (C : Ok w x cX5_layRoom RX5 3) (hR : OkV w x) (hN : xN x = 6) (N : Nat) (a1 : Int32) (hM : LM w) (k29 : Int32 → Hp → Option Rs) (hk29 : ∀ (u2 : Int32) (h : Hp), PW w x 29 [some (.ref (w.2.1 22)), some (.int a1), some (.int u2), none, none, none] [] h ((k29 u2 h))) (k75 : Int32 → Int32 → Int32 → Hp → Option Rs) (hk75 : ∀ (u2 : Int32) (u3 : Int32) (u4 : Int32) (h : Hp), PW w x 75 [some (.ref (w.2.1 22)), some (.int a1), some (.int u2), some (.int u3), some (.int u4), none] [] h ((k75 u2 u3 u4 h))) : ∀ (u2 : Int32) (u3 : Int32) (u4 : Int32) (h : Hp), PW w x 102 [some (.ref (w.2.1 22)), some (.int a1), some (.int u2), some (.int u3), some (.int u4), none] [] h ((fX5_layRoom_J102 N a1 k29 k75 u2 u3 u4 h)) := by
  intro u2 u3 u4 h
  unfold fX5_layRoom_J102
  refine pw_aload_n C dX5_layRoom_102 rfl rfl ?_
  refine pw_iload_n C dX5_layRoom_103 rfl rfl ?_
  refine pw_iload C dX5_layRoom_104 rfl ?_
  refine pw_callVp (as := [.int u2, .int u4]) (rest := []) C dX5_layRoom_106 ml_X5_134 cw_X5_knot0 im_X5_knot0 sl_X5_knot0 (hM 22 _ rfl (by decide)) rfl ⟨by decide, by decide⟩ (c_X5_knot0 h u2 u4 hM) rfl rfl (Nat.le_of_ble_eq_true rfl) (fun v7 => ?_)
  refine pw_bipush (v := 10) C dX5_layRoom_109 (by decide) ?_
  refine pw_irem C dX5_layRoom_111 (by decide) ?_
  refine pw_istore (lv2 := [some (.ref (w.2.1 22)), some (.int a1), some (.int u2), some (.int u3), some (.int u4), some (.int (v7 - v7 / 10 * 10))]) C dX5_layRoom_112 hN (by decide) rfl rfl ?_
  refine pw_aload_n C dX5_layRoom_114 rfl rfl ?_
  refine pw_getr (q2 := 29) C (hM 22 _ rfl (by decide)) rfl (k := 12) (by decide) rfl fl_X5_28 dX5_layRoom_115 ?_
  refine pw_iload C dX5_layRoom_118 rfl ?_
  refine pw_dup2_11 C dX5_layRoom_120 rfl rfl ?_
  refine pw_ialdb C (hM 29 _ rfl (by decide)) dX5_layRoom_121 (fun v8 => ?_)
  refine pw_iload_n C dX5_layRoom_122 rfl rfl ?_
  refine PW.eq (apply_ite (fun z_ => (fX5_layRoom_J136 N a1 k29 k75 u2 u3 u4 (v7 - v7 / 10 * 10) z_ v8 u4 h)) _ _ _) ?_
  refine pw_if_eq (tgt := 131) C dX5_layRoom_123 (by decide) (fun c14 => ?_) (fun c14 => ?_)
  · refine pw_bipush (v := 9) C dX5_layRoom_131 (by decide) ?_
    refine pw_iload C dX5_layRoom_133 rfl ?_
    refine pw_isub C dX5_layRoom_135 ?_
    exact kX5_layRoom_J136 C hR hN N a1 hM k29 hk29 k75 hk75 u2 u3 u4 (v7 - v7 / 10 * 10) (9 - (v7 - v7 / 10 * 10)) v8 u4 h
  · refine pw_iload C dX5_layRoom_126 rfl ?_
    refine pw_goto (tgt := 136) C dX5_layRoom_128 (by decide) ?_
    exact kX5_layRoom_J136 C hR hN N a1 hM k29 hk29 k75 hk75 u2 u3 u4 (v7 - v7 / 10 * 10) (v7 - v7 / 10 * 10) v8 u4 h
set_option maxRecDepth 100000 in
set_option maxHeartbeats 4000000 in
theorem kX5_layRoom_L75 {w : Wd} {x : Cz} (C : Ok w x cX5_layRoom RX5 3) (hR : OkV w x) (hN : xN x = 6) (N : Nat) (a1 : Int32) (hM : LM w) (k29 : Int32 → Hp → Option Rs) (hk29 : ∀ (u2 : Int32) (h : Hp), PW w x 29 [some (.ref (w.2.1 22)), some (.int a1), some (.int u2), none, none, none] [] h ((k29 u2 h))) : ∀ (n : Nat) (u2 : Int32) (u3 : Int32) (u4 : Int32) (h : Hp), PW w x 75 [some (.ref (w.2.1 22)), some (.int a1), some (.int u2), some (.int u3), some (.int u4), none] [] h ((fX5_layRoom_L75 N a1 k29 n u2 u3 u4 h)) := by
  intro n
  induction n with
  | zero => intro u2 u3 u4 h; rw [fX5_layRoom_L75]; exact pw_none
  | succ n ih =>
    intro u2 u3 u4 h
    rw [fX5_layRoom_L75]
    refine pw_iload C dX5_layRoom_75 rfl ?_
    refine pw_aload_n C dX5_layRoom_77 rfl rfl ?_
    refine pw_getr (q2 := 23) C (hM 22 _ rfl (by decide)) rfl (k := 0) (by decide) rfl fl_X5_7 dX5_layRoom_78 ?_
    refine pw_bipush (v := 18) C dX5_layRoom_81 (by decide) ?_
    refine pw_iload_n C dX5_layRoom_83 rfl rfl ?_
    refine pw_iadd C dX5_layRoom_84 ?_
    refine pw_ialdb C (hM 23 _ rfl (by decide)) dX5_layRoom_85 (fun v5 => ?_)
    refine pw_icmp_ge (tgt := 168) C dX5_layRoom_86 (by decide) (fun c15 => ?_) (fun c15 => ?_)
    · refine pw_iload_n C dX5_layRoom_89 rfl rfl ?_
      refine pw_if_ne (tgt := 102) C dX5_layRoom_90 (by decide) (fun c16 => ?_) (fun c16 => ?_)
      · refine pw_aload_n C dX5_layRoom_93 rfl rfl ?_
        refine pw_iload_n C dX5_layRoom_94 rfl rfl ?_
        refine pw_iload_n C dX5_layRoom_95 rfl rfl ?_
        refine pw_callVp (as := [.int u2, .int a1]) (rest := []) C dX5_layRoom_96 ml_X5_173 cw_X5_isOf im_X5_isOf sl_X5_isOf (hM 22 _ rfl (by decide)) rfl ⟨by decide, by decide⟩ (c_X5_isOf h u2 a1 hM) rfl rfl (Nat.le_of_ble_eq_true rfl) (fun v6 => ?_)
        refine pw_if_eq (tgt := 168) C dX5_layRoom_99 (by decide) (fun c17 => ?_) (fun c17 => ?_)
        · refine pw_iinc (lv2 := [some (.ref (w.2.1 22)), some (.int a1), some (.int (u2 + 1)), some (.int u3), some (.int u4), none]) C dX5_layRoom_168 rfl rfl hN (by decide) rfl rfl ?_
          refine pw_goto (tgt := 29) C dX5_layRoom_171 (by decide) ?_
          exact pw_lv (hk29 (u2 + 1) h) ⟨rfl, rfl, rfl, trivial⟩
        · exact kX5_layRoom_J102 C hR hN N a1 hM k29 hk29 (fX5_layRoom_L75 N a1 k29 n) ih u2 u3 u4 h
      · exact kX5_layRoom_J102 C hR hN N a1 hM k29 hk29 (fX5_layRoom_L75 N a1 k29 n) ih u2 u3 u4 h
    · refine pw_iinc (lv2 := [some (.ref (w.2.1 22)), some (.int a1), some (.int (u2 + 1)), some (.int u3), some (.int u4), none]) C dX5_layRoom_168 rfl rfl hN (by decide) rfl rfl ?_
      refine pw_goto (tgt := 29) C dX5_layRoom_171 (by decide) ?_
      exact pw_lv (hk29 (u2 + 1) h) ⟨rfl, rfl, rfl, trivial⟩
set_option maxRecDepth 100000 in
set_option maxHeartbeats 4000000 in
theorem kX5_layRoom_L29 {w : Wd} {x : Cz} (C : Ok w x cX5_layRoom RX5 3) (hR : OkV w x) (hN : xN x = 6) (N : Nat) (a1 : Int32) (hM : LM w)  : ∀ (n : Nat) (u2 : Int32) (h : Hp), PW w x 29 [some (.ref (w.2.1 22)), some (.int a1), some (.int u2), none, none, none] [] h ((fX5_layRoom_L29 N a1 n u2 h)) := by
  intro n
  induction n with
  | zero => intro u2 h; rw [fX5_layRoom_L29]; exact pw_none
  | succ n ih =>
    intro u2 h
    rw [fX5_layRoom_L29]
    refine pw_iload_n C dX5_layRoom_29 rfl rfl ?_
    refine pw_aload_n C dX5_layRoom_30 rfl rfl ?_
    refine pw_getr (q2 := 23) C (hM 22 _ rfl (by decide)) rfl (k := 0) (by decide) rfl fl_X5_7 dX5_layRoom_31 ?_
    refine pw_iconst (v := 0) C dX5_layRoom_34 (by decide) ?_
    refine pw_ialdc (k := 0) C (hM 23 _ rfl (by decide)) (by decide +kernel) dX5_layRoom_35 ?_
    refine pw_icmp_ge (tgt := 174) C dX5_layRoom_36 (by decide) (fun c18 => ?_) (fun c18 => ?_)
    · refine pw_aload_n C dX5_layRoom_39 rfl rfl ?_
      refine pw_getr (q2 := 23) C (hM 22 _ rfl (by decide)) rfl (k := 0) (by decide) rfl fl_X5_7 dX5_layRoom_40 ?_
      refine pw_sipush (v := 130) C dX5_layRoom_43 (by decide) ?_
      refine pw_iload_n C dX5_layRoom_46 rfl rfl ?_
      refine pw_iadd C dX5_layRoom_47 ?_
      refine pw_ialdb C (hM 23 _ rfl (by decide)) dX5_layRoom_48 (fun v3 => ?_)
      refine pw_iconst (v := 1) C dX5_layRoom_49 (by decide) ?_
      refine pw_icmp_ne (tgt := 70) C dX5_layRoom_50 (by decide) (fun c19 => ?_) (fun c19 => ?_)
      · refine pw_aload_n C dX5_layRoom_53 rfl rfl ?_
        refine pw_getr (q2 := 23) C (hM 22 _ rfl (by decide)) rfl (k := 0) (by decide) rfl fl_X5_7 dX5_layRoom_54 ?_
        refine pw_bipush (v := 114) C dX5_layRoom_57 (by decide) ?_
        refine pw_iload_n C dX5_layRoom_59 rfl rfl ?_
        refine pw_iadd C dX5_layRoom_60 ?_
        refine pw_ialdb C (hM 23 _ rfl (by decide)) dX5_layRoom_61 (fun v4 => ?_)
        refine pw_iload_n C dX5_layRoom_62 rfl rfl ?_
        refine PW.eq (apply_ite (fun z_ => (fX5_layRoom_L75 N a1 (fX5_layRoom_L29 N a1 n) N u2 z_ 0 h)) _ _ _) ?_
        refine pw_icmp_ne (tgt := 70) C dX5_layRoom_63 (by decide) (fun c20 => ?_) (fun c20 => ?_)
        · refine pw_iconst (v := 1) C dX5_layRoom_66 (by decide) ?_
          refine pw_goto (tgt := 71) C dX5_layRoom_67 (by decide) ?_
          refine pw_istore_n (lv2 := [some (.ref (w.2.1 22)), some (.int a1), some (.int u2), some (.int 1), none, none]) C dX5_layRoom_71 rfl hN (by decide) rfl rfl ?_
          refine pw_iconst (v := 0) C dX5_layRoom_72 (by decide) ?_
          refine pw_istore (lv2 := [some (.ref (w.2.1 22)), some (.int a1), some (.int u2), some (.int 1), some (.int 0), none]) C dX5_layRoom_73 hN (by decide) rfl rfl ?_
          exact kX5_layRoom_L75 C hR hN N a1 hM (fX5_layRoom_L29 N a1 n) ih N u2 1 0 h
        · refine pw_iconst (v := 0) C dX5_layRoom_70 (by decide) ?_
          refine pw_istore_n (lv2 := [some (.ref (w.2.1 22)), some (.int a1), some (.int u2), some (.int 0), none, none]) C dX5_layRoom_71 rfl hN (by decide) rfl rfl ?_
          refine pw_iconst (v := 0) C dX5_layRoom_72 (by decide) ?_
          refine pw_istore (lv2 := [some (.ref (w.2.1 22)), some (.int a1), some (.int u2), some (.int 0), some (.int 0), none]) C dX5_layRoom_73 hN (by decide) rfl rfl ?_
          exact kX5_layRoom_L75 C hR hN N a1 hM (fX5_layRoom_L29 N a1 n) ih N u2 0 0 h
      · refine pw_iconst (v := 0) C dX5_layRoom_70 (by decide) ?_
        refine pw_istore_n (lv2 := [some (.ref (w.2.1 22)), some (.int a1), some (.int u2), some (.int 0), none, none]) C dX5_layRoom_71 rfl hN (by decide) rfl rfl ?_
        refine pw_iconst (v := 0) C dX5_layRoom_72 (by decide) ?_
        refine pw_istore (lv2 := [some (.ref (w.2.1 22)), some (.int a1), some (.int u2), some (.int 0), some (.int 0), none]) C dX5_layRoom_73 hN (by decide) rfl rfl ?_
        exact kX5_layRoom_L75 C hR hN N a1 hM (fX5_layRoom_L29 N a1 n) ih N u2 0 0 h
    · exact pw_vret C hR dX5_layRoom_174
set_option maxRecDepth 100000 in
set_option maxHeartbeats 4000000 in
theorem kX5_layRoom_L2 {w : Wd} {x : Cz} (C : Ok w x cX5_layRoom RX5 3) (hR : OkV w x) (hN : xN x = 6) (N : Nat) (a1 : Int32) (hM : LM w)  : ∀ (n : Nat) (u2 : Int32) (h : Hp), PW w x 2 [some (.ref (w.2.1 22)), some (.int a1), some (.int u2), none, none, none] [] h ((fX5_layRoom_L2 N a1 n u2 h)) := by
  intro n
  induction n with
  | zero => intro u2 h; rw [fX5_layRoom_L2]; exact pw_none
  | succ n ih =>
    intro u2 h
    rw [fX5_layRoom_L2]
    refine pw_iload_n C dX5_layRoom_2 rfl rfl ?_
    refine pw_iconst (v := 4) C dX5_layRoom_3 (by decide) ?_
    refine pw_icmp_ge (tgt := 27) C dX5_layRoom_4 (by decide) (fun c21 => ?_) (fun c21 => ?_)
    · refine pw_aload_n C dX5_layRoom_7 rfl rfl ?_
      refine pw_getr (q2 := 29) C (hM 22 _ rfl (by decide)) rfl (k := 12) (by decide) rfl fl_X5_28 dX5_layRoom_8 ?_
      refine pw_iload_n C dX5_layRoom_11 rfl rfl ?_
      refine pw_iconst (v := 0) C dX5_layRoom_12 (by decide) ?_
      refine pw_iast C (hM 29 _ rfl (by decide)) dX5_layRoom_13 ?_
      refine pw_nameh (fun g1 => ?_)
      refine pw_aload_n C dX5_layRoom_14 rfl rfl ?_
      refine pw_getr (q2 := 30) C (hM 22 _ rfl (by decide)) rfl (k := 13) (by decide) rfl fl_X5_31 dX5_layRoom_15 ?_
      refine pw_iload_n C dX5_layRoom_18 rfl rfl ?_
      refine pw_iconst (v := 0) C dX5_layRoom_19 (by decide) ?_
      refine pw_iast C (hM 30 _ rfl (by decide)) dX5_layRoom_20 ?_
      refine pw_nameh (fun g2 => ?_)
      refine pw_iinc (lv2 := [some (.ref (w.2.1 22)), some (.int a1), some (.int (u2 + 1)), none, none, none]) C dX5_layRoom_21 rfl rfl hN (by decide) rfl rfl ?_
      refine pw_goto (tgt := 2) C dX5_layRoom_24 (by decide) ?_
      exact ih (u2 + 1) g2
    · refine pw_iconst (v := 0) C dX5_layRoom_27 (by decide) ?_
      refine pw_istore_n (lv2 := [some (.ref (w.2.1 22)), some (.int a1), some (.int 0), none, none, none]) C dX5_layRoom_28 rfl hN (by decide) rfl rfl ?_
      exact kX5_layRoom_L29 C hR hN N a1 hM N 0 h
set_option maxRecDepth 100000 in
set_option maxHeartbeats 4000000 in
theorem c_X5_layRoom {l : Launch} {w : Wd} {A : Nat → Prop} (N : Nat) (h : Hp) (a1 : Int32) (hM : LM w) : ConV l yX5_layRoom cX5_layRoom 6 3 w A [.ref (w.2.1 22), .int a1] h ((fX5_layRoom N h a1)) := by
  refine ConV.of (lv0 := [some (.ref (w.2.1 22)), some (.int a1), none, none, none, none]) (by decide +kernel) (Nat.le_of_ble_eq_true rfl) rfl (fun x C hR hN => ?_)
  unfold fX5_layRoom
  refine pw_iconst (v := 0) C dX5_layRoom_0 (by decide) ?_
  refine pw_istore_n (lv2 := [some (.ref (w.2.1 22)), some (.int a1), some (.int 0), none, none, none]) C dX5_layRoom_1 rfl hN (by decide) rfl rfl ?_
  exact kX5_layRoom_L2 C hR hN N a1 hM N 0 h
set_option maxRecDepth 100000 in
set_option maxHeartbeats 4000000 in
theorem kX5_layValues_L2 {w : Wd} {x : Cz} (C : Ok w x cX5_layValues RX5 3) (hR : OkV w x) (hN : xN x = 2) (N : Nat) (hM : LM w)  : ∀ (n : Nat) (u1 : Int32) (h : Hp), PW w x 2 [some (.ref (w.2.1 22)), some (.int u1)] [] h ((fX5_layValues_L2 N n u1 h)) := by
  intro n
  induction n with
  | zero => intro u1 h; rw [fX5_layValues_L2]; exact pw_none
  | succ n ih =>
    intro u1 h
    rw [fX5_layValues_L2]
    refine pw_iload_n C dX5_layValues_2 rfl rfl ?_
    refine pw_aload_n C dX5_layValues_3 rfl rfl ?_
    refine pw_getr (q2 := 23) C (hM 22 _ rfl (by decide)) rfl (k := 0) (by decide) rfl fl_X5_7 dX5_layValues_4 ?_
    refine pw_iconst (v := 0) C dX5_layValues_7 (by decide) ?_
    refine pw_ialdc (k := 0) C (hM 23 _ rfl (by decide)) (by decide +kernel) dX5_layValues_8 ?_
    refine pw_icmp_ge (tgt := 29) C dX5_layValues_9 (by decide) (fun c3 => ?_) (fun c3 => ?_)
    · refine pw_aload_n C dX5_layValues_12 rfl rfl ?_
      refine pw_getr (q2 := 32) C (hM 22 _ rfl (by decide)) rfl (k := 15) (by decide) rfl fl_X5_37 dX5_layValues_13 ?_
      refine pw_iload_n C dX5_layValues_16 rfl rfl ?_
      refine pw_aload_n C dX5_layValues_17 rfl rfl ?_
      refine pw_iload_n C dX5_layValues_18 rfl rfl ?_
      refine pw_callVp (as := [.int u1]) (rest := [.int u1, .ref (w.2.1 32)]) C dX5_layValues_19 ml_X5_146 cw_X5_value im_X5_value sl_X5_value (hM 22 _ rfl (by decide)) rfl ⟨by decide, by decide⟩ (c_X5_value N h u1 hM) rfl rfl (Nat.le_of_ble_eq_true rfl) (fun v1 => ?_)
      refine pw_iast C (hM 32 _ rfl (by decide)) dX5_layValues_22 ?_
      refine pw_nameh (fun g2 => ?_)
      refine pw_iinc (lv2 := [some (.ref (w.2.1 22)), some (.int (u1 + 1))]) C dX5_layValues_23 rfl rfl hN (by decide) rfl rfl ?_
      refine pw_goto (tgt := 2) C dX5_layValues_26 (by decide) ?_
      exact ih (u1 + 1) g2
    · exact pw_vret C hR dX5_layValues_29
set_option maxRecDepth 100000 in
set_option maxHeartbeats 4000000 in
theorem c_X5_layValues {l : Launch} {w : Wd} {A : Nat → Prop} (N : Nat) (h : Hp) (hM : LM w) : ConV l yX5_layValues cX5_layValues 2 3 w A [.ref (w.2.1 22)] h ((fX5_layValues N h)) := by
  refine ConV.of (lv0 := [some (.ref (w.2.1 22)), none]) (by decide +kernel) (Nat.le_of_ble_eq_true rfl) rfl (fun x C hR hN => ?_)
  unfold fX5_layValues
  refine pw_iconst (v := 0) C dX5_layValues_0 (by decide) ?_
  refine pw_istore_n (lv2 := [some (.ref (w.2.1 22)), some (.int 0)]) C dX5_layValues_1 rfl hN (by decide) rfl rfl ?_
  exact kX5_layValues_L2 C hR hN N hM N 0 h
set_option maxRecDepth 100000 in
set_option maxHeartbeats 4000000 in
theorem kX5_colours_L29 {w : Wd} {x : Cz} (C : Ok w x cX5_colours RX5 3) (hR : OkI w x .int) (hN : xN x = 6) (N : Nat) (h : Hp) (a1 : Int32) (a2 : Int32) (hM : LM w)  : ∀ (n : Nat) (u3 : Int32) (u4 : Int32) (u5 : Int32), PW w x 29 [some (.ref (w.2.1 22)), some (.int a1), some (.int a2), some (.int u3), some (.int u4), some (.int u5)] [] h (Option.map (fun v => (v, h)) (fX5_colours_L29 N h a1 a2 n u3 u4 u5)) := by
  intro n
  induction n with
  | zero => intro u3 u4 u5; rw [fX5_colours_L29]; exact pw_none
  | succ n ih =>
    intro u3 u4 u5
    rw [fX5_colours_L29]
    refine pw_iload C dX5_colours_29 rfl ?_
    refine pw_aload_n C dX5_colours_31 rfl rfl ?_
    refine pw_getr (q2 := 23) C (hM 22 _ rfl (by decide)) rfl (k := 0) (by decide) rfl fl_X5_7 dX5_colours_32 ?_
    refine pw_iconst (v := 0) C dX5_colours_35 (by decide) ?_
    refine pw_ialdc (k := 0) C (hM 23 _ rfl (by decide)) (by decide +kernel) dX5_colours_36 ?_
    refine pm_icmp_ge (tgt := 86) C dX5_colours_37 (by decide) (fun c4 => ?_) (fun c4 => ?_)
    · refine pw_aload_n C dX5_colours_40 rfl rfl ?_
      refine pw_getr (q2 := 23) C (hM 22 _ rfl (by decide)) rfl (k := 0) (by decide) rfl fl_X5_7 dX5_colours_41 ?_
      refine pw_iconst (v := 2) C dX5_colours_44 (by decide) ?_
      refine pw_iload C dX5_colours_45 rfl ?_
      refine pw_iadd C dX5_colours_47 ?_
      refine pm_ialdb C (hM 23 _ rfl (by decide)) dX5_colours_48 (fun v1 => ?_)
      refine pw_iload_n C dX5_colours_49 rfl rfl ?_
      refine pm_icmp_ne (tgt := 80) C dX5_colours_50 (by decide) (fun c5 => ?_) (fun c5 => ?_)
      · refine pw_iload_n C dX5_colours_53 rfl rfl ?_
        refine pw_aload_n C dX5_colours_54 rfl rfl ?_
        refine pw_iload C dX5_colours_55 rfl ?_
        refine pm_callVp (as := [.int u5]) (rest := [.int u3]) C dX5_colours_57 ml_X5_146 cw_X5_value im_X5_value sl_X5_value (hM 22 _ rfl (by decide)) rfl ⟨by decide, by decide⟩ (c_X5_value N h u5 hM) rfl rfl (Nat.le_of_ble_eq_true rfl) (fun v2 => ?_)
        refine pw_bipush (v := (-4)) C dX5_colours_60 (by decide) ?_
        refine pm_icmp_ne (tgt := 69) C dX5_colours_62 (by decide) (fun c6 => ?_) (fun c6 => ?_)
        · refine pw_iconst (v := 0) C dX5_colours_65 (by decide) ?_
          refine pw_goto (tgt := 75) C dX5_colours_66 (by decide) ?_
          refine pw_iadd C dX5_colours_75 ?_
          refine pw_istore_n (lv2 := [some (.ref (w.2.1 22)), some (.int a1), some (.int a2), some (.int (u3 + 0)), some (.int u4), some (.int u5)]) C dX5_colours_76 rfl hN (by decide) rfl rfl ?_
          refine pw_iinc (lv2 := [some (.ref (w.2.1 22)), some (.int a1), some (.int a2), some (.int (u3 + 0)), some (.int (u4 + 1)), some (.int u5)]) C dX5_colours_77 rfl rfl hN (by decide) rfl rfl ?_
          refine pw_iinc (lv2 := [some (.ref (w.2.1 22)), some (.int a1), some (.int a2), some (.int (u3 + 0)), some (.int (u4 + 1)), some (.int (u5 + 1))]) C dX5_colours_80 rfl rfl hN (by decide) rfl rfl ?_
          refine pw_goto (tgt := 29) C dX5_colours_83 (by decide) ?_
          exact ih (u3 + 0) (u4 + 1) (u5 + 1)
        · refine pw_aload_n C dX5_colours_69 rfl rfl ?_
          refine pw_iload C dX5_colours_70 rfl ?_
          refine pm_callVp (as := [.int u5]) (rest := [.int u3]) C dX5_colours_72 ml_X5_146 cw_X5_value im_X5_value sl_X5_value (hM 22 _ rfl (by decide)) rfl ⟨by decide, by decide⟩ (c_X5_value N h u5 hM) rfl rfl (Nat.le_of_ble_eq_true rfl) (fun v3 => ?_)
          refine pw_iadd C dX5_colours_75 ?_
          refine pw_istore_n (lv2 := [some (.ref (w.2.1 22)), some (.int a1), some (.int a2), some (.int (u3 + v3)), some (.int u4), some (.int u5)]) C dX5_colours_76 rfl hN (by decide) rfl rfl ?_
          refine pw_iinc (lv2 := [some (.ref (w.2.1 22)), some (.int a1), some (.int a2), some (.int (u3 + v3)), some (.int (u4 + 1)), some (.int u5)]) C dX5_colours_77 rfl rfl hN (by decide) rfl rfl ?_
          refine pw_iinc (lv2 := [some (.ref (w.2.1 22)), some (.int a1), some (.int a2), some (.int (u3 + v3)), some (.int (u4 + 1)), some (.int (u5 + 1))]) C dX5_colours_80 rfl rfl hN (by decide) rfl rfl ?_
          refine pw_goto (tgt := 29) C dX5_colours_83 (by decide) ?_
          exact ih (u3 + v3) (u4 + 1) (u5 + 1)
      · refine pw_iinc (lv2 := [some (.ref (w.2.1 22)), some (.int a1), some (.int a2), some (.int u3), some (.int u4), some (.int (u5 + 1))]) C dX5_colours_80 rfl rfl hN (by decide) rfl rfl ?_
        refine pw_goto (tgt := 29) C dX5_colours_83 (by decide) ?_
        exact ih u3 u4 (u5 + 1)
    · refine pw_iload_n C dX5_colours_86 rfl rfl ?_
      refine pm_if_ne (tgt := 94) C dX5_colours_87 (by decide) (fun c7 => ?_) (fun c7 => ?_)
      · refine pw_iload_n C dX5_colours_90 rfl rfl ?_
        refine pw_goto (tgt := 96) C dX5_colours_91 (by decide) ?_
        exact pm_iret C hR dX5_colours_96
      · refine pw_iload C dX5_colours_94 rfl ?_
        exact pm_iret C hR dX5_colours_96
set_option maxRecDepth 100000 in
set_option maxHeartbeats 4000000 in
theorem c_X5_colours {l : Launch} {w : Wd} {A : Nat → Prop} (N : Nat) (h : Hp) (a1 : Int32) (a2 : Int32) (hM : LM w) : ConI l yX5_colours cX5_colours 6 .int 3 w A [.ref (w.2.1 22), .int a1, .int a2] h (Option.map (fun v => (v, h)) (fX5_colours N h a1 a2)) := by
  refine ConI.of (lv0 := [some (.ref (w.2.1 22)), some (.int a1), some (.int a2), none, none, none]) (by decide +kernel) (Nat.le_of_ble_eq_true rfl) rfl (fun x C hR hN => ?_)
  unfold fX5_colours
  refine pw_iload_n C dX5_colours_0 rfl rfl ?_
  refine pw_i2l C dX5_colours_1 ?_
  refine pw_lconst (v := 0) C dX5_colours_2 (by decide) ?_
  refine pw_ldc2 (C := C) cl_X5_215 dX5_colours_3 ?_
  refine pw_callSt (as := [.long (a1).toInt64, .long 0, .long 9]) (rest := []) C dX5_colours_6 ml_X5_54 cw_X5_in st_X5_in ⟨by decide, by decide⟩ (c_X5_in h (a1).toInt64 0 9) rfl rfl (Nat.le_of_ble_eq_true rfl) ?_
  refine pm_if_eq (tgt := 19) C dX5_colours_9 (by decide) (fun c8 => ?_) (fun c8 => ?_)
  · refine pw_iconst (v := (-1)) C dX5_colours_19 (by decide) ?_
    exact pm_iret C hR dX5_colours_20
  · refine pw_iload_n C dX5_colours_12 rfl rfl ?_
    refine pw_callSt (as := [.int a2]) (rest := []) C dX5_colours_13 ml_X5_230 cw_X5_isTwo st_X5_isTwo ⟨by decide, by decide⟩ (c_X5_isTwo h a2) rfl rfl (Nat.le_of_ble_eq_true rfl) ?_
    refine pm_if_ne (tgt := 21) C dX5_colours_16 (by decide) (fun c9 => ?_) (fun c9 => ?_)
    · refine pw_iconst (v := (-1)) C dX5_colours_19 (by decide) ?_
      exact pm_iret C hR dX5_colours_20
    · refine pw_iconst (v := 0) C dX5_colours_21 (by decide) ?_
      refine pw_istore_n (lv2 := [some (.ref (w.2.1 22)), some (.int a1), some (.int a2), some (.int 0), none, none]) C dX5_colours_22 rfl hN (by decide) rfl rfl ?_
      refine pw_iconst (v := 0) C dX5_colours_23 (by decide) ?_
      refine pw_istore (lv2 := [some (.ref (w.2.1 22)), some (.int a1), some (.int a2), some (.int 0), some (.int 0), none]) C dX5_colours_24 hN (by decide) rfl rfl ?_
      refine pw_iconst (v := 0) C dX5_colours_26 (by decide) ?_
      refine pw_istore (lv2 := [some (.ref (w.2.1 22)), some (.int a1), some (.int a2), some (.int 0), some (.int 0), some (.int 0)]) C dX5_colours_27 hN (by decide) rfl rfl ?_
      exact kX5_colours_L29 C hR hN N h a1 a2 hM N 0 0 0
set_option maxRecDepth 100000 in
set_option maxHeartbeats 4000000 in
theorem kX5_path_J90 {w : Wd} {x : Cz} (C : Ok w x cX5_path RX5 3) (hR : OkI w x .int) (hN : xN x = 6) (N : Nat) (h : Hp) (a1 : Int32) (a2 : Int32) (hM : LM w) (k31 : Int32 → Int32 → Option Int32) (hk31 : ∀ (u3 : Int32) (u4 : Int32), PW w x 31 [some (.ref (w.2.1 22)), some (.int a1), some (.int a2), some (.int u3), some (.int u4), none] [] h (Option.map (fun v => (v, h)) (k31 u3 u4))) : ∀ (u3 : Int32) (u4 : Int32) (t0 : Int32), PW w x 90 [some (.ref (w.2.1 22)), some (.int a1), some (.int a2), some (.int u3), some (.int u4), none] [.int t0] h (Option.map (fun v => (v, h)) (fX5_path_J90 N h a1 a2 k31 u3 u4 t0)) := by
  intro u3 u4 t0
  unfold fX5_path_J90
  refine pw_istore (lv2 := [some (.ref (w.2.1 22)), some (.int a1), some (.int a2), some (.int u3), some (.int u4), some (.int t0)]) C dX5_path_90 hN (by decide) rfl rfl ?_
  refine pw_iload_n C dX5_path_92 rfl rfl ?_
  refine pw_iload C dX5_path_93 rfl ?_
  refine pm_if_eq (tgt := 118) C dX5_path_95 (by decide) (fun c7 => ?_) (fun c7 => ?_)
  · refine pw_iconst (v := 0) C dX5_path_118 (by decide) ?_
    refine pw_iadd C dX5_path_119 ?_
    refine pw_istore_n (lv2 := [some (.ref (w.2.1 22)), some (.int a1), some (.int a2), some (.int (u3 + 0)), some (.int u4), some (.int t0)]) C dX5_path_120 rfl hN (by decide) rfl rfl ?_
    refine pw_iinc (lv2 := [some (.ref (w.2.1 22)), some (.int a1), some (.int a2), some (.int (u3 + 0)), some (.int (u4 + 1)), some (.int t0)]) C dX5_path_121 rfl rfl hN (by decide) rfl rfl ?_
    refine pw_goto (tgt := 31) C dX5_path_124 (by decide) ?_
    exact pw_lv (hk31 (u3 + 0) (u4 + 1)) ⟨rfl, rfl, rfl, rfl, rfl, trivial⟩
  · refine pw_aload_n C dX5_path_98 rfl rfl ?_
    refine pw_iload C dX5_path_99 rfl ?_
    refine pm_callVp (as := [.int u4]) (rest := [.int u3]) C dX5_path_101 ml_X5_146 cw_X5_value im_X5_value sl_X5_value (hM 22 _ rfl (by decide)) rfl ⟨by decide, by decide⟩ (c_X5_value N h u4 hM) rfl rfl (Nat.le_of_ble_eq_true rfl) (fun v5 => ?_)
    refine pw_bipush (v := (-4)) C dX5_path_104 (by decide) ?_
    refine pm_icmp_eq (tgt := 118) C dX5_path_106 (by decide) (fun c8 => ?_) (fun c8 => ?_)
    · refine pw_iconst (v := 0) C dX5_path_118 (by decide) ?_
      refine pw_iadd C dX5_path_119 ?_
      refine pw_istore_n (lv2 := [some (.ref (w.2.1 22)), some (.int a1), some (.int a2), some (.int (u3 + 0)), some (.int u4), some (.int t0)]) C dX5_path_120 rfl hN (by decide) rfl rfl ?_
      refine pw_iinc (lv2 := [some (.ref (w.2.1 22)), some (.int a1), some (.int a2), some (.int (u3 + 0)), some (.int (u4 + 1)), some (.int t0)]) C dX5_path_121 rfl rfl hN (by decide) rfl rfl ?_
      refine pw_goto (tgt := 31) C dX5_path_124 (by decide) ?_
      exact pw_lv (hk31 (u3 + 0) (u4 + 1)) ⟨rfl, rfl, rfl, rfl, rfl, trivial⟩
    · refine pw_aload_n C dX5_path_109 rfl rfl ?_
      refine pw_iload C dX5_path_110 rfl ?_
      refine pm_callVp (as := [.int u4]) (rest := [.int u3]) C dX5_path_112 ml_X5_146 cw_X5_value im_X5_value sl_X5_value (hM 22 _ rfl (by decide)) rfl ⟨by decide, by decide⟩ (c_X5_value N h u4 hM) rfl rfl (Nat.le_of_ble_eq_true rfl) (fun v6 => ?_)
      refine pw_goto (tgt := 119) C dX5_path_115 (by decide) ?_
      refine pw_iadd C dX5_path_119 ?_
      refine pw_istore_n (lv2 := [some (.ref (w.2.1 22)), some (.int a1), some (.int a2), some (.int (u3 + v6)), some (.int u4), some (.int t0)]) C dX5_path_120 rfl hN (by decide) rfl rfl ?_
      refine pw_iinc (lv2 := [some (.ref (w.2.1 22)), some (.int a1), some (.int a2), some (.int (u3 + v6)), some (.int (u4 + 1)), some (.int t0)]) C dX5_path_121 rfl rfl hN (by decide) rfl rfl ?_
      refine pw_goto (tgt := 31) C dX5_path_124 (by decide) ?_
      exact pw_lv (hk31 (u3 + v6) (u4 + 1)) ⟨rfl, rfl, rfl, rfl, rfl, trivial⟩
set_option maxRecDepth 100000 in
set_option maxHeartbeats 4000000 in
theorem kX5_path_L31 {w : Wd} {x : Cz} (C : Ok w x cX5_path RX5 3) (hR : OkI w x .int) (hN : xN x = 6) (N : Nat) (h : Hp) (a1 : Int32) (a2 : Int32) (hM : LM w)  : ∀ (n : Nat) (u3 : Int32) (u4 : Int32), PW w x 31 [some (.ref (w.2.1 22)), some (.int a1), some (.int a2), some (.int u3), some (.int u4), none] [] h (Option.map (fun v => (v, h)) (fX5_path_L31 N h a1 a2 n u3 u4)) := by
  intro n
  induction n with
  | zero => intro u3 u4; rw [fX5_path_L31]; exact pw_none
  | succ n ih =>
    intro u3 u4
    rw [fX5_path_L31]
    refine pw_iload C dX5_path_31 rfl ?_
    refine pw_aload_n C dX5_path_33 rfl rfl ?_
    refine pw_getr (q2 := 23) C (hM 22 _ rfl (by decide)) rfl (k := 0) (by decide) rfl fl_X5_7 dX5_path_34 ?_
    refine pw_iconst (v := 0) C dX5_path_37 (by decide) ?_
    refine pw_ialdc (k := 0) C (hM 23 _ rfl (by decide)) (by decide +kernel) dX5_path_38 ?_
    refine pm_icmp_ge (tgt := 127) C dX5_path_39 (by decide) (fun c9 => ?_) (fun c9 => ?_)
    · refine pw_aload_n C dX5_path_42 rfl rfl ?_
      refine pw_getr (q2 := 23) C (hM 22 _ rfl (by decide)) rfl (k := 0) (by decide) rfl fl_X5_7 dX5_path_43 ?_
      refine pw_iconst (v := 2) C dX5_path_46 (by decide) ?_
      refine pw_iload C dX5_path_47 rfl ?_
      refine pw_iadd C dX5_path_49 ?_
      refine pm_ialdb C (hM 23 _ rfl (by decide)) dX5_path_50 (fun v1 => ?_)
      refine pw_iload_n C dX5_path_51 rfl rfl ?_
      refine pm_icmp_ne (tgt := 89) C dX5_path_52 (by decide) (fun c10 => ?_) (fun c10 => ?_)
      · refine pw_aload_n C dX5_path_55 rfl rfl ?_
        refine pw_iload C dX5_path_56 rfl ?_
        refine pm_callVp (as := [.int u4]) (rest := []) C dX5_path_58 ml_X5_131 cw_X5_isPendant im_X5_isPendant sl_X5_isPendant (hM 22 _ rfl (by decide)) rfl ⟨by decide, by decide⟩ (c_X5_isPendant h u4 hM) rfl rfl (Nat.le_of_ble_eq_true rfl) (fun v2 => ?_)
        refine pm_if_ne (tgt := 89) C dX5_path_61 (by decide) (fun c11 => ?_) (fun c11 => ?_)
        · refine pw_aload_n C dX5_path_64 rfl rfl ?_
          refine pw_getr (q2 := 23) C (hM 22 _ rfl (by decide)) rfl (k := 0) (by decide) rfl fl_X5_7 dX5_path_65 ?_
          refine pw_iconst (v := 2) C dX5_path_68 (by decide) ?_
          refine pw_aload_n C dX5_path_69 rfl rfl ?_
          refine pw_getr (q2 := 23) C (hM 22 _ rfl (by decide)) rfl (k := 0) (by decide) rfl fl_X5_7 dX5_path_70 ?_
          refine pw_bipush (v := 98) C dX5_path_73 (by decide) ?_
          refine pw_iload C dX5_path_75 rfl ?_
          refine pw_iadd C dX5_path_77 ?_
          refine pm_ialdb C (hM 23 _ rfl (by decide)) dX5_path_78 (fun v3 => ?_)
          refine pw_iadd C dX5_path_79 ?_
          refine pm_ialdb C (hM 23 _ rfl (by decide)) dX5_path_80 (fun v4 => ?_)
          refine pw_iload_n C dX5_path_81 rfl rfl ?_
          refine PW.eq (apply_ite (fun z_ => Option.map (fun v => (v, h)) (fX5_path_J90 N h a1 a2 (fX5_path_L31 N h a1 a2 n) u3 u4 z_)) _ _ _) ?_
          refine pw_icmp_ne (tgt := 89) C dX5_path_82 (by decide) (fun c12 => ?_) (fun c12 => ?_)
          · refine pw_iconst (v := 1) C dX5_path_85 (by decide) ?_
            refine pw_goto (tgt := 90) C dX5_path_86 (by decide) ?_
            exact kX5_path_J90 C hR hN N h a1 a2 hM (fX5_path_L31 N h a1 a2 n) ih u3 u4 1
          · refine pw_iconst (v := 0) C dX5_path_89 (by decide) ?_
            exact kX5_path_J90 C hR hN N h a1 a2 hM (fX5_path_L31 N h a1 a2 n) ih u3 u4 0
        · refine pw_iconst (v := 0) C dX5_path_89 (by decide) ?_
          exact kX5_path_J90 C hR hN N h a1 a2 hM (fX5_path_L31 N h a1 a2 n) ih u3 u4 0
      · refine pw_iconst (v := 0) C dX5_path_89 (by decide) ?_
        exact kX5_path_J90 C hR hN N h a1 a2 hM (fX5_path_L31 N h a1 a2 n) ih u3 u4 0
    · refine pw_iload_n C dX5_path_127 rfl rfl ?_
      exact pm_iret C hR dX5_path_128
set_option maxRecDepth 100000 in
set_option maxHeartbeats 4000000 in
theorem c_X5_path {l : Launch} {w : Wd} {A : Nat → Prop} (N : Nat) (h : Hp) (a1 : Int32) (a2 : Int32) (hM : LM w) : ConI l yX5_path cX5_path 6 .int 3 w A [.ref (w.2.1 22), .int a1, .int a2] h (Option.map (fun v => (v, h)) (fX5_path N h a1 a2)) := by
  refine ConI.of (lv0 := [some (.ref (w.2.1 22)), some (.int a1), some (.int a2), none, none, none]) (by decide +kernel) (Nat.le_of_ble_eq_true rfl) rfl (fun x C hR hN => ?_)
  unfold fX5_path
  refine pw_iload_n C dX5_path_0 rfl rfl ?_
  refine pw_i2l C dX5_path_1 ?_
  refine pw_lconst (v := 0) C dX5_path_2 (by decide) ?_
  refine pw_ldc2 (C := C) cl_X5_215 dX5_path_3 ?_
  refine pw_callSt (as := [.long (a1).toInt64, .long 0, .long 9]) (rest := []) C dX5_path_6 ml_X5_54 cw_X5_in st_X5_in ⟨by decide, by decide⟩ (c_X5_in h (a1).toInt64 0 9) rfl rfl (Nat.le_of_ble_eq_true rfl) ?_
  refine pm_if_eq (tgt := 24) C dX5_path_9 (by decide) (fun c13 => ?_) (fun c13 => ?_)
  · refine pw_iconst (v := (-1)) C dX5_path_24 (by decide) ?_
    exact pm_iret C hR dX5_path_25
  · refine pw_iload_n C dX5_path_12 rfl rfl ?_
    refine pw_i2l C dX5_path_13 ?_
    refine pw_lconst (v := 0) C dX5_path_14 (by decide) ?_
    refine pw_ldc2 (C := C) cl_X5_215 dX5_path_15 ?_
    refine pw_callSt (as := [.long (a2).toInt64, .long 0, .long 9]) (rest := []) C dX5_path_18 ml_X5_54 cw_X5_in st_X5_in ⟨by decide, by decide⟩ (c_X5_in h (a2).toInt64 0 9) rfl rfl (Nat.le_of_ble_eq_true rfl) ?_
    refine pm_if_ne (tgt := 26) C dX5_path_21 (by decide) (fun c14 => ?_) (fun c14 => ?_)
    · refine pw_iconst (v := (-1)) C dX5_path_24 (by decide) ?_
      exact pm_iret C hR dX5_path_25
    · refine pw_iconst (v := 0) C dX5_path_26 (by decide) ?_
      refine pw_istore_n (lv2 := [some (.ref (w.2.1 22)), some (.int a1), some (.int a2), some (.int 0), none, none]) C dX5_path_27 rfl hN (by decide) rfl rfl ?_
      refine pw_iconst (v := 0) C dX5_path_28 (by decide) ?_
      refine pw_istore (lv2 := [some (.ref (w.2.1 22)), some (.int a1), some (.int a2), some (.int 0), some (.int 0), none]) C dX5_path_29 hN (by decide) rfl rfl ?_
      exact kX5_path_L31 C hR hN N h a1 a2 hM N 0 0
set_option maxRecDepth 100000 in
set_option maxHeartbeats 4000000 in
theorem kX5_same_J72 {w : Wd} {x : Cz} (C : Ok w x cX5_same RX5 3) (hR : OkI w x .int) (hN : xN x = 5) (N : Nat) (h : Hp) (a1 : Int32) (a2 : Int32) (hM : LM w)  : ∀ (u3 : Int32), PW w x 72 [none, none, none, some (.int u3), none] [] h (Option.map (fun v => (v, h)) (fX5_same_J72 N h a1 a2 u3)) := by
  intro u3
  unfold fX5_same_J72
  refine pw_iload_n C dX5_same_72 rfl rfl ?_
  refine pm_if_eq (tgt := 80) C dX5_same_73 (by decide) (fun c6 => ?_) (fun c6 => ?_)
  · refine pw_iconst (v := 0) C dX5_same_80 (by decide) ?_
    exact pm_iret C hR dX5_same_81
  · refine pw_iconst (v := 1) C dX5_same_76 (by decide) ?_
    refine pw_goto (tgt := 81) C dX5_same_77 (by decide) ?_
    exact pm_iret C hR dX5_same_81
set_option maxRecDepth 100000 in
set_option maxHeartbeats 4000000 in
theorem kX5_same_L33 {w : Wd} {x : Cz} (C : Ok w x cX5_same RX5 3) (hR : OkI w x .int) (hN : xN x = 5) (N : Nat) (h : Hp) (a1 : Int32) (a2 : Int32) (hM : LM w)  : ∀ (n : Nat) (u3 : Int32) (u4 : Int32), PW w x 33 [some (.ref (w.2.1 22)), some (.int a1), some (.int a2), some (.int u3), some (.int u4)] [] h (Option.map (fun v => (v, h)) (fX5_same_L33 N h a1 a2 n u3 u4)) := by
  intro n
  induction n with
  | zero => intro u3 u4; rw [fX5_same_L33]; exact pw_none
  | succ n ih =>
    intro u3 u4
    rw [fX5_same_L33]
    refine pw_iload_n C dX5_same_33 rfl rfl ?_
    refine pm_if_eq (tgt := 72) C dX5_same_34 (by decide) (fun c7 => ?_) (fun c7 => ?_)
    · exact pw_lv (kX5_same_J72 C hR hN N h a1 a2 hM u3) ⟨rfl, trivial⟩
    · refine pw_iload C dX5_same_37 rfl ?_
      refine pw_aload_n C dX5_same_39 rfl rfl ?_
      refine pw_iload_n C dX5_same_40 rfl rfl ?_
      refine pm_callVp (as := [.int a1]) (rest := [.int u4]) C dX5_same_41 ml_X5_162 cw_X5_hanging im_X5_hanging sl_X5_hanging (hM 22 _ rfl (by decide)) rfl ⟨by decide, by decide⟩ (c_X5_hanging N h a1 hM) rfl rfl (Nat.le_of_ble_eq_true rfl) (fun v2 => ?_)
      refine pm_icmp_ge (tgt := 72) C dX5_same_44 (by decide) (fun c8 => ?_) (fun c8 => ?_)
      · refine pw_aload_n C dX5_same_47 rfl rfl ?_
        refine pw_aload_n C dX5_same_48 rfl rfl ?_
        refine pw_iload_n C dX5_same_49 rfl rfl ?_
        refine pw_iload C dX5_same_50 rfl ?_
        refine pm_callVp (as := [.int a1, .int u4]) (rest := [.ref (w.2.1 22)]) C dX5_same_52 ml_X5_247 cw_X5_hangingAt im_X5_hangingAt sl_X5_hangingAt (hM 22 _ rfl (by decide)) rfl ⟨by decide, by decide⟩ (c_X5_hangingAt N h a1 u4 hM) rfl rfl (Nat.le_of_ble_eq_true rfl) (fun v3 => ?_)
        refine pw_aload_n C dX5_same_55 rfl rfl ?_
        refine pw_iload_n C dX5_same_56 rfl rfl ?_
        refine pw_iload C dX5_same_57 rfl ?_
        refine pm_callVp (as := [.int a2, .int u4]) (rest := [.int v3, .ref (w.2.1 22)]) C dX5_same_59 ml_X5_247 cw_X5_hangingAt im_X5_hangingAt sl_X5_hangingAt (hM 22 _ rfl (by decide)) rfl ⟨by decide, by decide⟩ (c_X5_hangingAt N h a2 u4 hM) rfl rfl (Nat.le_of_ble_eq_true rfl) (fun v4 => ?_)
        refine pm_callVp (as := [.int v3, .int v4]) (rest := []) C dX5_same_62 ml_X5_250 cw_X5_areAlikeBelow im_X5_areAlikeBelow sl_X5_areAlikeBelow (hM 22 _ rfl (by decide)) rfl ⟨by decide, by decide⟩ (c_X5_areAlikeBelow N h v3 v4 hM) rfl rfl (Nat.le_of_ble_eq_true rfl) (fun v5 => ?_)
        refine pw_istore_n (lv2 := [some (.ref (w.2.1 22)), some (.int a1), some (.int a2), some (.int v5), some (.int u4)]) C dX5_same_65 rfl hN (by decide) rfl rfl ?_
        refine pw_iinc (lv2 := [some (.ref (w.2.1 22)), some (.int a1), some (.int a2), some (.int v5), some (.int (u4 + 1))]) C dX5_same_66 rfl rfl hN (by decide) rfl rfl ?_
        refine pw_goto (tgt := 33) C dX5_same_69 (by decide) ?_
        exact ih v5 (u4 + 1)
      · exact pw_lv (kX5_same_J72 C hR hN N h a1 a2 hM u3) ⟨rfl, trivial⟩
set_option maxRecDepth 100000 in
set_option maxHeartbeats 4000000 in
theorem c_X5_same {l : Launch} {w : Wd} {A : Nat → Prop} (N : Nat) (h : Hp) (a1 : Int32) (a2 : Int32) (hM : LM w) : ConI l yX5_same cX5_same 5 .int 3 w A [.ref (w.2.1 22), .int a1, .int a2] h (Option.map (fun v => (v, h)) (fX5_same N h a1 a2)) := by
  refine ConI.of (lv0 := [some (.ref (w.2.1 22)), some (.int a1), some (.int a2), none, none]) (by decide +kernel) (Nat.le_of_ble_eq_true rfl) rfl (fun x C hR hN => ?_)
  unfold fX5_same
  refine pw_aload_n C dX5_same_0 rfl rfl ?_
  refine pw_iload_n C dX5_same_1 rfl rfl ?_
  refine pw_callVt (as := [.int a1]) (rest := []) C dX5_same_2 ml_X5_156 cw_X5_isCord im_X5_isCord sl_X5_isCord (hM 22 _ rfl (by decide)) rfl ⟨by decide, by decide⟩ (c_X5_isCord h a1 hM) rfl rfl (Nat.le_of_ble_eq_true rfl) ?_
  refine pm_if_eq (tgt := 21) C dX5_same_5 (by decide) (fun c9 => ?_) (fun c9 => ?_)
  · refine pw_iconst (v := (-1)) C dX5_same_21 (by decide) ?_
    exact pm_iret C hR dX5_same_22
  · refine pw_aload_n C dX5_same_8 rfl rfl ?_
    refine pw_iload_n C dX5_same_9 rfl rfl ?_
    refine pw_callVt (as := [.int a2]) (rest := []) C dX5_same_10 ml_X5_156 cw_X5_isCord im_X5_isCord sl_X5_isCord (hM 22 _ rfl (by decide)) rfl ⟨by decide, by decide⟩ (c_X5_isCord h a2 hM) rfl rfl (Nat.le_of_ble_eq_true rfl) ?_
    refine pm_if_eq (tgt := 21) C dX5_same_13 (by decide) (fun c10 => ?_) (fun c10 => ?_)
    · refine pw_iconst (v := (-1)) C dX5_same_21 (by decide) ?_
      exact pm_iret C hR dX5_same_22
    · refine pw_iload_n C dX5_same_16 rfl rfl ?_
      refine pw_iload_n C dX5_same_17 rfl rfl ?_
      refine pm_icmp_ne (tgt := 23) C dX5_same_18 (by decide) (fun c11 => ?_) (fun c11 => ?_)
      · refine pw_iconst (v := (-1)) C dX5_same_21 (by decide) ?_
        exact pm_iret C hR dX5_same_22
      · refine pw_aload_n C dX5_same_23 rfl rfl ?_
        refine pw_iload_n C dX5_same_24 rfl rfl ?_
        refine pw_iload_n C dX5_same_25 rfl rfl ?_
        refine pm_callVp (as := [.int a1, .int a2]) (rest := []) C dX5_same_26 ml_X5_244 cw_X5_areAlike im_X5_areAlike sl_X5_areAlike (hM 22 _ rfl (by decide)) rfl ⟨by decide, by decide⟩ (c_X5_areAlike N h a1 a2 hM) rfl rfl (Nat.le_of_ble_eq_true rfl) (fun v1 => ?_)
        refine pw_istore_n (lv2 := [some (.ref (w.2.1 22)), some (.int a1), some (.int a2), some (.int v1), none]) C dX5_same_29 rfl hN (by decide) rfl rfl ?_
        refine pw_iconst (v := 0) C dX5_same_30 (by decide) ?_
        refine pw_istore (lv2 := [some (.ref (w.2.1 22)), some (.int a1), some (.int a2), some (.int v1), some (.int 0)]) C dX5_same_31 hN (by decide) rfl rfl ?_
        exact kX5_same_L33 C hR hN N h a1 a2 hM N v1 0
set_option maxRecDepth 100000 in
set_option maxHeartbeats 4000000 in
theorem kX5_year_J150 {w : Wd} {x : Cz} (C : Ok w x cX5_year RX5 3) (hR : OkI w x .int) (hN : xN x = 11) (N : Nat) (h : Hp) (a1 : Int32) (a2 : Int32) (hM : LM w) (k29 : Int32 → Int32 → Int32 → Option Int32) (hk29 : ∀ (u3 : Int32) (u4 : Int32) (u5 : Int32), PW w x 29 [some (.ref (w.2.1 22)), some (.int a1), some (.int a2), some (.int u3), some (.int u4), some (.int u5), none, none, none, none, none] [] h (Option.map (fun v => (v, h)) (k29 u3 u4 u5))) : ∀ (u3 : Int32) (u4 : Int32) (u5 : Int32) (t0 : Int32), PW w x 150 [some (.ref (w.2.1 22)), some (.int a1), some (.int a2), some (.int u3), some (.int u4), some (.int u5), none, none, none, none, none] [.int t0] h (Option.map (fun v => (v, h)) (fX5_year_J150 N h a1 a2 k29 u3 u4 u5 t0)) := by
  intro u3 u4 u5 t0
  unfold fX5_year_J150
  refine pw_istore (lv2 := [some (.ref (w.2.1 22)), some (.int a1), some (.int a2), some (.int u3), some (.int u4), some (.int u5), none, none, none, none, some (.int t0)]) C dX5_year_150 hN (by decide) rfl rfl ?_
  refine pw_iload_n C dX5_year_152 rfl rfl ?_
  refine pw_aload_n C dX5_year_153 rfl rfl ?_
  refine pw_iload C dX5_year_154 rfl ?_
  refine pw_iload C dX5_year_156 rfl ?_
  refine pm_callVp (as := [.int u5, .int t0]) (rest := [.int u3]) C dX5_year_158 ml_X5_204 cw_X5_workFor im_X5_workFor sl_X5_workFor (hM 22 _ rfl (by decide)) rfl ⟨by decide, by decide⟩ (c_X5_workFor N h u5 t0 hM) rfl rfl (Nat.le_of_ble_eq_true rfl) (fun v8 => ?_)
  refine pw_iadd C dX5_year_161 ?_
  refine pw_istore_n (lv2 := [some (.ref (w.2.1 22)), some (.int a1), some (.int a2), some (.int (u3 + v8)), some (.int u4), some (.int u5), none, none, none, none, some (.int t0)]) C dX5_year_162 rfl hN (by decide) rfl rfl ?_
  refine pw_iload C dX5_year_163 rfl ?_
  refine pw_iload C dX5_year_165 rfl ?_
  refine pw_iadd C dX5_year_167 ?_
  refine pw_istore (lv2 := [some (.ref (w.2.1 22)), some (.int a1), some (.int a2), some (.int (u3 + v8)), some (.int (u4 + t0)), some (.int u5), none, none, none, none, some (.int t0)]) C dX5_year_168 hN (by decide) rfl rfl ?_
  refine pw_iinc (lv2 := [some (.ref (w.2.1 22)), some (.int a1), some (.int a2), some (.int (u3 + v8)), some (.int (u4 + t0)), some (.int (u5 + 1)), none, none, none, none, some (.int t0)]) C dX5_year_170 rfl rfl hN (by decide) rfl rfl ?_
  refine pw_goto (tgt := 29) C dX5_year_173 (by decide) ?_
  exact pw_lv (hk29 (u3 + v8) (u4 + t0) (u5 + 1)) ⟨rfl, rfl, rfl, rfl, rfl, rfl, trivial⟩
set_option maxRecDepth 100000 in
set_option maxHeartbeats 4000000 in
theorem kX5_year_L29 {w : Wd} {x : Cz} (C : Ok w x cX5_year RX5 3) (hR : OkI w x .int) (hN : xN x = 11) (N : Nat) (h : Hp) (a1 : Int32) (a2 : Int32) (hM : LM w)  : ∀ (n : Nat) (u3 : Int32) (u4 : Int32) (u5 : Int32), PW w x 29 [some (.ref (w.2.1 22)), some (.int a1), some (.int a2), some (.int u3), some (.int u4), some (.int u5), none, none, none, none, none] [] h (Option.map (fun v => (v, h)) (fX5_year_L29 N h a1 a2 n u3 u4 u5)) := by
  intro n
  induction n with
  | zero => intro u3 u4 u5; rw [fX5_year_L29]; exact pw_none
  | succ n ih =>
    intro u3 u4 u5
    rw [fX5_year_L29]
    refine pw_iload C dX5_year_29 rfl ?_
    refine pw_aload_n C dX5_year_31 rfl rfl ?_
    refine pw_getr (q2 := 23) C (hM 22 _ rfl (by decide)) rfl (k := 0) (by decide) rfl fl_X5_7 dX5_year_32 ?_
    refine pw_iconst (v := 0) C dX5_year_35 (by decide) ?_
    refine pw_ialdc (k := 0) C (hM 23 _ rfl (by decide)) (by decide +kernel) dX5_year_36 ?_
    refine pm_icmp_ge (tgt := 176) C dX5_year_37 (by decide) (fun c9 => ?_) (fun c9 => ?_)
    · refine pw_aload_n C dX5_year_40 rfl rfl ?_
      refine pw_iload C dX5_year_41 rfl ?_
      refine pm_callVp (as := [.int u5]) (rest := []) C dX5_year_43 ml_X5_170 cw_X5_isPlain im_X5_isPlain sl_X5_isPlain (hM 22 _ rfl (by decide)) rfl ⟨by decide, by decide⟩ (c_X5_isPlain h u5 hM) rfl rfl (Nat.le_of_ble_eq_true rfl) (fun v1 => ?_)
      refine pm_if_eq (tgt := 170) C dX5_year_46 (by decide) (fun c10 => ?_) (fun c10 => ?_)
      · refine pw_iinc (lv2 := [some (.ref (w.2.1 22)), some (.int a1), some (.int a2), some (.int u3), some (.int u4), some (.int (u5 + 1)), none, none, none, none, none]) C dX5_year_170 rfl rfl hN (by decide) rfl rfl ?_
        refine pw_goto (tgt := 29) C dX5_year_173 (by decide) ?_
        exact ih u3 u4 (u5 + 1)
      · refine pw_aload_n C dX5_year_49 rfl rfl ?_
        refine pw_iload C dX5_year_50 rfl ?_
        refine pm_callVp (as := [.int u5]) (rest := []) C dX5_year_52 ml_X5_146 cw_X5_value im_X5_value sl_X5_value (hM 22 _ rfl (by decide)) rfl ⟨by decide, by decide⟩ (c_X5_value N h u5 hM) rfl rfl (Nat.le_of_ble_eq_true rfl) (fun v2 => ?_)
        refine pw_bipush (v := (-4)) C dX5_year_55 (by decide) ?_
        refine pm_icmp_eq (tgt := 170) C dX5_year_57 (by decide) (fun c11 => ?_) (fun c11 => ?_)
        · refine pw_iinc (lv2 := [some (.ref (w.2.1 22)), some (.int a1), some (.int a2), some (.int u3), some (.int u4), some (.int (u5 + 1)), none, none, none, none, none]) C dX5_year_170 rfl rfl hN (by decide) rfl rfl ?_
          refine pw_goto (tgt := 29) C dX5_year_173 (by decide) ?_
          exact ih u3 u4 (u5 + 1)
        · refine pw_ldc2 (C := C) cl_X5_253 dX5_year_60 ?_
          refine pw_iload_n C dX5_year_63 rfl rfl ?_
          refine pw_i2l C dX5_year_64 ?_
          refine pw_lmul C dX5_year_65 ?_
          refine pw_ldc2 (C := C) cl_X5_255 dX5_year_66 ?_
          refine pw_iload C dX5_year_69 rfl ?_
          refine pw_i2l C dX5_year_71 ?_
          refine pw_lmul C dX5_year_72 ?_
          refine pw_ladd C dX5_year_73 ?_
          refine pw_lconst (v := 1) C dX5_year_74 (by decide) ?_
          refine pw_ladd C dX5_year_75 ?_
          refine pw_lstore (lv2 := [some (.ref (w.2.1 22)), some (.int a1), some (.int a2), some (.int u3), some (.int u4), some (.int u5), some (.long (((7919 * (a1).toInt64) + (6151 * (u5).toInt64)) + 1)), none, none, none, none]) C dX5_year_76 hN (by decide) rfl rfl ?_
          refine pw_lload C dX5_year_78 rfl ?_
          refine pw_lload C dX5_year_80 rfl ?_
          refine pw_lmul C dX5_year_82 ?_
          refine pw_ldc2 (C := C) cl_X5_257 dX5_year_83 ?_
          refine pw_lrem C dX5_year_86 (by decide) ?_
          refine pw_l2i C dX5_year_87 ?_
          refine pw_bipush (v := 8) C dX5_year_88 (by decide) ?_
          refine pw_idiv C dX5_year_90 (by decide) ?_
          refine pm_name (fun v3 => ?_)
          refine pw_istore (lv2 := [some (.ref (w.2.1 22)), some (.int a1), some (.int a2), some (.int u3), some (.int u4), some (.int u5), some (.long (((7919 * (a1).toInt64) + (6151 * (u5).toInt64)) + 1)), none, some (.int v3), none, none]) C dX5_year_91 hN (by decide) rfl rfl ?_
          refine pw_aload_n C dX5_year_93 rfl rfl ?_
          refine pw_getr (q2 := 23) C (hM 22 _ rfl (by decide)) rfl (k := 0) (by decide) rfl fl_X5_7 dX5_year_94 ?_
          refine pw_bipush (v := 18) C dX5_year_97 (by decide) ?_
          refine pw_iload C dX5_year_99 rfl ?_
          refine pw_iadd C dX5_year_101 ?_
          refine pm_ialdb C (hM 23 _ rfl (by decide)) dX5_year_102 (fun v4 => ?_)
          refine pm_callSp (as := [.int v4]) (rest := []) C dX5_year_103 ml_X5_201 cw_X5_power st_X5_power ⟨by decide, by decide⟩ (c_X5_power N h v4) rfl rfl (Nat.le_of_ble_eq_true rfl) (fun v5 => ?_)
          refine pw_iconst (v := 1) C dX5_year_106 (by decide) ?_
          refine pw_isub C dX5_year_107 ?_
          refine pw_istore (lv2 := [some (.ref (w.2.1 22)), some (.int a1), some (.int a2), some (.int u3), some (.int u4), some (.int u5), some (.long (((7919 * (a1).toInt64) + (6151 * (u5).toInt64)) + 1)), none, some (.int v3), some (.int (v5 - 1)), none]) C dX5_year_108 hN (by decide) rfl rfl ?_
          refine pw_aload_n C dX5_year_110 rfl rfl ?_
          refine pw_iload C dX5_year_111 rfl ?_
          refine pm_callVp (as := [.int u5]) (rest := []) C dX5_year_113 ml_X5_146 cw_X5_value im_X5_value sl_X5_value (hM 22 _ rfl (by decide)) rfl ⟨by decide, by decide⟩ (c_X5_value N h u5 hM) rfl rfl (Nat.le_of_ble_eq_true rfl) (fun v6 => ?_)
          refine pw_iload C dX5_year_116 rfl ?_
          refine pw_bipush (v := 21) C dX5_year_118 (by decide) ?_
          refine pw_irem C dX5_year_120 (by decide) ?_
          refine pw_iadd C dX5_year_121 ?_
          refine pw_bipush (v := 10) C dX5_year_122 (by decide) ?_
          refine pw_isub C dX5_year_124 ?_
          refine pm_name (fun v7 => ?_)
          refine pw_istore (lv2 := [some (.ref (w.2.1 22)), some (.int a1), some (.int a2), some (.int u3), some (.int u4), some (.int u5), some (.long (((7919 * (a1).toInt64) + (6151 * (u5).toInt64)) + 1)), none, some (.int v3), some (.int (v5 - 1)), some (.int v7)]) C dX5_year_125 hN (by decide) rfl rfl ?_
          refine pw_iload C dX5_year_127 rfl ?_
          refine PW.eq (apply_ite (fun z_ => Option.map (fun v => (v, h)) (fX5_year_J150 N h a1 a2 (fX5_year_L29 N h a1 a2 n) u3 u4 u5 z_)) _ _ _) ?_
          refine pw_if_ge (tgt := 136) C dX5_year_129 (by decide) (fun c12 => ?_) (fun c12 => ?_)
          · refine pw_iconst (v := 0) C dX5_year_132 (by decide) ?_
            refine pw_goto (tgt := 150) C dX5_year_133 (by decide) ?_
            exact pw_lv (kX5_year_J150 C hR hN N h a1 a2 hM (fX5_year_L29 N h a1 a2 n) ih u3 u4 u5 0) ⟨rfl, rfl, rfl, rfl, rfl, rfl, trivial⟩
          · refine pw_iload C dX5_year_136 rfl ?_
            refine pw_iload C dX5_year_138 rfl ?_
            refine PW.eq (apply_ite (fun z_ => Option.map (fun v => (v, h)) (fX5_year_J150 N h a1 a2 (fX5_year_L29 N h a1 a2 n) u3 u4 u5 z_)) _ _ _) ?_
            refine pw_icmp_le (tgt := 148) C dX5_year_140 (by decide) (fun c13 => ?_) (fun c13 => ?_)
            · refine pw_iload C dX5_year_143 rfl ?_
              refine pw_goto (tgt := 150) C dX5_year_145 (by decide) ?_
              exact pw_lv (kX5_year_J150 C hR hN N h a1 a2 hM (fX5_year_L29 N h a1 a2 n) ih u3 u4 u5 (v5 - 1)) ⟨rfl, rfl, rfl, rfl, rfl, rfl, trivial⟩
            · refine pw_iload C dX5_year_148 rfl ?_
              exact pw_lv (kX5_year_J150 C hR hN N h a1 a2 hM (fX5_year_L29 N h a1 a2 n) ih u3 u4 u5 v7) ⟨rfl, rfl, rfl, rfl, rfl, rfl, trivial⟩
    · refine pw_iload_n C dX5_year_176 rfl rfl ?_
      refine pm_if_ne (tgt := 184) C dX5_year_177 (by decide) (fun c14 => ?_) (fun c14 => ?_)
      · refine pw_iload_n C dX5_year_180 rfl rfl ?_
        refine pw_goto (tgt := 186) C dX5_year_181 (by decide) ?_
        exact pm_iret C hR dX5_year_186
      · refine pw_iload C dX5_year_184 rfl ?_
        exact pm_iret C hR dX5_year_186
set_option maxRecDepth 100000 in
set_option maxHeartbeats 4000000 in
theorem c_X5_year {l : Launch} {w : Wd} {A : Nat → Prop} (N : Nat) (h : Hp) (a1 : Int32) (a2 : Int32) (hM : LM w) : ConI l yX5_year cX5_year 11 .int 3 w A [.ref (w.2.1 22), .int a1, .int a2] h (Option.map (fun v => (v, h)) (fX5_year N h a1 a2)) := by
  refine ConI.of (lv0 := [some (.ref (w.2.1 22)), some (.int a1), some (.int a2), none, none, none, none, none, none, none, none]) (by decide +kernel) (Nat.le_of_ble_eq_true rfl) rfl (fun x C hR hN => ?_)
  unfold fX5_year
  refine pw_iload_n C dX5_year_0 rfl rfl ?_
  refine pw_i2l C dX5_year_1 ?_
  refine pw_lconst (v := 0) C dX5_year_2 (by decide) ?_
  refine pw_ldc2 (C := C) cl_X5_213 dX5_year_3 ?_
  refine pw_callSt (as := [.long (a1).toInt64, .long 0, .long 9999]) (rest := []) C dX5_year_6 ml_X5_54 cw_X5_in st_X5_in ⟨by decide, by decide⟩ (c_X5_in h (a1).toInt64 0 9999) rfl rfl (Nat.le_of_ble_eq_true rfl) ?_
  refine pm_if_eq (tgt := 19) C dX5_year_9 (by decide) (fun c15 => ?_) (fun c15 => ?_)
  · refine pw_iconst (v := (-1)) C dX5_year_19 (by decide) ?_
    exact pm_iret C hR dX5_year_20
  · refine pw_iload_n C dX5_year_12 rfl rfl ?_
    refine pw_callSt (as := [.int a2]) (rest := []) C dX5_year_13 ml_X5_230 cw_X5_isTwo st_X5_isTwo ⟨by decide, by decide⟩ (c_X5_isTwo h a2) rfl rfl (Nat.le_of_ble_eq_true rfl) ?_
    refine pm_if_ne (tgt := 21) C dX5_year_16 (by decide) (fun c16 => ?_) (fun c16 => ?_)
    · refine pw_iconst (v := (-1)) C dX5_year_19 (by decide) ?_
      exact pm_iret C hR dX5_year_20
    · refine pw_iconst (v := 0) C dX5_year_21 (by decide) ?_
      refine pw_istore_n (lv2 := [some (.ref (w.2.1 22)), some (.int a1), some (.int a2), some (.int 0), none, none, none, none, none, none, none]) C dX5_year_22 rfl hN (by decide) rfl rfl ?_
      refine pw_iconst (v := 0) C dX5_year_23 (by decide) ?_
      refine pw_istore (lv2 := [some (.ref (w.2.1 22)), some (.int a1), some (.int a2), some (.int 0), some (.int 0), none, none, none, none, none, none]) C dX5_year_24 hN (by decide) rfl rfl ?_
      refine pw_iconst (v := 0) C dX5_year_26 (by decide) ?_
      refine pw_istore (lv2 := [some (.ref (w.2.1 22)), some (.int a1), some (.int a2), some (.int 0), some (.int 0), some (.int 0), none, none, none, none, none]) C dX5_year_27 hN (by decide) rfl rfl ?_
      exact kX5_year_L29 C hR hN N h a1 a2 hM N 0 0 0
set_option maxRecDepth 100000 in
set_option maxHeartbeats 4000000 in
theorem kX5_count_J52 {w : Wd} {x : Cz} (C : Ok w x cX5_count RX5 3) (hR : OkI w x .int) (hN : xN x = 6) (N : Nat) (h : Hp) (a1 : Int32) (hM : LM w) (k10 : Int32 → Int32 → Int32 → Int32 → Option Int32) (hk10 : ∀ (u2 : Int32) (u3 : Int32) (u4 : Int32) (u5 : Int32), PW w x 10 [some (.ref (w.2.1 22)), some (.int a1), some (.int u2), some (.int u3), some (.int u4), some (.int u5)] [] h (Option.map (fun v => (v, h)) (k10 u2 u3 u4 u5))) : ∀ (u2 : Int32) (u4 : Int32) (u5 : Int32) (t0 : Int32) (t1 : Int32), PW w x 52 [some (.ref (w.2.1 22)), some (.int a1), some (.int u2), none, some (.int u4), some (.int u5)] [.int t0, .int t1] h (Option.map (fun v => (v, h)) (fX5_count_J52 N h a1 k10 u2 u4 u5 t0 t1)) := by
  intro u2 u4 u5 t0 t1
  unfold fX5_count_J52
  refine pw_iadd C dX5_count_52 ?_
  refine pw_istore_n (lv2 := [some (.ref (w.2.1 22)), some (.int a1), some (.int u2), some (.int (t1 + t0)), some (.int u4), some (.int u5)]) C dX5_count_53 rfl hN (by decide) rfl rfl ?_
  refine pw_iload C dX5_count_54 rfl ?_
  refine pw_aload_n C dX5_count_56 rfl rfl ?_
  refine pw_iload C dX5_count_57 rfl ?_
  refine pm_callVp (as := [.int u5]) (rest := [.int u4]) C dX5_count_59 ml_X5_168 cw_X5_knots_ im_X5_knots_ sl_X5_knots_ (hM 22 _ rfl (by decide)) rfl ⟨by decide, by decide⟩ (c_X5_knots_ N h u5 hM) rfl rfl (Nat.le_of_ble_eq_true rfl) (fun v3 => ?_)
  refine pw_iadd C dX5_count_62 ?_
  refine pw_istore (lv2 := [some (.ref (w.2.1 22)), some (.int a1), some (.int u2), some (.int (t1 + t0)), some (.int (u4 + v3)), some (.int u5)]) C dX5_count_63 hN (by decide) rfl rfl ?_
  refine pw_iinc (lv2 := [some (.ref (w.2.1 22)), some (.int a1), some (.int u2), some (.int (t1 + t0)), some (.int (u4 + v3)), some (.int (u5 + 1))]) C dX5_count_65 rfl rfl hN (by decide) rfl rfl ?_
  refine pw_goto (tgt := 10) C dX5_count_68 (by decide) ?_
  exact hk10 u2 (t1 + t0) (u4 + v3) (u5 + 1)
set_option maxRecDepth 100000 in
set_option maxHeartbeats 4000000 in
theorem kX5_count_L10 {w : Wd} {x : Cz} (C : Ok w x cX5_count RX5 3) (hR : OkI w x .int) (hN : xN x = 6) (N : Nat) (h : Hp) (a1 : Int32) (hM : LM w)  : ∀ (n : Nat) (u2 : Int32) (u3 : Int32) (u4 : Int32) (u5 : Int32), PW w x 10 [some (.ref (w.2.1 22)), some (.int a1), some (.int u2), some (.int u3), some (.int u4), some (.int u5)] [] h (Option.map (fun v => (v, h)) (fX5_count_L10 N h a1 n u2 u3 u4 u5)) := by
  intro n
  induction n with
  | zero => intro u2 u3 u4 u5; rw [fX5_count_L10]; exact pw_none
  | succ n ih =>
    intro u2 u3 u4 u5
    rw [fX5_count_L10]
    refine pw_iload C dX5_count_10 rfl ?_
    refine pw_aload_n C dX5_count_12 rfl rfl ?_
    refine pw_getr (q2 := 23) C (hM 22 _ rfl (by decide)) rfl (k := 0) (by decide) rfl fl_X5_7 dX5_count_13 ?_
    refine pw_iconst (v := 0) C dX5_count_16 (by decide) ?_
    refine pw_ialdc (k := 0) C (hM 23 _ rfl (by decide)) (by decide +kernel) dX5_count_17 ?_
    refine pm_icmp_ge (tgt := 71) C dX5_count_18 (by decide) (fun c4 => ?_) (fun c4 => ?_)
    · refine pw_iload_n C dX5_count_21 rfl rfl ?_
      refine pw_aload_n C dX5_count_22 rfl rfl ?_
      refine pw_getr (q2 := 23) C (hM 22 _ rfl (by decide)) rfl (k := 0) (by decide) rfl fl_X5_7 dX5_count_23 ?_
      refine pw_sipush (v := 130) C dX5_count_26 (by decide) ?_
      refine pw_iload C dX5_count_29 rfl ?_
      refine pw_iadd C dX5_count_31 ?_
      refine pm_ialdb C (hM 23 _ rfl (by decide)) dX5_count_32 (fun v1 => ?_)
      refine pw_iadd C dX5_count_33 ?_
      refine pw_istore_n (lv2 := [some (.ref (w.2.1 22)), some (.int a1), some (.int (u2 + v1)), some (.int u3), some (.int u4), some (.int u5)]) C dX5_count_34 rfl hN (by decide) rfl rfl ?_
      refine pw_iload_n C dX5_count_35 rfl rfl ?_
      refine pw_aload_n C dX5_count_36 rfl rfl ?_
      refine pw_iload C dX5_count_37 rfl ?_
      refine pm_callVp (as := [.int u5]) (rest := [.int u3]) C dX5_count_39 ml_X5_146 cw_X5_value im_X5_value sl_X5_value (hM 22 _ rfl (by decide)) rfl ⟨by decide, by decide⟩ (c_X5_value N h u5 hM) rfl rfl (Nat.le_of_ble_eq_true rfl) (fun v2 => ?_)
      refine pw_bipush (v := (-4)) C dX5_count_42 (by decide) ?_
      refine PW.eq (apply_ite (fun z_ => Option.map (fun v => (v, h)) (fX5_count_J52 N h a1 (fX5_count_L10 N h a1 n) (u2 + v1) u4 u5 z_ u3)) _ _ _) ?_
      refine pw_icmp_ne (tgt := 51) C dX5_count_44 (by decide) (fun c5 => ?_) (fun c5 => ?_)
      · refine pw_iconst (v := 0) C dX5_count_47 (by decide) ?_
        refine pw_goto (tgt := 52) C dX5_count_48 (by decide) ?_
        exact pw_lv (kX5_count_J52 C hR hN N h a1 hM (fX5_count_L10 N h a1 n) ih (u2 + v1) u4 u5 0 u3) ⟨rfl, rfl, rfl, rfl, rfl, trivial⟩
      · refine pw_iconst (v := 1) C dX5_count_51 (by decide) ?_
        exact pw_lv (kX5_count_J52 C hR hN N h a1 hM (fX5_count_L10 N h a1 n) ih (u2 + v1) u4 u5 1 u3) ⟨rfl, rfl, rfl, rfl, rfl, trivial⟩
    · refine pw_iload_n C dX5_count_71 rfl rfl ?_
      refine pm_ite (fun e72_0 => ?_) (fun e72_0 => ?_)
      · refine pw_tsIn (tgt := 120) (off := 48) C dX5_count_72 (by rw [e72_0]; decide) (by rw [e72_0]; decide) (by rw [e72_0]; decide) (by decide) ?_
        refine pw_aload_n C dX5_count_120 rfl rfl ?_
        refine pw_getr (q2 := 23) C (hM 22 _ rfl (by decide)) rfl (k := 0) (by decide) rfl fl_X5_7 dX5_count_121 ?_
        refine pw_iconst (v := 0) C dX5_count_124 (by decide) ?_
        refine pw_ialdc (k := 0) C (hM 23 _ rfl (by decide)) (by decide +kernel) dX5_count_125 ?_
        exact pm_iret C hR dX5_count_126
      · refine pm_ite (fun e72_1 => ?_) (fun e72_1 => ?_)
        · refine pw_tsIn (tgt := 127) (off := 55) C dX5_count_72 (by rw [e72_1]; decide) (by rw [e72_1]; decide) (by rw [e72_1]; decide) (by decide) ?_
          refine pw_aload_n C dX5_count_127 rfl rfl ?_
          refine pw_getr (q2 := 23) C (hM 22 _ rfl (by decide)) rfl (k := 0) (by decide) rfl fl_X5_7 dX5_count_128 ?_
          refine pw_iconst (v := 1) C dX5_count_131 (by decide) ?_
          refine pw_ialdc (k := 1) C (hM 23 _ rfl (by decide)) (by decide +kernel) dX5_count_132 ?_
          exact pm_iret C hR dX5_count_133
        · refine pm_ite (fun e72_2 => ?_) (fun e72_2 => ?_)
          · refine pw_tsIn (tgt := 134) (off := 62) C dX5_count_72 (by rw [e72_2]; decide) (by rw [e72_2]; decide) (by rw [e72_2]; decide) (by decide) ?_
            refine pw_iload_n C dX5_count_134 rfl rfl ?_
            exact pm_iret C hR dX5_count_135
          · refine pm_ite (fun e72_3 => ?_) (fun e72_3 => ?_)
            · refine pw_tsIn (tgt := 136) (off := 64) C dX5_count_72 (by rw [e72_3]; decide) (by rw [e72_3]; decide) (by rw [e72_3]; decide) (by decide) ?_
              refine pw_iload_n C dX5_count_136 rfl rfl ?_
              exact pm_iret C hR dX5_count_137
            · refine pm_ite (fun e72_4 => ?_) (fun e72_4 => ?_)
              · refine pw_tsIn (tgt := 138) (off := 66) C dX5_count_72 (by rw [e72_4]; decide) (by rw [e72_4]; decide) (by rw [e72_4]; decide) (by decide) ?_
                refine pw_iload C dX5_count_138 rfl ?_
                exact pm_iret C hR dX5_count_140
              · refine pm_ite (fun e72_5 => ?_) (fun e72_5 => ?_)
                · refine pw_tsIn (tgt := 141) (off := 69) C dX5_count_72 (by rw [e72_5]; decide) (by rw [e72_5]; decide) (by rw [e72_5]; decide) (by decide) ?_
                  refine pw_aload_n C dX5_count_141 rfl rfl ?_
                  refine pw_geti C (hM 22 _ rfl (by decide)) rfl (k := 2) (by decide) rfl fl_X5_122 dX5_count_142 ?_
                  exact pm_iret C hR dX5_count_145
                · refine pm_ite (fun e72_6 => ?_) (fun e72_6 => ?_)
                  · refine pw_tsIn (tgt := 146) (off := 74) C dX5_count_72 (by rw [e72_6]; decide) (by rw [e72_6]; decide) (by rw [e72_6]; decide) (by decide) ?_
                    refine pw_aload_n C dX5_count_146 rfl rfl ?_
                    refine pw_geti C (hM 22 _ rfl (by decide)) rfl (k := 4) (by decide) rfl fl_X5_125 dX5_count_147 ?_
                    exact pm_iret C hR dX5_count_150
                  · refine pm_ite (fun e72_7 => ?_) (fun e72_7 => ?_)
                    · refine pw_tsIn (tgt := 151) (off := 79) C dX5_count_72 (by rw [e72_7]; decide) (by rw [e72_7]; decide) (by rw [e72_7]; decide) (by decide) ?_
                      refine pw_aload_n C dX5_count_151 rfl rfl ?_
                      refine pw_geti C (hM 22 _ rfl (by decide)) rfl (k := 6) (by decide) rfl fl_X5_62 dX5_count_152 ?_
                      exact pm_iret C hR dX5_count_155
                    · refine pw_tsOut (tgt := 156) C dX5_count_72 (by have := i_neN (z := 0) (by decide) e72_0; have := i_neN (z := 1) (by decide) e72_1; have := i_neN (z := 2) (by decide) e72_2; have := i_neN (z := 3) (by decide) e72_3; have := i_neN (z := 4) (by decide) e72_4; have := i_neN (z := 5) (by decide) e72_5; have := i_neN (z := 6) (by decide) e72_6; have := i_neN (z := 7) (by decide) e72_7; omega) (by decide) ?_
                      refine pw_iconst (v := (-1)) C dX5_count_156 (by decide) ?_
                      exact pm_iret C hR dX5_count_157
set_option maxRecDepth 100000 in
set_option maxHeartbeats 4000000 in
theorem c_X5_count {l : Launch} {w : Wd} {A : Nat → Prop} (N : Nat) (h : Hp) (a1 : Int32) (hM : LM w) : ConI l yX5_count cX5_count 6 .int 3 w A [.ref (w.2.1 22), .int a1] h (Option.map (fun v => (v, h)) (fX5_count N h a1)) := by
  refine ConI.of (lv0 := [some (.ref (w.2.1 22)), some (.int a1), none, none, none, none]) (by decide +kernel) (Nat.le_of_ble_eq_true rfl) rfl (fun x C hR hN => ?_)
  unfold fX5_count
  refine pw_iconst (v := 0) C dX5_count_0 (by decide) ?_
  refine pw_istore_n (lv2 := [some (.ref (w.2.1 22)), some (.int a1), some (.int 0), none, none, none]) C dX5_count_1 rfl hN (by decide) rfl rfl ?_
  refine pw_iconst (v := 0) C dX5_count_2 (by decide) ?_
  refine pw_istore_n (lv2 := [some (.ref (w.2.1 22)), some (.int a1), some (.int 0), some (.int 0), none, none]) C dX5_count_3 rfl hN (by decide) rfl rfl ?_
  refine pw_iconst (v := 0) C dX5_count_4 (by decide) ?_
  refine pw_istore (lv2 := [some (.ref (w.2.1 22)), some (.int a1), some (.int 0), some (.int 0), some (.int 0), none]) C dX5_count_5 hN (by decide) rfl rfl ?_
  refine pw_iconst (v := 0) C dX5_count_7 (by decide) ?_
  refine pw_istore (lv2 := [some (.ref (w.2.1 22)), some (.int a1), some (.int 0), some (.int 0), some (.int 0), some (.int 0)]) C dX5_count_8 hN (by decide) rfl rfl ?_
  exact kX5_count_L10 C hR hN N h a1 hM N 0 0 0 0
set_option maxRecDepth 100000 in
set_option maxHeartbeats 4000000 in
theorem c_X0_hasCluster {l : Launch} {w : Wd} {A : Nat → Prop} {b : Nat} (h : Hp) (r : Nat) (a1 : Int32) (a2 : Int32) (hb : w.2.2.1[b]? = some (0, 0, [r + 2])) (hr : w.2.2.1[r]? = some (1, 179, [])) : ConI l yX0_hasCluster cX0_hasCluster 3 .boolean 3 w A [.ref (w.2.1 b), .int a1, .int a2] h (some ((fX0_hasCluster h r a1 a2), h)) := by
  refine ConI.of (lv0 := [some (.ref (w.2.1 b)), some (.int a1), some (.int a2)]) (by decide +kernel) (Nat.le_of_ble_eq_true rfl) rfl (fun x C hR hN => ?_)
  unfold fX0_hasCluster
  refine pw_aload_n C dX0_hasCluster_0 rfl rfl ?_
  refine pw_iload_n C dX0_hasCluster_1 rfl rfl ?_
  refine pw_callVt (as := [.int a1]) (rest := []) C dX0_hasCluster_2 ml_X0_33 cw_X0_hasCord im_X0_hasCord sl_X0_hasCord hb rfl ⟨by decide, by decide⟩ (c_X0_hasCord h r a1 hb hr) rfl rfl (Nat.le_of_ble_eq_true rfl) ?_
  refine pt_if_eq (tgt := 25) C dX0_hasCluster_5 (by decide) (fun c1 => ?_) (fun c1 => ?_)
  · refine pw_iconst (v := 0) C dX0_hasCluster_25 (by decide) ?_
    exact pt_zret' C hR dX0_hasCluster_26 (by decide)
  · refine pw_iload_n C dX0_hasCluster_8 rfl rfl ?_
    refine pt_if_lt (tgt := 25) C dX0_hasCluster_9 (by decide) (fun c2 => ?_) (fun c2 => ?_)
    · refine pw_iconst (v := 0) C dX0_hasCluster_25 (by decide) ?_
      exact pt_zret' C hR dX0_hasCluster_26 (by decide)
    · refine pw_iload_n C dX0_hasCluster_12 rfl rfl ?_
      refine pw_aload_n C dX0_hasCluster_13 rfl rfl ?_
      refine pw_iload_n C dX0_hasCluster_14 rfl rfl ?_
      refine pw_callVt (as := [.int a1]) (rest := [.int a2]) C dX0_hasCluster_15 ml_X0_37 cw_X0_sizeOf im_X0_sizeOf sl_X0_sizeOf hb rfl ⟨by decide, by decide⟩ (c_X0_sizeOf h r a1 hb hr) rfl rfl (Nat.le_of_ble_eq_true rfl) ?_
      refine pt_icmp_ge (tgt := 25) C dX0_hasCluster_18 (by decide) (fun c3 => ?_) (fun c3 => ?_)
      · refine pw_iconst (v := 1) C dX0_hasCluster_21 (by decide) ?_
        refine pw_goto (tgt := 26) C dX0_hasCluster_22 (by decide) ?_
        exact pt_zret' C hR dX0_hasCluster_26 (by decide)
      · refine pw_iconst (v := 0) C dX0_hasCluster_25 (by decide) ?_
        exact pt_zret' C hR dX0_hasCluster_26 (by decide)
set_option maxRecDepth 100000 in
set_option maxHeartbeats 4000000 in
theorem c_X0_told {l : Launch} {w : Wd} {A : Nat → Prop} {b : Nat} (N : Nat) (h : Hp) (r : Nat) (a1 : Int32) (hb : w.2.2.1[b]? = some (0, 0, [r + 2])) (hr : w.2.2.1[r]? = some (1, 179, [])) : ConI l yX0_told cX0_told 2 .int 3 w A [.ref (w.2.1 b), .int a1] h (Option.map (fun v => (v, h)) (fX0_told N h r a1)) := by
  refine ConI.of (lv0 := [some (.ref (w.2.1 b)), some (.int a1)]) (by decide +kernel) (Nat.le_of_ble_eq_true rfl) rfl (fun x C hR hN => ?_)
  unfold fX0_told
  refine pw_aload_n C dX0_told_0 rfl rfl ?_
  refine pw_iload_n C dX0_told_1 rfl rfl ?_
  refine pm_callVp (as := [.int a1]) (rest := []) C dX0_told_2 ml_X0_62 cw_X0_valueOf im_X0_valueOf sl_X0_valueOf hb rfl ⟨by decide, by decide⟩ (c_X0_valueOf N h r a1 hb hr) rfl rfl (Nat.le_of_ble_eq_true rfl) (fun v1 => ?_)
  refine pw_iconst (v := 0) C dX0_told_5 (by decide) ?_
  refine pw_mmax C (by decide) ml_X0_65 (Nat.le_of_ble_eq_true rfl) dX0_told_6 ?_
  exact pm_iret C hR dX0_told_9
set_option maxRecDepth 100000 in
set_option maxHeartbeats 4000000 in
theorem c_X0_isPlainPendant {l : Launch} {w : Wd} {A : Nat → Prop} {b : Nat} (h : Hp) (r : Nat) (a1 : Int32) (hb : w.2.2.1[b]? = some (0, 0, [r + 2])) (hr : w.2.2.1[r]? = some (1, 179, [])) : ConI l yX0_isPlainPendant cX0_isPlainPendant 2 .boolean 3 w A [.ref (w.2.1 b), .int a1] h (some ((fX0_isPlainPendant h r a1), h)) := by
  refine ConI.of (lv0 := [some (.ref (w.2.1 b)), some (.int a1)]) (by decide +kernel) (Nat.le_of_ble_eq_true rfl) rfl (fun x C hR hN => ?_)
  unfold fX0_isPlainPendant
  refine pw_aload_n C dX0_isPlainPendant_0 rfl rfl ?_
  refine pw_iload_n C dX0_isPlainPendant_1 rfl rfl ?_
  refine pw_callVt (as := [.int a1]) (rest := []) C dX0_isPlainPendant_2 ml_X0_33 cw_X0_hasCord im_X0_hasCord sl_X0_hasCord hb rfl ⟨by decide, by decide⟩ (c_X0_hasCord h r a1 hb hr) rfl rfl (Nat.le_of_ble_eq_true rfl) ?_
  refine pt_if_eq (tgt := 28) C dX0_isPlainPendant_5 (by decide) (fun c1 => ?_) (fun c1 => ?_)
  · refine pw_iconst (v := 0) C dX0_isPlainPendant_28 (by decide) ?_
    exact pt_zret' C hR dX0_isPlainPendant_29 (by decide)
  · refine pw_aload_n C dX0_isPlainPendant_8 rfl rfl ?_
    refine pw_iload_n C dX0_isPlainPendant_9 rfl rfl ?_
    refine pw_callVt (as := [.int a1]) (rest := []) C dX0_isPlainPendant_10 ml_X0_83 cw_X0_depthOf im_X0_depthOf sl_X0_depthOf hb rfl ⟨by decide, by decide⟩ (c_X0_depthOf h r a1 hb hr) rfl rfl (Nat.le_of_ble_eq_true rfl) ?_
    refine pt_if_ne (tgt := 28) C dX0_isPlainPendant_13 (by decide) (fun c2 => ?_) (fun c2 => ?_)
    · refine pw_aload_n C dX0_isPlainPendant_16 rfl rfl ?_
      refine pw_iload_n C dX0_isPlainPendant_17 rfl rfl ?_
      refine pw_callVt (as := [.int a1]) (rest := []) C dX0_isPlainPendant_18 ml_X0_86 cw_X0_isTop im_X0_isTop sl_X0_isTop hb rfl ⟨by decide, by decide⟩ (c_X0_isTop h r a1 hb hr) rfl rfl (Nat.le_of_ble_eq_true rfl) ?_
      refine pt_if_ne (tgt := 28) C dX0_isPlainPendant_21 (by decide) (fun c3 => ?_) (fun c3 => ?_)
      · refine pw_iconst (v := 1) C dX0_isPlainPendant_24 (by decide) ?_
        refine pw_goto (tgt := 29) C dX0_isPlainPendant_25 (by decide) ?_
        exact pt_zret' C hR dX0_isPlainPendant_29 (by decide)
      · refine pw_iconst (v := 0) C dX0_isPlainPendant_28 (by decide) ?_
        exact pt_zret' C hR dX0_isPlainPendant_29 (by decide)
    · refine pw_iconst (v := 0) C dX0_isPlainPendant_28 (by decide) ?_
      exact pt_zret' C hR dX0_isPlainPendant_29 (by decide)
set_option maxRecDepth 100000 in
set_option maxHeartbeats 4000000 in
theorem kX0_cordsFrom_L4 {w : Wd} {x : Cz} {b : Nat} (C : Ok w x cX0_cordsFrom RX0 3) (hR : OkI w x .int) (hN : xN x = 4) (N : Nat) (h : Hp) (r : Nat) (a1 : Int32) (hb : w.2.2.1[b]? = some (0, 0, [r + 2])) (hr : w.2.2.1[r]? = some (1, 179, []))  : ∀ (n : Nat) (u2 : Int32) (u3 : Int32), PW w x 4 [some (.ref (w.2.1 b)), some (.int a1), some (.int u2), some (.int u3)] [] h (Option.map (fun v => (v, h)) (fX0_cordsFrom_L4 N h r a1 n u2 u3)) := by
  intro n
  induction n with
  | zero => intro u2 u3; rw [fX0_cordsFrom_L4]; exact pw_none
  | succ n ih =>
    intro u2 u3
    rw [fX0_cordsFrom_L4]
    refine pw_iload_n C dX0_cordsFrom_4 rfl rfl ?_
    refine pw_aload_n C dX0_cordsFrom_5 rfl rfl ?_
    refine pw_callVt (as := []) (rest := [.int u3]) C dX0_cordsFrom_6 ml_X0_29 cw_X0_cords im_X0_cords sl_X0_cords hb rfl ⟨by decide, by decide⟩ (c_X0_cords h r hb hr) rfl rfl (Nat.le_of_ble_eq_true rfl) ?_
    refine pm_icmp_ge (tgt := 35) C dX0_cordsFrom_9 (by decide) (fun c1 => ?_) (fun c1 => ?_)
    · refine pw_iload_n C dX0_cordsFrom_12 rfl rfl ?_
      refine pw_aload_n C dX0_cordsFrom_13 rfl rfl ?_
      refine pw_iload_n C dX0_cordsFrom_14 rfl rfl ?_
      refine pw_iload_n C dX0_cordsFrom_15 rfl rfl ?_
      refine pw_callVt (as := [.int u3, .int a1]) (rest := [.int u2]) C dX0_cordsFrom_16 ml_X0_95 cw_X0_isFrom im_X0_isFrom sl_X0_isFrom hb rfl ⟨by decide, by decide⟩ (c_X0_isFrom h r u3 a1 hb hr) rfl rfl (Nat.le_of_ble_eq_true rfl) ?_
      refine PW.eq (apply_ite (fun z_ => Option.map (fun v => (v, h)) (fX0_cordsFrom_L4 N h r a1 n z_ (u3 + 1))) _ _ _) ?_
      refine pw_if_eq (tgt := 26) C dX0_cordsFrom_19 (by decide) (fun c2 => ?_) (fun c2 => ?_)
      · refine pw_iconst (v := 0) C dX0_cordsFrom_26 (by decide) ?_
        refine pw_iadd C dX0_cordsFrom_27 ?_
        refine pw_istore_n (lv2 := [some (.ref (w.2.1 b)), some (.int a1), some (.int (u2 + 0)), some (.int u3)]) C dX0_cordsFrom_28 rfl hN (by decide) rfl rfl ?_
        refine pw_iinc (lv2 := [some (.ref (w.2.1 b)), some (.int a1), some (.int (u2 + 0)), some (.int (u3 + 1))]) C dX0_cordsFrom_29 rfl rfl hN (by decide) rfl rfl ?_
        refine pw_goto (tgt := 4) C dX0_cordsFrom_32 (by decide) ?_
        exact ih (u2 + 0) (u3 + 1)
      · refine pw_iconst (v := 1) C dX0_cordsFrom_22 (by decide) ?_
        refine pw_goto (tgt := 27) C dX0_cordsFrom_23 (by decide) ?_
        refine pw_iadd C dX0_cordsFrom_27 ?_
        refine pw_istore_n (lv2 := [some (.ref (w.2.1 b)), some (.int a1), some (.int (u2 + 1)), some (.int u3)]) C dX0_cordsFrom_28 rfl hN (by decide) rfl rfl ?_
        refine pw_iinc (lv2 := [some (.ref (w.2.1 b)), some (.int a1), some (.int (u2 + 1)), some (.int (u3 + 1))]) C dX0_cordsFrom_29 rfl rfl hN (by decide) rfl rfl ?_
        refine pw_goto (tgt := 4) C dX0_cordsFrom_32 (by decide) ?_
        exact ih (u2 + 1) (u3 + 1)
    · refine pw_iload_n C dX0_cordsFrom_35 rfl rfl ?_
      exact pm_iret C hR dX0_cordsFrom_36
set_option maxRecDepth 100000 in
set_option maxHeartbeats 4000000 in
theorem c_X0_cordsFrom {l : Launch} {w : Wd} {A : Nat → Prop} {b : Nat} (N : Nat) (h : Hp) (r : Nat) (a1 : Int32) (hb : w.2.2.1[b]? = some (0, 0, [r + 2])) (hr : w.2.2.1[r]? = some (1, 179, [])) : ConI l yX0_cordsFrom cX0_cordsFrom 4 .int 3 w A [.ref (w.2.1 b), .int a1] h (Option.map (fun v => (v, h)) (fX0_cordsFrom N h r a1)) := by
  refine ConI.of (lv0 := [some (.ref (w.2.1 b)), some (.int a1), none, none]) (by decide +kernel) (Nat.le_of_ble_eq_true rfl) rfl (fun x C hR hN => ?_)
  unfold fX0_cordsFrom
  refine pw_iconst (v := 0) C dX0_cordsFrom_0 (by decide) ?_
  refine pw_istore_n (lv2 := [some (.ref (w.2.1 b)), some (.int a1), some (.int 0), none]) C dX0_cordsFrom_1 rfl hN (by decide) rfl rfl ?_
  refine pw_iconst (v := 0) C dX0_cordsFrom_2 (by decide) ?_
  refine pw_istore_n (lv2 := [some (.ref (w.2.1 b)), some (.int a1), some (.int 0), some (.int 0)]) C dX0_cordsFrom_3 rfl hN (by decide) rfl rfl ?_
  exact kX0_cordsFrom_L4 C hR hN N h r a1 hb hr N 0 0
set_option maxRecDepth 100000 in
set_option maxHeartbeats 4000000 in
theorem kX0_wholeOf_L4 {w : Wd} {x : Cz} {b : Nat} (C : Ok w x cX0_wholeOf RX0 3) (hR : OkI w x .int) (hN : xN x = 5) (N : Nat) (h : Hp) (r : Nat) (a1 : Int32) (hb : w.2.2.1[b]? = some (0, 0, [r + 2])) (hr : w.2.2.1[r]? = some (1, 179, []))  : ∀ (n : Nat) (u2 : Int32) (u3 : Int32), PW w x 4 [some (.ref (w.2.1 b)), some (.int a1), some (.int u2), some (.int u3), none] [] h (Option.map (fun v => (v, h)) (fX0_wholeOf_L4 N h r a1 n u2 u3)) := by
  intro n
  induction n with
  | zero => intro u2 u3; rw [fX0_wholeOf_L4]; exact pw_none
  | succ n ih =>
    intro u2 u3
    rw [fX0_wholeOf_L4]
    refine pw_iload_n C dX0_wholeOf_4 rfl rfl ?_
    refine pw_aload_n C dX0_wholeOf_5 rfl rfl ?_
    refine pw_callVt (as := []) (rest := [.int u3]) C dX0_wholeOf_6 ml_X0_29 cw_X0_cords im_X0_cords sl_X0_cords hb rfl ⟨by decide, by decide⟩ (c_X0_cords h r hb hr) rfl rfl (Nat.le_of_ble_eq_true rfl) ?_
    refine pm_icmp_ge (tgt := 49) C dX0_wholeOf_9 (by decide) (fun c2 => ?_) (fun c2 => ?_)
    · refine pw_aload_n C dX0_wholeOf_12 rfl rfl ?_
      refine pw_iload_n C dX0_wholeOf_13 rfl rfl ?_
      refine pw_iload_n C dX0_wholeOf_14 rfl rfl ?_
      refine pw_callVt (as := [.int u3, .int a1]) (rest := []) C dX0_wholeOf_15 ml_X0_95 cw_X0_isFrom im_X0_isFrom sl_X0_isFrom hb rfl ⟨by decide, by decide⟩ (c_X0_isFrom h r u3 a1 hb hr) rfl rfl (Nat.le_of_ble_eq_true rfl) ?_
      refine pm_if_eq (tgt := 43) C dX0_wholeOf_18 (by decide) (fun c3 => ?_) (fun c3 => ?_)
      · refine pw_iinc (lv2 := [some (.ref (w.2.1 b)), some (.int a1), some (.int u2), some (.int (u3 + 1)), none]) C dX0_wholeOf_43 rfl rfl hN (by decide) rfl rfl ?_
        refine pw_goto (tgt := 4) C dX0_wholeOf_46 (by decide) ?_
        exact ih u2 (u3 + 1)
      · refine pw_aload_n C dX0_wholeOf_21 rfl rfl ?_
        refine pw_iload_n C dX0_wholeOf_22 rfl rfl ?_
        refine pm_callVp (as := [.int u3]) (rest := []) C dX0_wholeOf_23 ml_X0_62 cw_X0_valueOf im_X0_valueOf sl_X0_valueOf hb rfl ⟨by decide, by decide⟩ (c_X0_valueOf N h r u3 hb hr) rfl rfl (Nat.le_of_ble_eq_true rfl) (fun v1 => ?_)
        refine pw_istore (lv2 := [some (.ref (w.2.1 b)), some (.int a1), some (.int u2), some (.int u3), some (.int v1)]) C dX0_wholeOf_26 hN (by decide) rfl rfl ?_
        refine pw_iload C dX0_wholeOf_28 rfl ?_
        refine pw_bipush (v := (-4)) C dX0_wholeOf_30 (by decide) ?_
        refine pm_icmp_ne (tgt := 38) C dX0_wholeOf_32 (by decide) (fun c4 => ?_) (fun c4 => ?_)
        · refine pw_bipush (v := (-4)) C dX0_wholeOf_35 (by decide) ?_
          exact pm_iret C hR dX0_wholeOf_37
        · refine pw_iload_n C dX0_wholeOf_38 rfl rfl ?_
          refine pw_iload C dX0_wholeOf_39 rfl ?_
          refine pw_iadd C dX0_wholeOf_41 ?_
          refine pw_istore_n (lv2 := [some (.ref (w.2.1 b)), some (.int a1), some (.int (u2 + v1)), some (.int u3), some (.int v1)]) C dX0_wholeOf_42 rfl hN (by decide) rfl rfl ?_
          refine pw_iinc (lv2 := [some (.ref (w.2.1 b)), some (.int a1), some (.int (u2 + v1)), some (.int (u3 + 1)), some (.int v1)]) C dX0_wholeOf_43 rfl rfl hN (by decide) rfl rfl ?_
          refine pw_goto (tgt := 4) C dX0_wholeOf_46 (by decide) ?_
          exact pw_lv (ih (u2 + v1) (u3 + 1)) ⟨rfl, rfl, rfl, rfl, trivial⟩
    · refine pw_iload_n C dX0_wholeOf_49 rfl rfl ?_
      exact pm_iret C hR dX0_wholeOf_50
set_option maxRecDepth 100000 in
set_option maxHeartbeats 4000000 in
theorem c_X0_wholeOf {l : Launch} {w : Wd} {A : Nat → Prop} {b : Nat} (N : Nat) (h : Hp) (r : Nat) (a1 : Int32) (hb : w.2.2.1[b]? = some (0, 0, [r + 2])) (hr : w.2.2.1[r]? = some (1, 179, [])) : ConI l yX0_wholeOf cX0_wholeOf 5 .int 3 w A [.ref (w.2.1 b), .int a1] h (Option.map (fun v => (v, h)) (fX0_wholeOf N h r a1)) := by
  refine ConI.of (lv0 := [some (.ref (w.2.1 b)), some (.int a1), none, none, none]) (by decide +kernel) (Nat.le_of_ble_eq_true rfl) rfl (fun x C hR hN => ?_)
  unfold fX0_wholeOf
  refine pw_iconst (v := 0) C dX0_wholeOf_0 (by decide) ?_
  refine pw_istore_n (lv2 := [some (.ref (w.2.1 b)), some (.int a1), some (.int 0), none, none]) C dX0_wholeOf_1 rfl hN (by decide) rfl rfl ?_
  refine pw_iconst (v := 0) C dX0_wholeOf_2 (by decide) ?_
  refine pw_istore_n (lv2 := [some (.ref (w.2.1 b)), some (.int a1), some (.int 0), some (.int 0), none]) C dX0_wholeOf_3 rfl hN (by decide) rfl rfl ?_
  exact kX0_wholeOf_L4 C hR hN N h r a1 hb hr N 0 0
