set_option maxRecDepth 100000 in
set_option maxHeartbeats 4000000 in
theorem c_X5_lay {l : Launch} {w : Wd} {A : Nat → Prop} (N : Nat) (h : Hp) (hM : LM w) : ConI l yX5_lay cX5_lay 1 .int 5 w A [.ref (w.2.1 22)] h ((fX5_lay N h)) := by
  refine ConI.of (lv0 := [some (.ref (w.2.1 22))]) (by decide +kernel) (Nat.le_of_ble_eq_true rfl) rfl (fun x C hR hN => ?_)
  unfold fX5_lay
  refine pw_aload_n C dX5_lay_0 rfl rfl ?_
  refine pw_callViq (as := []) (rest := []) C dX5_lay_1 ml_X5_128 cw_X5_fault im_X5_fault sl_X5_fault (hM 22 _ rfl (by decide)) rfl ⟨by decide, by decide⟩ (c_X5_fault N h hM) rfl rfl (Nat.le_of_ble_eq_true rfl) (fun z1 => ?_)
  refine pw_bipush (v := (-4)) C dX5_lay_4 (by decide) ?_
  refine pw_icmp_ne (tgt := 16) C dX5_lay_6 (by decide) (fun c3 => ?_) (fun c3 => ?_)
  · refine pw_aload_n C dX5_lay_9 rfl rfl ?_
    refine pw_geti C (hM 22 _ rfl (by decide)) rfl (k := 6) (by decide) rfl fl_X5_62 dX5_lay_10 ?_
    refine pw_if_ne (tgt := 19) C dX5_lay_13 (by decide) (fun c4 => ?_) (fun c4 => ?_)
    · refine pw_bipush (v := (-2)) C dX5_lay_16 (by decide) ?_
      exact pw_iret C hR dX5_lay_18
    · refine pw_aload_n C dX5_lay_19 rfl rfl ?_
      refine pw_callVvq (as := []) (rest := []) C dX5_lay_20 ml_X5_51 cw_X5_begins im_X5_begins sl_X5_begins (hM 22 _ rfl (by decide)) rfl ⟨by decide, by decide⟩ (c_X5_begins N z1.2 hM) rfl rfl (Nat.le_of_ble_eq_true rfl) (fun z2 => ?_)
      refine pw_aload_n C dX5_lay_23 rfl rfl ?_
      refine pw_getr (q2 := 23) C (hM 22 _ rfl (by decide)) rfl (k := 0) (by decide) rfl fl_X5_7 dX5_lay_24 ?_
      refine pw_iconst (v := 0) C dX5_lay_27 (by decide) ?_
      refine pw_ialdc (k := 0) C (hM 23 _ rfl (by decide)) (by decide +kernel) dX5_lay_28 ?_
      exact pw_iret C hR dX5_lay_29
  · refine pw_bipush (v := (-2)) C dX5_lay_16 (by decide) ?_
    exact pw_iret C hR dX5_lay_18
set_option maxRecDepth 100000 in
set_option maxHeartbeats 4000000 in
theorem c_X5_cord {l : Launch} {w : Wd} {A : Nat → Prop} (N : Nat) (h : Hp) (a1 : Int32) (a2 : Int32) (hM : LM w) : ConI l yX5_cord cX5_cord 3 .int 5 w A [.ref (w.2.1 22), .int a1, .int a2] h (Option.map (fun v => (v, h)) (fX5_cord N h a1 a2)) := by
  refine ConI.of (lv0 := [some (.ref (w.2.1 22)), some (.int a1), some (.int a2)]) (by decide +kernel) (Nat.le_of_ble_eq_true rfl) rfl (fun x C hR hN => ?_)
  unfold fX5_cord
  refine pw_aload_n C dX5_cord_0 rfl rfl ?_
  refine pw_iload_n C dX5_cord_1 rfl rfl ?_
  refine pw_callVt (as := [.int a1]) (rest := []) C dX5_cord_2 ml_X5_156 cw_X5_isCord im_X5_isCord sl_X5_isCord (hM 22 _ rfl (by decide)) rfl ⟨by decide, by decide⟩ (c_X5_isCord h a1 hM) rfl rfl (Nat.le_of_ble_eq_true rfl) ?_
  refine pm_if_ne (tgt := 10) C dX5_cord_5 (by decide) (fun c13 => ?_) (fun c13 => ?_)
  · refine pw_iconst (v := (-1)) C dX5_cord_8 (by decide) ?_
    exact pm_iret C hR dX5_cord_9
  · refine pw_iload_n C dX5_cord_10 rfl rfl ?_
    refine pm_ite (fun e11_0 => ?_) (fun e11_0 => ?_)
    · refine pw_tsIn (tgt := 68) (off := 57) C dX5_cord_11 (by rw [e11_0]; decide) (by rw [e11_0]; decide) (by rw [e11_0]; decide) (by decide) ?_
      refine pw_aload_n C dX5_cord_68 rfl rfl ?_
      refine pw_getr (q2 := 23) C (hM 22 _ rfl (by decide)) rfl (k := 0) (by decide) rfl fl_X5_7 dX5_cord_69 ?_
      refine pw_iconst (v := 2) C dX5_cord_72 (by decide) ?_
      refine pw_iload_n C dX5_cord_73 rfl rfl ?_
      refine pw_iadd C dX5_cord_74 ?_
      refine pm_ialdb C (hM 23 _ rfl (by decide)) dX5_cord_75 (fun v12 => ?_)
      exact pm_iret C hR dX5_cord_76
    · refine pm_ite (fun e11_1 => ?_) (fun e11_1 => ?_)
      · refine pw_tsIn (tgt := 77) (off := 66) C dX5_cord_11 (by rw [e11_1]; decide) (by rw [e11_1]; decide) (by rw [e11_1]; decide) (by decide) ?_
        refine pw_aload_n C dX5_cord_77 rfl rfl ?_
        refine pw_getr (q2 := 23) C (hM 22 _ rfl (by decide)) rfl (k := 0) (by decide) rfl fl_X5_7 dX5_cord_78 ?_
        refine pw_bipush (v := 18) C dX5_cord_81 (by decide) ?_
        refine pw_iload_n C dX5_cord_83 rfl rfl ?_
        refine pw_iadd C dX5_cord_84 ?_
        refine pm_ialdb C (hM 23 _ rfl (by decide)) dX5_cord_85 (fun v11 => ?_)
        exact pm_iret C hR dX5_cord_86
      · refine pm_ite (fun e11_2 => ?_) (fun e11_2 => ?_)
        · refine pw_tsIn (tgt := 87) (off := 76) C dX5_cord_11 (by rw [e11_2]; decide) (by rw [e11_2]; decide) (by rw [e11_2]; decide) (by decide) ?_
          refine pw_aload_n C dX5_cord_87 rfl rfl ?_
          refine pw_iload_n C dX5_cord_88 rfl rfl ?_
          refine pm_callVp (as := [.int a1]) (rest := []) C dX5_cord_89 ml_X5_131 cw_X5_isPendant im_X5_isPendant sl_X5_isPendant (hM 22 _ rfl (by decide)) rfl ⟨by decide, by decide⟩ (c_X5_isPendant h a1 hM) rfl rfl (Nat.le_of_ble_eq_true rfl) (fun v9 => ?_)
          refine pm_if_eq (tgt := 100) C dX5_cord_92 (by decide) (fun c14 => ?_) (fun c14 => ?_)
          · refine pw_aload_n C dX5_cord_100 rfl rfl ?_
            refine pw_getr (q2 := 23) C (hM 22 _ rfl (by decide)) rfl (k := 0) (by decide) rfl fl_X5_7 dX5_cord_101 ?_
            refine pw_bipush (v := 98) C dX5_cord_104 (by decide) ?_
            refine pw_iload_n C dX5_cord_106 rfl rfl ?_
            refine pw_iadd C dX5_cord_107 ?_
            refine pm_ialdb C (hM 23 _ rfl (by decide)) dX5_cord_108 (fun v10 => ?_)
            exact pm_iret C hR dX5_cord_109
          · refine pw_bipush (v := (-4)) C dX5_cord_95 (by decide) ?_
            refine pw_goto (tgt := 109) C dX5_cord_97 (by decide) ?_
            exact pm_iret C hR dX5_cord_109
        · refine pm_ite (fun e11_3 => ?_) (fun e11_3 => ?_)
          · refine pw_tsIn (tgt := 110) (off := 99) C dX5_cord_11 (by rw [e11_3]; decide) (by rw [e11_3]; decide) (by rw [e11_3]; decide) (by decide) ?_
            refine pw_aload_n C dX5_cord_110 rfl rfl ?_
            refine pw_getr (q2 := 23) C (hM 22 _ rfl (by decide)) rfl (k := 0) (by decide) rfl fl_X5_7 dX5_cord_111 ?_
            refine pw_bipush (v := 114) C dX5_cord_114 (by decide) ?_
            refine pw_iload_n C dX5_cord_116 rfl rfl ?_
            refine pw_iadd C dX5_cord_117 ?_
            refine pm_ialdb C (hM 23 _ rfl (by decide)) dX5_cord_118 (fun v8 => ?_)
            exact pm_iret C hR dX5_cord_119
          · refine pm_ite (fun e11_4 => ?_) (fun e11_4 => ?_)
            · refine pw_tsIn (tgt := 120) (off := 109) C dX5_cord_11 (by rw [e11_4]; decide) (by rw [e11_4]; decide) (by rw [e11_4]; decide) (by decide) ?_
              refine pw_aload_n C dX5_cord_120 rfl rfl ?_
              refine pw_iload_n C dX5_cord_121 rfl rfl ?_
              refine pm_callVp (as := [.int a1]) (rest := []) C dX5_cord_122 ml_X5_159 cw_X5_depthOf im_X5_depthOf sl_X5_depthOf (hM 22 _ rfl (by decide)) rfl ⟨by decide, by decide⟩ (c_X5_depthOf h a1 hM) rfl rfl (Nat.le_of_ble_eq_true rfl) (fun v7 => ?_)
              exact pm_iret C hR dX5_cord_125
            · refine pm_ite (fun e11_5 => ?_) (fun e11_5 => ?_)
              · refine pw_tsIn (tgt := 126) (off := 115) C dX5_cord_11 (by rw [e11_5]; decide) (by rw [e11_5]; decide) (by rw [e11_5]; decide) (by decide) ?_
                refine pw_aload_n C dX5_cord_126 rfl rfl ?_
                refine pw_iload_n C dX5_cord_127 rfl rfl ?_
                refine pm_callVp (as := [.int a1]) (rest := []) C dX5_cord_128 ml_X5_162 cw_X5_hanging im_X5_hanging sl_X5_hanging (hM 22 _ rfl (by decide)) rfl ⟨by decide, by decide⟩ (c_X5_hanging N h a1 hM) rfl rfl (Nat.le_of_ble_eq_true rfl) (fun v6 => ?_)
                exact pm_iret C hR dX5_cord_131
              · refine pm_ite (fun e11_6 => ?_) (fun e11_6 => ?_)
                · refine pw_tsIn (tgt := 132) (off := 121) C dX5_cord_11 (by rw [e11_6]; decide) (by rw [e11_6]; decide) (by rw [e11_6]; decide) (by decide) ?_
                  refine pw_aload_n C dX5_cord_132 rfl rfl ?_
                  refine pw_getr (q2 := 23) C (hM 22 _ rfl (by decide)) rfl (k := 0) (by decide) rfl fl_X5_7 dX5_cord_133 ?_
                  refine pw_sipush (v := 130) C dX5_cord_136 (by decide) ?_
                  refine pw_iload_n C dX5_cord_139 rfl rfl ?_
                  refine pw_iadd C dX5_cord_140 ?_
                  refine pm_ialdb C (hM 23 _ rfl (by decide)) dX5_cord_141 (fun v5 => ?_)
                  exact pm_iret C hR dX5_cord_142
                · refine pm_ite (fun e11_7 => ?_) (fun e11_7 => ?_)
                  · refine pw_tsIn (tgt := 143) (off := 132) C dX5_cord_11 (by rw [e11_7]; decide) (by rw [e11_7]; decide) (by rw [e11_7]; decide) (by decide) ?_
                    refine pw_aload_n C dX5_cord_143 rfl rfl ?_
                    refine pw_iload_n C dX5_cord_144 rfl rfl ?_
                    refine pm_callVp (as := [.int a1]) (rest := []) C dX5_cord_145 ml_X5_146 cw_X5_value im_X5_value sl_X5_value (hM 22 _ rfl (by decide)) rfl ⟨by decide, by decide⟩ (c_X5_value N h a1 hM) rfl rfl (Nat.le_of_ble_eq_true rfl) (fun v4 => ?_)
                    exact pm_iret C hR dX5_cord_148
                  · refine pm_ite (fun e11_8 => ?_) (fun e11_8 => ?_)
                    · refine pw_tsIn (tgt := 149) (off := 138) C dX5_cord_11 (by rw [e11_8]; decide) (by rw [e11_8]; decide) (by rw [e11_8]; decide) (by decide) ?_
                      refine pw_aload_n C dX5_cord_149 rfl rfl ?_
                      refine pw_iload_n C dX5_cord_150 rfl rfl ?_
                      refine pm_callVp (as := [.int a1]) (rest := []) C dX5_cord_151 ml_X5_165 cw_X5_whole im_X5_whole sl_X5_whole (hM 22 _ rfl (by decide)) rfl ⟨by decide, by decide⟩ (c_X5_whole N h a1 hM) rfl rfl (Nat.le_of_ble_eq_true rfl) (fun v3 => ?_)
                      exact pm_iret C hR dX5_cord_154
                    · refine pm_ite (fun e11_9 => ?_) (fun e11_9 => ?_)
                      · refine pw_tsIn (tgt := 155) (off := 144) C dX5_cord_11 (by rw [e11_9]; decide) (by rw [e11_9]; decide) (by rw [e11_9]; decide) (by decide) ?_
                        refine pw_aload_n C dX5_cord_155 rfl rfl ?_
                        refine pw_iload_n C dX5_cord_156 rfl rfl ?_
                        refine pw_iconst (v := 1) C dX5_cord_157 (by decide) ?_
                        refine pm_callVp (as := [.int a1, .int 1]) (rest := []) C dX5_cord_158 ml_X5_138 cw_X5_told im_X5_told sl_X5_told (hM 22 _ rfl (by decide)) rfl ⟨by decide, by decide⟩ (c_X5_told N h a1 1 hM) rfl rfl (Nat.le_of_ble_eq_true rfl) (fun v2 => ?_)
                        exact pm_iret C hR dX5_cord_161
                      · refine pm_ite (fun e11_10 => ?_) (fun e11_10 => ?_)
                        · refine pw_tsIn (tgt := 162) (off := 151) C dX5_cord_11 (by rw [e11_10]; decide) (by rw [e11_10]; decide) (by rw [e11_10]; decide) (by decide) ?_
                          refine pw_aload_n C dX5_cord_162 rfl rfl ?_
                          refine pw_iload_n C dX5_cord_163 rfl rfl ?_
                          refine pm_callVp (as := [.int a1]) (rest := []) C dX5_cord_164 ml_X5_168 cw_X5_knots_ im_X5_knots_ sl_X5_knots_ (hM 22 _ rfl (by decide)) rfl ⟨by decide, by decide⟩ (c_X5_knots_ N h a1 hM) rfl rfl (Nat.le_of_ble_eq_true rfl) (fun v1 => ?_)
                          exact pm_iret C hR dX5_cord_167
                        · refine pw_tsOut (tgt := 168) C dX5_cord_11 (by have := i_neN (z := 0) (by decide) e11_0; have := i_neN (z := 1) (by decide) e11_1; have := i_neN (z := 2) (by decide) e11_2; have := i_neN (z := 3) (by decide) e11_3; have := i_neN (z := 4) (by decide) e11_4; have := i_neN (z := 5) (by decide) e11_5; have := i_neN (z := 6) (by decide) e11_6; have := i_neN (z := 7) (by decide) e11_7; have := i_neN (z := 8) (by decide) e11_8; have := i_neN (z := 9) (by decide) e11_9; have := i_neN (z := 10) (by decide) e11_10; omega) (by decide) ?_
                          refine pw_iconst (v := (-1)) C dX5_cord_168 (by decide) ?_
                          exact pm_iret C hR dX5_cord_169
set_option maxRecDepth 100000 in
set_option maxHeartbeats 4000000 in
theorem kX5_sumOf_L4 {w : Wd} {x : Cz} (C : Ok w x cX5_sumOf RX5 5) (hR : OkI w x .int) (hN : xN x = 4) (N : Nat) (h : Hp) (a1 : Int32) (hM : LM w)  : ∀ (n : Nat) (u2 : Int32) (u3 : Int32), PW w x 4 [some (.ref (w.2.1 22)), some (.int a1), some (.int u2), some (.int u3)] [] h (Option.map (fun v => (v, h)) (fX5_sumOf_L4 N h a1 n u2 u3)) := by
  intro n
  induction n with
  | zero => intro u2 u3; rw [fX5_sumOf_L4]; exact pw_none
  | succ n ih =>
    intro u2 u3
    rw [fX5_sumOf_L4]
    refine pw_iload_n C dX5_sumOf_4 rfl rfl ?_
    refine pw_aload_n C dX5_sumOf_5 rfl rfl ?_
    refine pw_getr (q2 := 23) C (hM 22 _ rfl (by decide)) rfl (k := 0) (by decide) rfl fl_X5_7 dX5_sumOf_6 ?_
    refine pw_iconst (v := 0) C dX5_sumOf_9 (by decide) ?_
    refine pw_ialdc (k := 0) C (hM 23 _ rfl (by decide)) (by decide +kernel) dX5_sumOf_10 ?_
    refine pm_icmp_ge (tgt := 50) C dX5_sumOf_11 (by decide) (fun c4 => ?_) (fun c4 => ?_)
    · refine pw_aload_n C dX5_sumOf_14 rfl rfl ?_
      refine pw_iload_n C dX5_sumOf_15 rfl rfl ?_
      refine pw_iload_n C dX5_sumOf_16 rfl rfl ?_
      refine pm_callVp (as := [.int u3, .int a1]) (rest := []) C dX5_sumOf_17 ml_X5_173 cw_X5_isOf im_X5_isOf sl_X5_isOf (hM 22 _ rfl (by decide)) rfl ⟨by decide, by decide⟩ (c_X5_isOf h u3 a1 hM) rfl rfl (Nat.le_of_ble_eq_true rfl) (fun v1 => ?_)
      refine pm_if_eq (tgt := 44) C dX5_sumOf_20 (by decide) (fun c5 => ?_) (fun c5 => ?_)
      · refine pw_iinc (lv2 := [some (.ref (w.2.1 22)), some (.int a1), some (.int u2), some (.int (u3 + 1))]) C dX5_sumOf_44 rfl rfl hN (by decide) rfl rfl ?_
        refine pw_goto (tgt := 4) C dX5_sumOf_47 (by decide) ?_
        exact ih u2 (u3 + 1)
      · refine pw_aload_n C dX5_sumOf_23 rfl rfl ?_
        refine pw_iload_n C dX5_sumOf_24 rfl rfl ?_
        refine pm_callVp (as := [.int u3]) (rest := []) C dX5_sumOf_25 ml_X5_165 cw_X5_whole im_X5_whole sl_X5_whole (hM 22 _ rfl (by decide)) rfl ⟨by decide, by decide⟩ (c_X5_whole N h u3 hM) rfl rfl (Nat.le_of_ble_eq_true rfl) (fun v2 => ?_)
        refine pw_bipush (v := (-4)) C dX5_sumOf_28 (by decide) ?_
        refine pm_icmp_ne (tgt := 36) C dX5_sumOf_30 (by decide) (fun c6 => ?_) (fun c6 => ?_)
        · refine pw_bipush (v := (-4)) C dX5_sumOf_33 (by decide) ?_
          exact pm_iret C hR dX5_sumOf_35
        · refine pw_iload_n C dX5_sumOf_36 rfl rfl ?_
          refine pw_aload_n C dX5_sumOf_37 rfl rfl ?_
          refine pw_iload_n C dX5_sumOf_38 rfl rfl ?_
          refine pm_callVp (as := [.int u3]) (rest := [.int u2]) C dX5_sumOf_39 ml_X5_165 cw_X5_whole im_X5_whole sl_X5_whole (hM 22 _ rfl (by decide)) rfl ⟨by decide, by decide⟩ (c_X5_whole N h u3 hM) rfl rfl (Nat.le_of_ble_eq_true rfl) (fun v3 => ?_)
          refine pw_iadd C dX5_sumOf_42 ?_
          refine pw_istore_n (lv2 := [some (.ref (w.2.1 22)), some (.int a1), some (.int (u2 + v3)), some (.int u3)]) C dX5_sumOf_43 rfl hN (by decide) rfl rfl ?_
          refine pw_iinc (lv2 := [some (.ref (w.2.1 22)), some (.int a1), some (.int (u2 + v3)), some (.int (u3 + 1))]) C dX5_sumOf_44 rfl rfl hN (by decide) rfl rfl ?_
          refine pw_goto (tgt := 4) C dX5_sumOf_47 (by decide) ?_
          exact ih (u2 + v3) (u3 + 1)
    · refine pw_iload_n C dX5_sumOf_50 rfl rfl ?_
      exact pm_iret C hR dX5_sumOf_51
set_option maxRecDepth 100000 in
set_option maxHeartbeats 4000000 in
theorem c_X5_sumOf {l : Launch} {w : Wd} {A : Nat → Prop} (N : Nat) (h : Hp) (a1 : Int32) (hM : LM w) : ConI l yX5_sumOf cX5_sumOf 4 .int 5 w A [.ref (w.2.1 22), .int a1] h (Option.map (fun v => (v, h)) (fX5_sumOf N h a1)) := by
  refine ConI.of (lv0 := [some (.ref (w.2.1 22)), some (.int a1), none, none]) (by decide +kernel) (Nat.le_of_ble_eq_true rfl) rfl (fun x C hR hN => ?_)
  unfold fX5_sumOf
  refine pw_iconst (v := 0) C dX5_sumOf_0 (by decide) ?_
  refine pw_istore_n (lv2 := [some (.ref (w.2.1 22)), some (.int a1), some (.int 0), none]) C dX5_sumOf_1 rfl hN (by decide) rfl rfl ?_
  refine pw_iconst (v := 0) C dX5_sumOf_2 (by decide) ?_
  refine pw_istore_n (lv2 := [some (.ref (w.2.1 22)), some (.int a1), some (.int 0), some (.int 0)]) C dX5_sumOf_3 rfl hN (by decide) rfl rfl ?_
  exact kX5_sumOf_L4 C hR hN N h a1 hM N 0 0
set_option maxRecDepth 100000 in
set_option maxHeartbeats 4000000 in
theorem kX5_lost_L82 {w : Wd} {x : Cz} (C : Ok w x cX5_lost RX5 5) (hR : OkI w x .int) (hN : xN x = 6) (N : Nat) (h : Hp) (a1 : Int32) (hM : LM w)  : ∀ (n : Nat) (u2 : Int32) (u4 : Int32) (u5 : Int32), PW w x 82 [some (.ref (w.2.1 22)), some (.int a1), some (.int u2), none, some (.int u4), some (.int u5)] [] h (Option.map (fun v => (v, h)) (fX5_lost_L82 N h a1 n u2 u4 u5)) := by
  intro n
  induction n with
  | zero => intro u2 u4 u5; rw [fX5_lost_L82]; exact pw_none
  | succ n ih =>
    intro u2 u4 u5
    rw [fX5_lost_L82]
    refine pw_iload C dX5_lost_82 rfl ?_
    refine pw_aload_n C dX5_lost_84 rfl rfl ?_
    refine pw_getr (q2 := 23) C (hM 22 _ rfl (by decide)) rfl (k := 0) (by decide) rfl fl_X5_7 dX5_lost_85 ?_
    refine pw_iconst (v := 0) C dX5_lost_88 (by decide) ?_
    refine pw_ialdc (k := 0) C (hM 23 _ rfl (by decide)) (by decide +kernel) dX5_lost_89 ?_
    refine pm_icmp_ge (tgt := 140) C dX5_lost_90 (by decide) (fun c11 => ?_) (fun c11 => ?_)
    · refine pw_iload C dX5_lost_93 rfl ?_
      refine pw_iload_n C dX5_lost_95 rfl rfl ?_
      refine pm_icmp_eq (tgt := 134) C dX5_lost_96 (by decide) (fun c12 => ?_) (fun c12 => ?_)
      · refine pw_iinc (lv2 := [some (.ref (w.2.1 22)), some (.int a1), some (.int u2), none, some (.int u4), some (.int (u5 + 1))]) C dX5_lost_134 rfl rfl hN (by decide) rfl rfl ?_
        refine pw_goto (tgt := 82) C dX5_lost_137 (by decide) ?_
        exact ih u2 u4 (u5 + 1)
      · refine pw_aload_n C dX5_lost_99 rfl rfl ?_
        refine pw_iload C dX5_lost_100 rfl ?_
        refine pw_iload_n C dX5_lost_102 rfl rfl ?_
        refine pm_callVp (as := [.int u5, .int u2]) (rest := []) C dX5_lost_103 ml_X5_173 cw_X5_isOf im_X5_isOf sl_X5_isOf (hM 22 _ rfl (by decide)) rfl ⟨by decide, by decide⟩ (c_X5_isOf h u5 u2 hM) rfl rfl (Nat.le_of_ble_eq_true rfl) (fun v8 => ?_)
        refine pm_if_eq (tgt := 134) C dX5_lost_106 (by decide) (fun c13 => ?_) (fun c13 => ?_)
        · refine pw_iinc (lv2 := [some (.ref (w.2.1 22)), some (.int a1), some (.int u2), none, some (.int u4), some (.int (u5 + 1))]) C dX5_lost_134 rfl rfl hN (by decide) rfl rfl ?_
          refine pw_goto (tgt := 82) C dX5_lost_137 (by decide) ?_
          exact ih u2 u4 (u5 + 1)
        · refine pw_aload_n C dX5_lost_109 rfl rfl ?_
          refine pw_iload C dX5_lost_110 rfl ?_
          refine pm_callVp (as := [.int u5]) (rest := []) C dX5_lost_112 ml_X5_165 cw_X5_whole im_X5_whole sl_X5_whole (hM 22 _ rfl (by decide)) rfl ⟨by decide, by decide⟩ (c_X5_whole N h u5 hM) rfl rfl (Nat.le_of_ble_eq_true rfl) (fun v9 => ?_)
          refine pw_bipush (v := (-4)) C dX5_lost_115 (by decide) ?_
          refine pm_icmp_ne (tgt := 123) C dX5_lost_117 (by decide) (fun c14 => ?_) (fun c14 => ?_)
          · refine pw_bipush (v := (-4)) C dX5_lost_120 (by decide) ?_
            exact pm_iret C hR dX5_lost_122
          · refine pw_iload C dX5_lost_123 rfl ?_
            refine pw_aload_n C dX5_lost_125 rfl rfl ?_
            refine pw_iload C dX5_lost_126 rfl ?_
            refine pm_callVp (as := [.int u5]) (rest := [.int u4]) C dX5_lost_128 ml_X5_165 cw_X5_whole im_X5_whole sl_X5_whole (hM 22 _ rfl (by decide)) rfl ⟨by decide, by decide⟩ (c_X5_whole N h u5 hM) rfl rfl (Nat.le_of_ble_eq_true rfl) (fun v10 => ?_)
            refine pw_isub C dX5_lost_131 ?_
            refine pw_istore (lv2 := [some (.ref (w.2.1 22)), some (.int a1), some (.int u2), none, some (.int (u4 - v10)), some (.int u5)]) C dX5_lost_132 hN (by decide) rfl rfl ?_
            refine pw_iinc (lv2 := [some (.ref (w.2.1 22)), some (.int a1), some (.int u2), none, some (.int (u4 - v10)), some (.int (u5 + 1))]) C dX5_lost_134 rfl rfl hN (by decide) rfl rfl ?_
            refine pw_goto (tgt := 82) C dX5_lost_137 (by decide) ?_
            exact ih u2 (u4 - v10) (u5 + 1)
    · refine pw_iload C dX5_lost_140 rfl ?_
      refine pw_i2l C dX5_lost_142 ?_
      refine pw_lconst (v := 0) C dX5_lost_143 (by decide) ?_
      refine pw_ldc2 (C := C) cl_X5_213 dX5_lost_144 ?_
      refine pw_callSt (as := [.long (u4).toInt64, .long 0, .long 9999]) (rest := []) C dX5_lost_147 ml_X5_54 cw_X5_in st_X5_in ⟨by decide, by decide⟩ (c_X5_in h (u4).toInt64 0 9999) rfl rfl (Nat.le_of_ble_eq_true rfl) ?_
      refine pm_if_eq (tgt := 158) C dX5_lost_150 (by decide) (fun c15 => ?_) (fun c15 => ?_)
      · refine pw_bipush (v := (-4)) C dX5_lost_158 (by decide) ?_
        exact pm_iret C hR dX5_lost_160
      · refine pw_iload C dX5_lost_153 rfl ?_
        refine pw_goto (tgt := 160) C dX5_lost_155 (by decide) ?_
        exact pm_iret C hR dX5_lost_160
set_option maxRecDepth 100000 in
set_option maxHeartbeats 4000000 in
theorem c_X5_lost {l : Launch} {w : Wd} {A : Nat → Prop} (N : Nat) (h : Hp) (a1 : Int32) (hM : LM w) : ConI l yX5_lost cX5_lost 6 .int 5 w A [.ref (w.2.1 22), .int a1] h (Option.map (fun v => (v, h)) (fX5_lost N h a1)) := by
  refine ConI.of (lv0 := [some (.ref (w.2.1 22)), some (.int a1), none, none, none, none]) (by decide +kernel) (Nat.le_of_ble_eq_true rfl) rfl (fun x C hR hN => ?_)
  unfold fX5_lost
  refine pw_aload_n C dX5_lost_0 rfl rfl ?_
  refine pw_iload_n C dX5_lost_1 rfl rfl ?_
  refine pw_callVt (as := [.int a1]) (rest := []) C dX5_lost_2 ml_X5_156 cw_X5_isCord im_X5_isCord sl_X5_isCord (hM 22 _ rfl (by decide)) rfl ⟨by decide, by decide⟩ (c_X5_isCord h a1 hM) rfl rfl (Nat.le_of_ble_eq_true rfl) ?_
  refine pm_if_ne (tgt := 10) C dX5_lost_5 (by decide) (fun c16 => ?_) (fun c16 => ?_)
  · refine pw_iconst (v := (-1)) C dX5_lost_8 (by decide) ?_
    exact pm_iret C hR dX5_lost_9
  · refine pw_aload_n C dX5_lost_10 rfl rfl ?_
    refine pw_iload_n C dX5_lost_11 rfl rfl ?_
    refine pm_callVp (as := [.int a1]) (rest := []) C dX5_lost_12 ml_X5_170 cw_X5_isPlain im_X5_isPlain sl_X5_isPlain (hM 22 _ rfl (by decide)) rfl ⟨by decide, by decide⟩ (c_X5_isPlain h a1 hM) rfl rfl (Nat.le_of_ble_eq_true rfl) (fun v1 => ?_)
    refine pm_if_ne (tgt := 21) C dX5_lost_15 (by decide) (fun c17 => ?_) (fun c17 => ?_)
    · refine pw_bipush (v := (-2)) C dX5_lost_18 (by decide) ?_
      exact pm_iret C hR dX5_lost_20
    · refine pw_aload_n C dX5_lost_21 rfl rfl ?_
      refine pw_getr (q2 := 23) C (hM 22 _ rfl (by decide)) rfl (k := 0) (by decide) rfl fl_X5_7 dX5_lost_22 ?_
      refine pw_bipush (v := 114) C dX5_lost_25 (by decide) ?_
      refine pw_iload_n C dX5_lost_27 rfl rfl ?_
      refine pw_iadd C dX5_lost_28 ?_
      refine pm_ialdb C (hM 23 _ rfl (by decide)) dX5_lost_29 (fun v2 => ?_)
      refine pw_istore_n (lv2 := [some (.ref (w.2.1 22)), some (.int a1), some (.int v2), none, none, none]) C dX5_lost_30 rfl hN (by decide) rfl rfl ?_
      refine pw_aload_n C dX5_lost_31 rfl rfl ?_
      refine pw_iload_n C dX5_lost_32 rfl rfl ?_
      refine pm_callVp (as := [.int v2]) (rest := []) C dX5_lost_33 ml_X5_176 cw_X5_topOf im_X5_topOf sl_X5_topOf (hM 22 _ rfl (by decide)) rfl ⟨by decide, by decide⟩ (c_X5_topOf N h v2 hM) rfl rfl (Nat.le_of_ble_eq_true rfl) (fun v3 => ?_)
      refine pw_istore_n (lv2 := [some (.ref (w.2.1 22)), some (.int a1), some (.int v2), some (.int v3), none, none]) C dX5_lost_36 rfl hN (by decide) rfl rfl ?_
      refine pw_iload_n C dX5_lost_37 rfl rfl ?_
      refine pw_bipush (v := (-4)) C dX5_lost_38 (by decide) ?_
      refine pm_icmp_eq (tgt := 63) C dX5_lost_40 (by decide) (fun c18 => ?_) (fun c18 => ?_)
      · refine pw_bipush (v := (-4)) C dX5_lost_63 (by decide) ?_
        exact pm_iret C hR dX5_lost_65
      · refine pw_aload_n C dX5_lost_43 rfl rfl ?_
        refine pw_iload_n C dX5_lost_44 rfl rfl ?_
        refine pm_callVp (as := [.int v3]) (rest := []) C dX5_lost_45 ml_X5_165 cw_X5_whole im_X5_whole sl_X5_whole (hM 22 _ rfl (by decide)) rfl ⟨by decide, by decide⟩ (c_X5_whole N h v3 hM) rfl rfl (Nat.le_of_ble_eq_true rfl) (fun v4 => ?_)
        refine pw_bipush (v := (-4)) C dX5_lost_48 (by decide) ?_
        refine pm_icmp_eq (tgt := 63) C dX5_lost_50 (by decide) (fun c19 => ?_) (fun c19 => ?_)
        · refine pw_bipush (v := (-4)) C dX5_lost_63 (by decide) ?_
          exact pm_iret C hR dX5_lost_65
        · refine pw_aload_n C dX5_lost_53 rfl rfl ?_
          refine pw_iload_n C dX5_lost_54 rfl rfl ?_
          refine pm_callVp (as := [.int a1]) (rest := []) C dX5_lost_55 ml_X5_150 cw_X5_beneath im_X5_beneath sl_X5_beneath (hM 22 _ rfl (by decide)) rfl ⟨by decide, by decide⟩ (c_X5_beneath N h a1 hM) rfl rfl (Nat.le_of_ble_eq_true rfl) (fun v5 => ?_)
          refine pw_bipush (v := (-4)) C dX5_lost_58 (by decide) ?_
          refine pm_icmp_ne (tgt := 66) C dX5_lost_60 (by decide) (fun c20 => ?_) (fun c20 => ?_)
          · refine pw_bipush (v := (-4)) C dX5_lost_63 (by decide) ?_
            exact pm_iret C hR dX5_lost_65
          · refine pw_aload_n C dX5_lost_66 rfl rfl ?_
            refine pw_iload_n C dX5_lost_67 rfl rfl ?_
            refine pm_callVp (as := [.int v3]) (rest := []) C dX5_lost_68 ml_X5_165 cw_X5_whole im_X5_whole sl_X5_whole (hM 22 _ rfl (by decide)) rfl ⟨by decide, by decide⟩ (c_X5_whole N h v3 hM) rfl rfl (Nat.le_of_ble_eq_true rfl) (fun v6 => ?_)
            refine pw_aload_n C dX5_lost_71 rfl rfl ?_
            refine pw_iload_n C dX5_lost_72 rfl rfl ?_
            refine pm_callVp (as := [.int a1]) (rest := [.int v6]) C dX5_lost_73 ml_X5_150 cw_X5_beneath im_X5_beneath sl_X5_beneath (hM 22 _ rfl (by decide)) rfl ⟨by decide, by decide⟩ (c_X5_beneath N h a1 hM) rfl rfl (Nat.le_of_ble_eq_true rfl) (fun v7 => ?_)
            refine pw_isub C dX5_lost_76 ?_
            refine pw_istore (lv2 := [some (.ref (w.2.1 22)), some (.int a1), some (.int v2), some (.int v3), some (.int (v6 - v7)), none]) C dX5_lost_77 hN (by decide) rfl rfl ?_
            refine pw_iconst (v := 0) C dX5_lost_79 (by decide) ?_
            refine pw_istore (lv2 := [some (.ref (w.2.1 22)), some (.int a1), some (.int v2), some (.int v3), some (.int (v6 - v7)), some (.int 0)]) C dX5_lost_80 hN (by decide) rfl rfl ?_
            exact pw_lv (kX5_lost_L82 C hR hN N h a1 hM N v2 (v6 - v7) 0) ⟨rfl, rfl, rfl, rfl, rfl, trivial⟩
set_option maxRecDepth 100000 in
set_option maxHeartbeats 4000000 in
theorem c_X0_canBeCompared {l : Launch} {w : Wd} {A : Nat → Prop} {b : Nat} (N : Nat) (h : Hp) (r : Nat) (a1 : Int32) (hb : w.2.2.1[b]? = some (0, 0, [r + 2])) (hr : w.2.2.1[r]? = some (1, 179, [])) : ConI l yX0_canBeCompared cX0_canBeCompared 3 .boolean 5 w A [.ref (w.2.1 b), .int a1] h (Option.map (fun v => (v, h)) (fX0_canBeCompared N h r a1)) := by
  refine ConI.of (lv0 := [some (.ref (w.2.1 b)), some (.int a1), none]) (by decide +kernel) (Nat.le_of_ble_eq_true rfl) rfl (fun x C hR hN => ?_)
  unfold fX0_canBeCompared
  refine pw_aload_n C dX0_canBeCompared_0 rfl rfl ?_
  refine pw_iload_n C dX0_canBeCompared_1 rfl rfl ?_
  refine pm_callVp (as := [.int a1]) (rest := []) C dX0_canBeCompared_2 ml_X0_104 cw_X0_topOf im_X0_topOf sl_X0_topOf hb rfl ⟨by decide, by decide⟩ (c_X0_topOf N h r a1 hb hr) rfl rfl (Nat.le_of_ble_eq_true rfl) (fun v1 => ?_)
  refine pw_istore_n (lv2 := [some (.ref (w.2.1 b)), some (.int a1), some (.int v1)]) C dX0_canBeCompared_5 rfl hN (by decide) rfl rfl ?_
  refine pw_iload_n C dX0_canBeCompared_6 rfl rfl ?_
  refine pw_bipush (v := (-4)) C dX0_canBeCompared_7 (by decide) ?_
  refine pm_icmp_eq (tgt := 36) C dX0_canBeCompared_9 (by decide) (fun c4 => ?_) (fun c4 => ?_)
  · refine pw_iconst (v := 0) C dX0_canBeCompared_36 (by decide) ?_
    exact pm_zret' C hR dX0_canBeCompared_37 (by decide)
  · refine pw_aload_n C dX0_canBeCompared_12 rfl rfl ?_
    refine pw_iload_n C dX0_canBeCompared_13 rfl rfl ?_
    refine pm_callVp (as := [.int v1]) (rest := []) C dX0_canBeCompared_14 ml_X0_101 cw_X0_wholeOf im_X0_wholeOf sl_X0_wholeOf hb rfl ⟨by decide, by decide⟩ (c_X0_wholeOf N h r v1 hb hr) rfl rfl (Nat.le_of_ble_eq_true rfl) (fun v2 => ?_)
    refine pw_bipush (v := (-4)) C dX0_canBeCompared_17 (by decide) ?_
    refine pm_icmp_eq (tgt := 36) C dX0_canBeCompared_19 (by decide) (fun c5 => ?_) (fun c5 => ?_)
    · refine pw_iconst (v := 0) C dX0_canBeCompared_36 (by decide) ?_
      exact pm_zret' C hR dX0_canBeCompared_37 (by decide)
    · refine pw_aload_n C dX0_canBeCompared_22 rfl rfl ?_
      refine pw_iload_n C dX0_canBeCompared_23 rfl rfl ?_
      refine pm_callVp (as := [.int a1]) (rest := []) C dX0_canBeCompared_24 ml_X0_107 cw_X0_sumOf im_X0_sumOf sl_X0_sumOf hb rfl ⟨by decide, by decide⟩ (c_X0_sumOf N h r a1 hb hr) rfl rfl (Nat.le_of_ble_eq_true rfl) (fun v3 => ?_)
      refine pw_bipush (v := (-4)) C dX0_canBeCompared_27 (by decide) ?_
      refine pm_icmp_eq (tgt := 36) C dX0_canBeCompared_29 (by decide) (fun c6 => ?_) (fun c6 => ?_)
      · refine pw_iconst (v := 0) C dX0_canBeCompared_36 (by decide) ?_
        exact pm_zret' C hR dX0_canBeCompared_37 (by decide)
      · refine pw_iconst (v := 1) C dX0_canBeCompared_32 (by decide) ?_
        refine pw_goto (tgt := 37) C dX0_canBeCompared_33 (by decide) ?_
        exact pm_zret' C hR dX0_canBeCompared_37 (by decide)
set_option maxRecDepth 100000 in
set_option maxHeartbeats 4000000 in
theorem c_X0_excessOf {l : Launch} {w : Wd} {A : Nat → Prop} {b : Nat} (N : Nat) (h : Hp) (r : Nat) (a1 : Int32) (hb : w.2.2.1[b]? = some (0, 0, [r + 2])) (hr : w.2.2.1[r]? = some (1, 179, [])) : ConI l yX0_excessOf cX0_excessOf 2 .int 5 w A [.ref (w.2.1 b), .int a1] h (Option.map (fun v => (v, h)) (fX0_excessOf N h r a1)) := by
  refine ConI.of (lv0 := [some (.ref (w.2.1 b)), some (.int a1)]) (by decide +kernel) (Nat.le_of_ble_eq_true rfl) rfl (fun x C hR hN => ?_)
  unfold fX0_excessOf
  refine pw_aload_n C dX0_excessOf_0 rfl rfl ?_
  refine pw_iload_n C dX0_excessOf_1 rfl rfl ?_
  refine pm_callVp (as := [.int a1]) (rest := []) C dX0_excessOf_2 ml_X0_107 cw_X0_sumOf im_X0_sumOf sl_X0_sumOf hb rfl ⟨by decide, by decide⟩ (c_X0_sumOf N h r a1 hb hr) rfl rfl (Nat.le_of_ble_eq_true rfl) (fun v1 => ?_)
  refine pw_aload_n C dX0_excessOf_5 rfl rfl ?_
  refine pw_aload_n C dX0_excessOf_6 rfl rfl ?_
  refine pw_iload_n C dX0_excessOf_7 rfl rfl ?_
  refine pm_callVp (as := [.int a1]) (rest := [.ref (w.2.1 b), .int v1]) C dX0_excessOf_8 ml_X0_104 cw_X0_topOf im_X0_topOf sl_X0_topOf hb rfl ⟨by decide, by decide⟩ (c_X0_topOf N h r a1 hb hr) rfl rfl (Nat.le_of_ble_eq_true rfl) (fun v2 => ?_)
  refine pm_callVp (as := [.int v2]) (rest := [.int v1]) C dX0_excessOf_11 ml_X0_101 cw_X0_wholeOf im_X0_wholeOf sl_X0_wholeOf hb rfl ⟨by decide, by decide⟩ (c_X0_wholeOf N h r v2 hb hr) rfl rfl (Nat.le_of_ble_eq_true rfl) (fun v3 => ?_)
  refine pw_isub C dX0_excessOf_14 ?_
  exact pm_iret C hR dX0_excessOf_15
set_option maxRecDepth 100000 in
set_option maxHeartbeats 4000000 in
theorem c_X4_fault {l : Launch} {w : Wd} {A : Nat → Prop} (N : Nat) (h : Hp) (hL : LX w) : ConI l yX4_fault cX4_fault 1 .int 6 w A [.ref (w.2.1 0)] h ((fX4_fault N h)) := by
  refine ConI.of (lv0 := [some (.ref (w.2.1 0))]) (by decide +kernel) (Nat.le_of_ble_eq_true rfl) rfl (fun x C hR hN => ?_)
  unfold fX4_fault
  refine pw_aload_n C dX4_fault_0 rfl rfl ?_
  refine pw_getr (q2 := 2) C (hL 0 _ rfl) rfl (k := 2) (by decide) rfl fl_X4_16 dX4_fault_1 ?_
  refine pw_aload_n C dX4_fault_4 rfl rfl ?_
  refine pw_getr (q2 := 1) C (hL 0 _ rfl) rfl (k := 0) (by decide) rfl fl_X4_9 dX4_fault_5 ?_
  refine pw_aload_n C dX4_fault_8 rfl rfl ?_
  refine pw_geti C (hL 0 _ rfl) rfl (k := 1) (by decide) rfl fl_X4_85 dX4_fault_9 ?_
  refine pw_callViq (as := [.ref (w.2.1 1), .int (h 0 1)]) (rest := []) C dX4_fault_12 ml_X4_71 cw_X1_read im_X1_read sl_X1_read (hL 2 _ rfl) rfl ⟨by decide, by decide⟩ (c_X1_read N h 1 200 (h 0 1) hL (hL 1 _ rfl)) rfl rfl (Nat.le_of_ble_eq_true rfl) (fun z1 => ?_)
  exact pw_iret C hR dX4_fault_15
set_option maxRecDepth 100000 in
set_option maxHeartbeats 4000000 in
theorem c_X4_lay {l : Launch} {w : Wd} {A : Nat → Prop} (N : Nat) (h : Hp) (hL : LX w) : ConI l yX4_lay cX4_lay 1 .int 6 w A [.ref (w.2.1 0)] h ((fX4_lay N h)) := by
  refine ConI.of (lv0 := [some (.ref (w.2.1 0))]) (by decide +kernel) (Nat.le_of_ble_eq_true rfl) rfl (fun x C hR hN => ?_)
  unfold fX4_lay
  refine pw_aload_n C dX4_lay_0 rfl rfl ?_
  refine pw_geti C (hL 0 _ rfl) rfl (k := 1) (by decide) rfl fl_X4_85 dX4_lay_1 ?_
  refine pw_if_eq (tgt := 27) C dX4_lay_4 (by decide) (fun c5 => ?_) (fun c5 => ?_)
  · refine pw_bipush (v := (-2)) C dX4_lay_27 (by decide) ?_
    exact pw_iret C hR dX4_lay_29
  · refine pw_aload_n C dX4_lay_7 rfl rfl ?_
    refine pw_getr (q2 := 2) C (hL 0 _ rfl) rfl (k := 2) (by decide) rfl fl_X4_16 dX4_lay_8 ?_
    refine pw_aload_n C dX4_lay_11 rfl rfl ?_
    refine pw_getr (q2 := 1) C (hL 0 _ rfl) rfl (k := 0) (by decide) rfl fl_X4_9 dX4_lay_12 ?_
    refine pw_aload_n C dX4_lay_15 rfl rfl ?_
    refine pw_geti C (hL 0 _ rfl) rfl (k := 1) (by decide) rfl fl_X4_85 dX4_lay_16 ?_
    refine pw_callViq (as := [.ref (w.2.1 1), .int (h 0 1)]) (rest := []) C dX4_lay_19 ml_X4_71 cw_X1_read im_X1_read sl_X1_read (hL 2 _ rfl) rfl ⟨by decide, by decide⟩ (c_X1_read N h 1 200 (h 0 1) hL (hL 1 _ rfl)) rfl rfl (Nat.le_of_ble_eq_true rfl) (fun z1 => ?_)
    refine pw_bipush (v := (-4)) C dX4_lay_22 (by decide) ?_
    refine pw_icmp_eq (tgt := 30) C dX4_lay_24 (by decide) (fun c6 => ?_) (fun c6 => ?_)
    · refine pw_aload_n C dX4_lay_30 rfl rfl ?_
      refine pw_getr (q2 := 6) C (hL 0 _ rfl) rfl (k := 3) (by decide) rfl fl_X4_23 dX4_lay_31 ?_
      refine pw_aload_n C dX4_lay_34 rfl rfl ?_
      refine pw_getr (q2 := 2) C (hL 0 _ rfl) rfl (k := 2) (by decide) rfl fl_X4_16 dX4_lay_35 ?_
      refine pw_getrN (q2 := 3) C (hL 2 _ rfl) rfl (k := 0) (by decide) rfl "ToldInKnots" (by decide +kernel) dX4_lay_38 ?_
      refine pw_getrN (q2 := 4) C (hL 3 _ rfl) rfl (k := 0) (by decide) rfl "ToldInKnots" (by decide +kernel) dX4_lay_41 ?_
      refine pw_callVvq (as := [.ref (w.2.1 4)]) (rest := []) C dX4_lay_44 ml_X4_81 cw_X0_becomeAs im_X0_becomeAs sl_X0_becomeAs (hL 6 _ rfl) rfl ⟨by decide, by decide⟩ (c_X0_becomeAs z1.2 7 4 179 (hL 6 _ rfl) (hL 7 _ rfl) (hL 4 _ rfl)) rfl rfl (Nat.le_of_ble_eq_true rfl) (fun z2 => ?_)
      refine pw_aload_n C dX4_lay_47 rfl rfl ?_
      refine pw_getr (q2 := 8) C (hL 0 _ rfl) rfl (k := 4) (by decide) rfl fl_X4_32 dX4_lay_48 ?_
      refine pw_callVvq (as := []) (rest := []) C dX4_lay_51 ml_X4_88 cw_X3_clear im_X3_clear sl_X3_clear (hL 8 _ rfl) rfl ⟨by decide, by decide⟩ (c_X3_clear z2.2 8 9 1432 (hL 8 _ rfl) (hL 9 _ rfl)) rfl rfl (Nat.le_of_ble_eq_true rfl) (fun z3 => ?_)
      refine pw_aload_n C dX4_lay_54 rfl rfl ?_
      refine pw_getr (q2 := 10) C (hL 0 _ rfl) rfl (k := 5) (by decide) rfl fl_X4_36 dX4_lay_55 ?_
      refine pw_callVvq (as := []) (rest := []) C dX4_lay_58 ml_X4_88 cw_X3_clear im_X3_clear sl_X3_clear (hL 10 _ rfl) rfl ⟨by decide, by decide⟩ (c_X3_clear z3.2 10 11 358 (hL 10 _ rfl) (hL 11 _ rfl)) rfl rfl (Nat.le_of_ble_eq_true rfl) (fun z4 => ?_)
      refine pw_aload_n C dX4_lay_61 rfl rfl ?_
      refine pw_getr (q2 := 6) C (hL 0 _ rfl) rfl (k := 3) (by decide) rfl fl_X4_23 dX4_lay_62 ?_
      refine pw_callVt (as := []) (rest := []) C dX4_lay_65 ml_X4_91 cw_X0_cords im_X0_cords sl_X0_cords (hL 6 _ rfl) rfl ⟨by decide, by decide⟩ (c_X0_cords z4.2 7 (hL 6 _ rfl) (hL 7 _ rfl)) rfl rfl (Nat.le_of_ble_eq_true rfl) ?_
      exact pw_iret C hR dX4_lay_68
    · refine pw_bipush (v := (-2)) C dX4_lay_27 (by decide) ?_
      exact pw_iret C hR dX4_lay_29
set_option maxRecDepth 100000 in
set_option maxHeartbeats 4000000 in
theorem c_X4_group {l : Launch} {w : Wd} {A : Nat → Prop} (N : Nat) (h : Hp) (a1 : Int32) (a2 : Int32) (hL : LX w) : ConI l yX4_group cX4_group 3 .int 6 w A [.ref (w.2.1 0), .int a1, .int a2] h (Option.map (fun v => (v, h)) (fX4_group N h a1 a2)) := by
  refine ConI.of (lv0 := [some (.ref (w.2.1 0)), some (.int a1), some (.int a2)]) (by decide +kernel) (Nat.le_of_ble_eq_true rfl) rfl (fun x C hR hN => ?_)
  unfold fX4_group
  refine pw_aload_n C dX4_group_0 rfl rfl ?_
  refine pw_getr (q2 := 6) C (hL 0 _ rfl) rfl (k := 3) (by decide) rfl fl_X4_23 dX4_group_1 ?_
  refine pw_iload_n C dX4_group_4 rfl rfl ?_
  refine pw_callVt (as := [.int a1]) (rest := []) C dX4_group_5 ml_X4_140 cw_X0_hasGroup im_X0_hasGroup sl_X0_hasGroup (hL 6 _ rfl) rfl ⟨by decide, by decide⟩ (c_X0_hasGroup h 7 a1 (hL 6 _ rfl) (hL 7 _ rfl)) rfl rfl (Nat.le_of_ble_eq_true rfl) ?_
  refine pm_if_ne (tgt := 13) C dX4_group_8 (by decide) (fun c6 => ?_) (fun c6 => ?_)
  · refine pw_iconst (v := (-1)) C dX4_group_11 (by decide) ?_
    exact pm_iret C hR dX4_group_12
  · refine pw_iload_n C dX4_group_13 rfl rfl ?_
    refine pm_ite (fun e14_0 => ?_) (fun e14_0 => ?_)
    · refine pw_tsIn (tgt := 44) (off := 30) C dX4_group_14 (by rw [e14_0]; decide) (by rw [e14_0]; decide) (by rw [e14_0]; decide) (by decide) ?_
      refine pw_aload_n C dX4_group_44 rfl rfl ?_
      refine pw_getr (q2 := 6) C (hL 0 _ rfl) rfl (k := 3) (by decide) rfl fl_X4_23 dX4_group_45 ?_
      refine pw_iload_n C dX4_group_48 rfl rfl ?_
      refine pm_callVp (as := [.int a1]) (rest := []) C dX4_group_49 ml_X4_143 cw_X0_pendantsIn im_X0_pendantsIn sl_X0_pendantsIn (hL 6 _ rfl) rfl ⟨by decide, by decide⟩ (c_X0_pendantsIn N h 7 a1 (hL 6 _ rfl) (hL 7 _ rfl)) rfl rfl (Nat.le_of_ble_eq_true rfl) (fun v5 => ?_)
      exact pm_iret C hR dX4_group_52
    · refine pm_ite (fun e14_1 => ?_) (fun e14_1 => ?_)
      · refine pw_tsIn (tgt := 53) (off := 39) C dX4_group_14 (by rw [e14_1]; decide) (by rw [e14_1]; decide) (by rw [e14_1]; decide) (by decide) ?_
        refine pw_aload_n C dX4_group_53 rfl rfl ?_
        refine pw_getr (q2 := 6) C (hL 0 _ rfl) rfl (k := 3) (by decide) rfl fl_X4_23 dX4_group_54 ?_
        refine pw_iload_n C dX4_group_57 rfl rfl ?_
        refine pm_callVp (as := [.int a1]) (rest := []) C dX4_group_58 ml_X4_146 cw_X0_topOf im_X0_topOf sl_X0_topOf (hL 6 _ rfl) rfl ⟨by decide, by decide⟩ (c_X0_topOf N h 7 a1 (hL 6 _ rfl) (hL 7 _ rfl)) rfl rfl (Nat.le_of_ble_eq_true rfl) (fun v4 => ?_)
        exact pm_iret C hR dX4_group_61
      · refine pm_ite (fun e14_2 => ?_) (fun e14_2 => ?_)
        · refine pw_tsIn (tgt := 62) (off := 48) C dX4_group_14 (by rw [e14_2]; decide) (by rw [e14_2]; decide) (by rw [e14_2]; decide) (by decide) ?_
          refine pw_aload_n C dX4_group_62 rfl rfl ?_
          refine pw_getr (q2 := 6) C (hL 0 _ rfl) rfl (k := 3) (by decide) rfl fl_X4_23 dX4_group_63 ?_
          refine pw_iload_n C dX4_group_66 rfl rfl ?_
          refine pm_callVp (as := [.int a1]) (rest := []) C dX4_group_67 ml_X4_149 cw_X0_sumOf im_X0_sumOf sl_X0_sumOf (hL 6 _ rfl) rfl ⟨by decide, by decide⟩ (c_X0_sumOf N h 7 a1 (hL 6 _ rfl) (hL 7 _ rfl)) rfl rfl (Nat.le_of_ble_eq_true rfl) (fun v3 => ?_)
          exact pm_iret C hR dX4_group_70
        · refine pm_ite (fun e14_3 => ?_) (fun e14_3 => ?_)
          · refine pw_tsIn (tgt := 71) (off := 57) C dX4_group_14 (by rw [e14_3]; decide) (by rw [e14_3]; decide) (by rw [e14_3]; decide) (by decide) ?_
            refine pw_aload_n C dX4_group_71 rfl rfl ?_
            refine pw_getr (q2 := 6) C (hL 0 _ rfl) rfl (k := 3) (by decide) rfl fl_X4_23 dX4_group_72 ?_
            refine pw_iload_n C dX4_group_75 rfl rfl ?_
            refine pm_callVp (as := [.int a1]) (rest := []) C dX4_group_76 ml_X4_152 cw_X0_canBeCompared im_X0_canBeCompared sl_X0_canBeCompared (hL 6 _ rfl) rfl ⟨by decide, by decide⟩ (c_X0_canBeCompared N h 7 a1 (hL 6 _ rfl) (hL 7 _ rfl)) rfl rfl (Nat.le_of_ble_eq_true rfl) (fun v1 => ?_)
            refine pm_if_eq (tgt := 97) C dX4_group_79 (by decide) (fun c7 => ?_) (fun c7 => ?_)
            · refine pw_iconst (v := 0) C dX4_group_97 (by decide) ?_
              exact pm_iret C hR dX4_group_98
            · refine pw_aload_n C dX4_group_82 rfl rfl ?_
              refine pw_getr (q2 := 6) C (hL 0 _ rfl) rfl (k := 3) (by decide) rfl fl_X4_23 dX4_group_83 ?_
              refine pw_iload_n C dX4_group_86 rfl rfl ?_
              refine pm_callVp (as := [.int a1]) (rest := []) C dX4_group_87 ml_X4_155 cw_X0_excessOf im_X0_excessOf sl_X0_excessOf (hL 6 _ rfl) rfl ⟨by decide, by decide⟩ (c_X0_excessOf N h 7 a1 (hL 6 _ rfl) (hL 7 _ rfl)) rfl rfl (Nat.le_of_ble_eq_true rfl) (fun v2 => ?_)
              refine pm_if_ne (tgt := 97) C dX4_group_90 (by decide) (fun c8 => ?_) (fun c8 => ?_)
              · refine pw_iconst (v := 1) C dX4_group_93 (by decide) ?_
                refine pw_goto (tgt := 98) C dX4_group_94 (by decide) ?_
                exact pm_iret C hR dX4_group_98
              · refine pw_iconst (v := 0) C dX4_group_97 (by decide) ?_
                exact pm_iret C hR dX4_group_98
          · refine pw_tsOut (tgt := 99) C dX4_group_14 (by have := i_neN (z := 0) (by decide) e14_0; have := i_neN (z := 1) (by decide) e14_1; have := i_neN (z := 2) (by decide) e14_2; have := i_neN (z := 3) (by decide) e14_3; omega) (by decide) ?_
            refine pw_iconst (v := (-1)) C dX4_group_99 (by decide) ?_
            exact pm_iret C hR dX4_group_100
set_option maxRecDepth 100000 in
set_option maxHeartbeats 4000000 in
theorem c_X4_wrong {l : Launch} {w : Wd} {A : Nat → Prop} (N : Nat) (h : Hp) (a1 : Int32) (hL : LX w) : ConI l yX4_wrong cX4_wrong 2 .int 6 w A [.ref (w.2.1 0), .int a1] h (Option.map (fun v => (v, h)) (fX4_wrong N h a1)) := by
  refine ConI.of (lv0 := [some (.ref (w.2.1 0)), some (.int a1)]) (by decide +kernel) (Nat.le_of_ble_eq_true rfl) rfl (fun x C hR hN => ?_)
  unfold fX4_wrong
  refine pw_aload_n C dX4_wrong_0 rfl rfl ?_
  refine pw_getr (q2 := 6) C (hL 0 _ rfl) rfl (k := 3) (by decide) rfl fl_X4_23 dX4_wrong_1 ?_
  refine pw_iload_n C dX4_wrong_4 rfl rfl ?_
  refine pw_callVt (as := [.int a1]) (rest := []) C dX4_wrong_5 ml_X4_140 cw_X0_hasGroup im_X0_hasGroup sl_X0_hasGroup (hL 6 _ rfl) rfl ⟨by decide, by decide⟩ (c_X0_hasGroup h 7 a1 (hL 6 _ rfl) (hL 7 _ rfl)) rfl rfl (Nat.le_of_ble_eq_true rfl) ?_
  refine pm_if_ne (tgt := 13) C dX4_wrong_8 (by decide) (fun c3 => ?_) (fun c3 => ?_)
  · refine pw_iconst (v := (-1)) C dX4_wrong_11 (by decide) ?_
    exact pm_iret C hR dX4_wrong_12
  · refine pw_aload_n C dX4_wrong_13 rfl rfl ?_
    refine pw_getr (q2 := 6) C (hL 0 _ rfl) rfl (k := 3) (by decide) rfl fl_X4_23 dX4_wrong_14 ?_
    refine pw_iload_n C dX4_wrong_17 rfl rfl ?_
    refine pm_callVp (as := [.int a1]) (rest := []) C dX4_wrong_18 ml_X4_152 cw_X0_canBeCompared im_X0_canBeCompared sl_X0_canBeCompared (hL 6 _ rfl) rfl ⟨by decide, by decide⟩ (c_X0_canBeCompared N h 7 a1 (hL 6 _ rfl) (hL 7 _ rfl)) rfl rfl (Nat.le_of_ble_eq_true rfl) (fun v1 => ?_)
    refine pm_if_eq (tgt := 38) C dX4_wrong_21 (by decide) (fun c4 => ?_) (fun c4 => ?_)
    · refine pw_bipush (v := (-4)) C dX4_wrong_38 (by decide) ?_
      exact pm_iret C hR dX4_wrong_40
    · refine pw_aload_n C dX4_wrong_24 rfl rfl ?_
      refine pw_getr (q2 := 6) C (hL 0 _ rfl) rfl (k := 3) (by decide) rfl fl_X4_23 dX4_wrong_25 ?_
      refine pw_iload_n C dX4_wrong_28 rfl rfl ?_
      refine pm_callVp (as := [.int a1]) (rest := []) C dX4_wrong_29 ml_X4_155 cw_X0_excessOf im_X0_excessOf sl_X0_excessOf (hL 6 _ rfl) rfl ⟨by decide, by decide⟩ (c_X0_excessOf N h 7 a1 (hL 6 _ rfl) (hL 7 _ rfl)) rfl rfl (Nat.le_of_ble_eq_true rfl) (fun v2 => ?_)
      refine pw_ldc (C := C) ct_X4_199 dX4_wrong_32 ?_
      refine pw_iadd C dX4_wrong_34 ?_
      refine pw_goto (tgt := 40) C dX4_wrong_35 (by decide) ?_
      exact pm_iret C hR dX4_wrong_40
set_option maxRecDepth 100000 in
set_option maxHeartbeats 4000000 in
theorem kX4_slip_J109 {w : Wd} {x : Cz} (C : Ok w x cX4_slip RX4 6) (hR : OkI w x .int) (hN : xN x = 9) (N : Nat) (h : Hp) (a1 : Int32) (a2 : Int32) (hL : LX w) (k52 : Int32 → Int32 → Int32 → Int32 → Option Int32) (hk52 : ∀ (u3 : Int32) (u4 : Int32) (u5 : Int32) (u6 : Int32), PW w x 52 [some (.ref (w.2.1 0)), some (.int a1), some (.int a2), some (.int u3), some (.int u4), some (.int u5), some (.int u6), none, none] [] h (Option.map (fun v => (v, h)) (k52 u3 u4 u5 u6))) (k67 : Int32 → Int32 → Int32 → Int32 → Int32 → Option Int32) (hk67 : ∀ (u3 : Int32) (u4 : Int32) (u5 : Int32) (u6 : Int32) (u7 : Int32), PW w x 67 [some (.ref (w.2.1 0)), some (.int a1), some (.int a2), some (.int u3), some (.int u4), some (.int u5), some (.int u6), some (.int u7), none] [] h (Option.map (fun v => (v, h)) (k67 u3 u4 u5 u6 u7))) : ∀ (u3 : Int32) (u4 : Int32) (u5 : Int32) (u6 : Int32) (u7 : Int32) (t0 : Int32), PW w x 109 [some (.ref (w.2.1 0)), some (.int a1), some (.int a2), some (.int u3), some (.int u4), some (.int u5), some (.int u6), some (.int u7), none] [.int t0] h (Option.map (fun v => (v, h)) (fX4_slip_J109 N h a1 a2 k52 k67 u3 u4 u5 u6 u7 t0)) := by
  intro u3 u4 u5 u6 u7 t0
  unfold fX4_slip_J109
  refine pw_istore (lv2 := [some (.ref (w.2.1 0)), some (.int a1), some (.int a2), some (.int u3), some (.int u4), some (.int u5), some (.int u6), some (.int u7), some (.int t0)]) C dX4_slip_109 hN (by decide) rfl rfl ?_
  refine pw_iload C dX4_slip_111 rfl ?_
  refine pw_bipush (v := (-4)) C dX4_slip_113 (by decide) ?_
  refine pm_icmp_eq (tgt := 149) C dX4_slip_115 (by decide) (fun c5 => ?_) (fun c5 => ?_)
  · refine pw_iinc (lv2 := [some (.ref (w.2.1 0)), some (.int a1), some (.int a2), some (.int u3), some (.int u4), some (.int u5), some (.int u6), some (.int (u7 + 1)), some (.int t0)]) C dX4_slip_149 rfl rfl hN (by decide) rfl rfl ?_
    refine pw_goto (tgt := 67) C dX4_slip_152 (by decide) ?_
    exact pw_lv (hk67 u3 u4 u5 u6 (u7 + 1)) ⟨rfl, rfl, rfl, rfl, rfl, rfl, rfl, rfl, trivial⟩
  · refine pw_iinc (lv2 := [some (.ref (w.2.1 0)), some (.int a1), some (.int a2), some (.int (u3 + 1)), some (.int u4), some (.int u5), some (.int u6), some (.int u7), some (.int t0)]) C dX4_slip_118 rfl rfl hN (by decide) rfl rfl ?_
    refine pw_iload C dX4_slip_121 rfl ?_
    refine pw_bipush (v := (-4)) C dX4_slip_123 (by decide) ?_
    refine pm_icmp_ne (tgt := 145) C dX4_slip_125 (by decide) (fun c6 => ?_) (fun c6 => ?_)
    · refine pw_bipush (v := 100) C dX4_slip_128 (by decide) ?_
      refine pw_iload C dX4_slip_130 rfl ?_
      refine pw_imul C dX4_slip_132 ?_
      refine pw_bipush (v := 10) C dX4_slip_133 (by decide) ?_
      refine pw_iload C dX4_slip_135 rfl ?_
      refine pw_imul C dX4_slip_137 ?_
      refine pw_iadd C dX4_slip_138 ?_
      refine pw_iload C dX4_slip_139 rfl ?_
      refine pw_iadd C dX4_slip_141 ?_
      refine pw_goto (tgt := 147) C dX4_slip_142 (by decide) ?_
      refine pm_name (fun v4 => ?_)
      refine pw_istore (lv2 := [some (.ref (w.2.1 0)), some (.int a1), some (.int a2), some (.int (u3 + 1)), some (.int v4), some (.int u5), some (.int u6), some (.int u7), some (.int t0)]) C dX4_slip_147 hN (by decide) rfl rfl ?_
      refine pw_iinc (lv2 := [some (.ref (w.2.1 0)), some (.int a1), some (.int a2), some (.int (u3 + 1)), some (.int v4), some (.int u5), some (.int u6), some (.int (u7 + 1)), some (.int t0)]) C dX4_slip_149 rfl rfl hN (by decide) rfl rfl ?_
      refine pw_goto (tgt := 67) C dX4_slip_152 (by decide) ?_
      exact pw_lv (hk67 (u3 + 1) v4 u5 u6 (u7 + 1)) ⟨rfl, rfl, rfl, rfl, rfl, rfl, rfl, rfl, trivial⟩
    · refine pw_iload C dX4_slip_145 rfl ?_
      refine pw_istore (lv2 := [some (.ref (w.2.1 0)), some (.int a1), some (.int a2), some (.int (u3 + 1)), some (.int u4), some (.int u5), some (.int u6), some (.int u7), some (.int t0)]) C dX4_slip_147 hN (by decide) rfl rfl ?_
      refine pw_iinc (lv2 := [some (.ref (w.2.1 0)), some (.int a1), some (.int a2), some (.int (u3 + 1)), some (.int u4), some (.int u5), some (.int u6), some (.int (u7 + 1)), some (.int t0)]) C dX4_slip_149 rfl rfl hN (by decide) rfl rfl ?_
      refine pw_goto (tgt := 67) C dX4_slip_152 (by decide) ?_
      exact pw_lv (hk67 (u3 + 1) u4 u5 u6 (u7 + 1)) ⟨rfl, rfl, rfl, rfl, rfl, rfl, rfl, rfl, trivial⟩
set_option maxRecDepth 100000 in
set_option maxHeartbeats 4000000 in
theorem kX4_slip_L67 {w : Wd} {x : Cz} (C : Ok w x cX4_slip RX4 6) (hR : OkI w x .int) (hN : xN x = 9) (N : Nat) (h : Hp) (a1 : Int32) (a2 : Int32) (hL : LX w) (k52 : Int32 → Int32 → Int32 → Int32 → Option Int32) (hk52 : ∀ (u3 : Int32) (u4 : Int32) (u5 : Int32) (u6 : Int32), PW w x 52 [some (.ref (w.2.1 0)), some (.int a1), some (.int a2), some (.int u3), some (.int u4), some (.int u5), some (.int u6), none, none] [] h (Option.map (fun v => (v, h)) (k52 u3 u4 u5 u6))) : ∀ (n : Nat) (u3 : Int32) (u4 : Int32) (u5 : Int32) (u6 : Int32) (u7 : Int32), PW w x 67 [some (.ref (w.2.1 0)), some (.int a1), some (.int a2), some (.int u3), some (.int u4), some (.int u5), some (.int u6), some (.int u7), none] [] h (Option.map (fun v => (v, h)) (fX4_slip_L67 N h a1 a2 k52 n u3 u4 u5 u6 u7)) := by
  intro n
  induction n with
  | zero => intro u3 u4 u5 u6 u7; rw [fX4_slip_L67]; exact pw_none
  | succ n ih =>
    intro u3 u4 u5 u6 u7
    rw [fX4_slip_L67]
    refine pw_iload C dX4_slip_67 rfl ?_
    refine pw_aload_n C dX4_slip_69 rfl rfl ?_
    refine pw_getr (q2 := 6) C (hL 0 _ rfl) rfl (k := 3) (by decide) rfl fl_X4_23 dX4_slip_70 ?_
    refine pw_iload C dX4_slip_73 rfl ?_
    refine pw_callVt (as := [.int u6]) (rest := [.int u7]) C dX4_slip_75 ml_X4_102 cw_X0_sizeOf im_X0_sizeOf sl_X0_sizeOf (hL 6 _ rfl) rfl ⟨by decide, by decide⟩ (c_X0_sizeOf h 7 u6 (hL 6 _ rfl) (hL 7 _ rfl)) rfl rfl (Nat.le_of_ble_eq_true rfl) ?_
    refine pm_icmp_ge (tgt := 155) C dX4_slip_78 (by decide) (fun c7 => ?_) (fun c7 => ?_)
    · refine pw_aload_n C dX4_slip_81 rfl rfl ?_
      refine pw_getr (q2 := 6) C (hL 0 _ rfl) rfl (k := 3) (by decide) rfl fl_X4_23 dX4_slip_82 ?_
      refine pw_iload C dX4_slip_85 rfl ?_
      refine pw_iload_n C dX4_slip_87 rfl rfl ?_
      refine pw_callVt (as := [.int u6, .int a1]) (rest := []) C dX4_slip_88 ml_X4_207 cw_X0_isIn im_X0_isIn sl_X0_isIn (hL 6 _ rfl) rfl ⟨by decide, by decide⟩ (c_X0_isIn h 7 u6 a1 (hL 6 _ rfl) (hL 7 _ rfl)) rfl rfl (Nat.le_of_ble_eq_true rfl) ?_
      refine pm_if_eq (tgt := 107) C dX4_slip_91 (by decide) (fun c8 => ?_) (fun c8 => ?_)
      · refine pw_bipush (v := (-4)) C dX4_slip_107 (by decide) ?_
        exact kX4_slip_J109 C hR hN N h a1 a2 hL k52 hk52 (fX4_slip_L67 N h a1 a2 k52 n) ih u3 u4 u5 u6 u7 (-4)
      · refine pw_aload_n C dX4_slip_94 rfl rfl ?_
        refine pw_iload C dX4_slip_95 rfl ?_
        refine pw_iload C dX4_slip_97 rfl ?_
        refine pw_iload C dX4_slip_99 rfl ?_
        refine pm_callVp (as := [.int u6, .int u7, .int u5]) (rest := []) C dX4_slip_101 ml_X4_210 cw_X4_slipAt im_X4_slipAt sl_X4_slipAt (hL 0 _ rfl) rfl ⟨by decide, by decide⟩ (c_X4_slipAt N h u6 u7 u5 hL) rfl rfl (Nat.le_of_ble_eq_true rfl) (fun v3 => ?_)
        refine pw_goto (tgt := 109) C dX4_slip_104 (by decide) ?_
        exact kX4_slip_J109 C hR hN N h a1 a2 hL k52 hk52 (fX4_slip_L67 N h a1 a2 k52 n) ih u3 u4 u5 u6 u7 v3
    · refine pw_iinc (lv2 := [some (.ref (w.2.1 0)), some (.int a1), some (.int a2), some (.int u3), some (.int u4), some (.int u5), some (.int (u6 + 1)), some (.int u7), none]) C dX4_slip_155 rfl rfl hN (by decide) rfl rfl ?_
      refine pw_goto (tgt := 52) C dX4_slip_158 (by decide) ?_
      exact pw_lv (hk52 u3 u4 u5 (u6 + 1)) ⟨rfl, rfl, rfl, rfl, rfl, rfl, rfl, trivial⟩
set_option maxRecDepth 100000 in
set_option maxHeartbeats 4000000 in
theorem kX4_slip_J161 {w : Wd} {x : Cz} (C : Ok w x cX4_slip RX4 6) (hR : OkI w x .int) (hN : xN x = 9) (N : Nat) (h : Hp) (a1 : Int32) (a2 : Int32) (hL : LX w)  : ∀ (u3 : Int32) (u4 : Int32), PW w x 161 [none, none, some (.int a2), some (.int u3), some (.int u4), none, none, none, none] [] h (Option.map (fun v => (v, h)) (fX4_slip_J161 N h a1 a2 u3 u4)) := by
  intro u3 u4
  unfold fX4_slip_J161
  refine pw_iload_n C dX4_slip_161 rfl rfl ?_
  refine pm_if_ne (tgt := 169) C dX4_slip_162 (by decide) (fun c9 => ?_) (fun c9 => ?_)
  · refine pw_iload_n C dX4_slip_165 rfl rfl ?_
    refine pw_goto (tgt := 171) C dX4_slip_166 (by decide) ?_
    exact pm_iret C hR dX4_slip_171
  · refine pw_iload C dX4_slip_169 rfl ?_
    exact pm_iret C hR dX4_slip_171
set_option maxRecDepth 100000 in
set_option maxHeartbeats 4000000 in
theorem kX4_slip_L52 {w : Wd} {x : Cz} (C : Ok w x cX4_slip RX4 6) (hR : OkI w x .int) (hN : xN x = 9) (N : Nat) (h : Hp) (a1 : Int32) (a2 : Int32) (hL : LX w)  : ∀ (n : Nat) (u3 : Int32) (u4 : Int32) (u5 : Int32) (u6 : Int32), PW w x 52 [some (.ref (w.2.1 0)), some (.int a1), some (.int a2), some (.int u3), some (.int u4), some (.int u5), some (.int u6), none, none] [] h (Option.map (fun v => (v, h)) (fX4_slip_L52 N h a1 a2 n u3 u4 u5 u6)) := by
  intro n
  induction n with
  | zero => intro u3 u4 u5 u6; rw [fX4_slip_L52]; exact pw_none
  | succ n ih =>
    intro u3 u4 u5 u6
    rw [fX4_slip_L52]
    refine pw_iload C dX4_slip_52 rfl ?_
    refine pw_aload_n C dX4_slip_54 rfl rfl ?_
    refine pw_getr (q2 := 6) C (hL 0 _ rfl) rfl (k := 3) (by decide) rfl fl_X4_23 dX4_slip_55 ?_
    refine pw_callVt (as := []) (rest := [.int u6]) C dX4_slip_58 ml_X4_91 cw_X0_cords im_X0_cords sl_X0_cords (hL 6 _ rfl) rfl ⟨by decide, by decide⟩ (c_X0_cords h 7 (hL 6 _ rfl) (hL 7 _ rfl)) rfl rfl (Nat.le_of_ble_eq_true rfl) ?_
    refine pm_icmp_ge (tgt := 161) C dX4_slip_61 (by decide) (fun c10 => ?_) (fun c10 => ?_)
    · refine pw_iconst (v := 0) C dX4_slip_64 (by decide) ?_
      refine pw_istore (lv2 := [some (.ref (w.2.1 0)), some (.int a1), some (.int a2), some (.int u3), some (.int u4), some (.int u5), some (.int u6), some (.int 0), none]) C dX4_slip_65 hN (by decide) rfl rfl ?_
      exact kX4_slip_L67 C hR hN N h a1 a2 hL (fX4_slip_L52 N h a1 a2 n) ih N u3 u4 u5 u6 0
    · exact pw_lv (kX4_slip_J161 C hR hN N h a1 a2 hL u3 u4) ⟨rfl, rfl, rfl, trivial⟩
set_option maxRecDepth 100000 in
set_option maxHeartbeats 4000000 in
theorem c_X4_slip {l : Launch} {w : Wd} {A : Nat → Prop} (N : Nat) (h : Hp) (a1 : Int32) (a2 : Int32) (hL : LX w) : ConI l yX4_slip cX4_slip 9 .int 6 w A [.ref (w.2.1 0), .int a1, .int a2] h (Option.map (fun v => (v, h)) (fX4_slip N h a1 a2)) := by
  refine ConI.of (lv0 := [some (.ref (w.2.1 0)), some (.int a1), some (.int a2), none, none, none, none, none, none]) (by decide +kernel) (Nat.le_of_ble_eq_true rfl) rfl (fun x C hR hN => ?_)
  unfold fX4_slip
  refine pw_aload_n C dX4_slip_0 rfl rfl ?_
  refine pw_getr (q2 := 6) C (hL 0 _ rfl) rfl (k := 3) (by decide) rfl fl_X4_23 dX4_slip_1 ?_
  refine pw_iload_n C dX4_slip_4 rfl rfl ?_
  refine pw_callVt (as := [.int a1]) (rest := []) C dX4_slip_5 ml_X4_140 cw_X0_hasGroup im_X0_hasGroup sl_X0_hasGroup (hL 6 _ rfl) rfl ⟨by decide, by decide⟩ (c_X0_hasGroup h 7 a1 (hL 6 _ rfl) (hL 7 _ rfl)) rfl rfl (Nat.le_of_ble_eq_true rfl) ?_
  refine pm_if_eq (tgt := 20) C dX4_slip_8 (by decide) (fun c11 => ?_) (fun c11 => ?_)
  · refine pw_iconst (v := (-1)) C dX4_slip_20 (by decide) ?_
    exact pm_iret C hR dX4_slip_21
  · refine pw_iload_n C dX4_slip_11 rfl rfl ?_
    refine pm_if_lt (tgt := 20) C dX4_slip_12 (by decide) (fun c12 => ?_) (fun c12 => ?_)
    · refine pw_iconst (v := (-1)) C dX4_slip_20 (by decide) ?_
      exact pm_iret C hR dX4_slip_21
    · refine pw_iload_n C dX4_slip_15 rfl rfl ?_
      refine pw_iconst (v := 1) C dX4_slip_16 (by decide) ?_
      refine pm_icmp_le (tgt := 22) C dX4_slip_17 (by decide) (fun c13 => ?_) (fun c13 => ?_)
      · refine pw_iconst (v := (-1)) C dX4_slip_20 (by decide) ?_
        exact pm_iret C hR dX4_slip_21
      · refine pw_iconst (v := 0) C dX4_slip_22 (by decide) ?_
        refine pw_istore_n (lv2 := [some (.ref (w.2.1 0)), some (.int a1), some (.int a2), some (.int 0), none, none, none, none, none]) C dX4_slip_23 rfl hN (by decide) rfl rfl ?_
        refine pw_bipush (v := (-4)) C dX4_slip_24 (by decide) ?_
        refine pw_istore (lv2 := [some (.ref (w.2.1 0)), some (.int a1), some (.int a2), some (.int 0), some (.int (-4)), none, none, none, none]) C dX4_slip_26 hN (by decide) rfl rfl ?_
        refine pw_aload_n C dX4_slip_28 rfl rfl ?_
        refine pw_getr (q2 := 6) C (hL 0 _ rfl) rfl (k := 3) (by decide) rfl fl_X4_23 dX4_slip_29 ?_
        refine pw_iload_n C dX4_slip_32 rfl rfl ?_
        refine pm_callVp (as := [.int a1]) (rest := []) C dX4_slip_33 ml_X4_152 cw_X0_canBeCompared im_X0_canBeCompared sl_X0_canBeCompared (hL 6 _ rfl) rfl ⟨by decide, by decide⟩ (c_X0_canBeCompared N h 7 a1 (hL 6 _ rfl) (hL 7 _ rfl)) rfl rfl (Nat.le_of_ble_eq_true rfl) (fun v1 => ?_)
        refine pm_if_eq (tgt := 161) C dX4_slip_36 (by decide) (fun c14 => ?_) (fun c14 => ?_)
        · exact pw_lv (kX4_slip_J161 C hR hN N h a1 a2 hL 0 (-4)) ⟨rfl, rfl, rfl, trivial⟩
        · refine pw_aload_n C dX4_slip_39 rfl rfl ?_
          refine pw_getr (q2 := 6) C (hL 0 _ rfl) rfl (k := 3) (by decide) rfl fl_X4_23 dX4_slip_40 ?_
          refine pw_iload_n C dX4_slip_43 rfl rfl ?_
          refine pm_callVp (as := [.int a1]) (rest := []) C dX4_slip_44 ml_X4_155 cw_X0_excessOf im_X0_excessOf sl_X0_excessOf (hL 6 _ rfl) rfl ⟨by decide, by decide⟩ (c_X0_excessOf N h 7 a1 (hL 6 _ rfl) (hL 7 _ rfl)) rfl rfl (Nat.le_of_ble_eq_true rfl) (fun v2 => ?_)
          refine pw_istore (lv2 := [some (.ref (w.2.1 0)), some (.int a1), some (.int a2), some (.int 0), some (.int (-4)), some (.int v2), none, none, none]) C dX4_slip_47 hN (by decide) rfl rfl ?_
          refine pw_iconst (v := 0) C dX4_slip_49 (by decide) ?_
          refine pw_istore (lv2 := [some (.ref (w.2.1 0)), some (.int a1), some (.int a2), some (.int 0), some (.int (-4)), some (.int v2), some (.int 0), none, none]) C dX4_slip_50 hN (by decide) rfl rfl ?_
          exact kX4_slip_L52 C hR hN N h a1 a2 hL N 0 (-4) v2 0
set_option maxRecDepth 100000 in
set_option maxHeartbeats 4000000 in
theorem kX4_leastMoves_L60 {w : Wd} {x : Cz} {d0 : Nat} (C : Ok w x cX4_leastMoves RX4 (d0 + 1)) (hR : OkI w x .int) (hN : xN x = 10) (N : Nat) (h : Hp) (q0 n0 : Nat) (q1 n1 : Nat) (kr : Int32 → Int32 → Option Int32) (a2 : Int32) (a3 : Int32) (hq0 : w.2.2.1[q0]? = some (1, n0, [])) (hq1 : w.2.2.1[q1]? = some (1, n1, [])) (hkr : ∀ (l : Launch) (A : Nat → Prop) (u v : Int32), ConI l yX4_leastMoves cX4_leastMoves 10 .int d0 w A [.ref (w.2.1 q0), .ref (w.2.1 q1), .int u, .int v] h (Option.map (fun v => (v, h)) (kr u v)))  : ∀ (n : Nat) (u5 : Int32) (u6 : Int32) (u7 : Int32), PW w x 60 [some (.ref (w.2.1 q0)), some (.ref (w.2.1 q1)), some (.int a2), some (.int a3), none, some (.int u5), some (.int u6), some (.int u7), none, none] [] h (Option.map (fun v => (v, h)) (fX4_leastMoves_L60 N h q0 n0 q1 n1 kr a2 a3 n u5 u6 u7)) := by
  intro n
  induction n with
  | zero => intro u5 u6 u7; rw [fX4_leastMoves_L60]; exact pw_none
  | succ n ih =>
    intro u5 u6 u7
    rw [fX4_leastMoves_L60]
    refine pw_iload C dX4_leastMoves_60 rfl ?_
    refine pw_iload C dX4_leastMoves_62 rfl ?_
    refine pm_icmp_gt (tgt := 125) C dX4_leastMoves_64 (by decide) (fun c5 => ?_) (fun c5 => ?_)
    · refine pw_iload C dX4_leastMoves_125 rfl ?_
      exact pm_iret C hR dX4_leastMoves_127
    · refine pw_aload_n C dX4_leastMoves_67 rfl rfl ?_
      refine pw_aload_n C dX4_leastMoves_68 rfl rfl ?_
      refine pw_iload_n C dX4_leastMoves_69 rfl rfl ?_
      refine pw_iconst (v := 1) C dX4_leastMoves_70 (by decide) ?_
      refine pw_iadd C dX4_leastMoves_71 ?_
      refine pw_iload_n C dX4_leastMoves_72 rfl rfl ?_
      refine pw_iload C dX4_leastMoves_73 rfl ?_
      refine pw_isub C dX4_leastMoves_75 ?_
      refine pw_bipush (v := 10) C dX4_leastMoves_76 (by decide) ?_
      refine pw_idiv C dX4_leastMoves_78 (by decide) ?_
      refine pm_callSp (as := [.ref (w.2.1 q0), .ref (w.2.1 q1), .int (a2 + 1), .int ((a3 - u7) / 10)]) (rest := []) C dX4_leastMoves_79 ml_X4_203 cw_X4_leastMoves st_X4_leastMoves ⟨by omega, by decide⟩ (hkr _ _ (a2 + 1) ((a3 - u7) / 10)) rfl rfl (Nat.le_of_ble_eq_true rfl) (fun v3 => ?_)
      refine pw_istore (lv2 := [some (.ref (w.2.1 q0)), some (.ref (w.2.1 q1)), some (.int a2), some (.int a3), none, some (.int u5), some (.int u6), some (.int u7), some (.int v3), none]) C dX4_leastMoves_82 hN (by decide) rfl rfl ?_
      refine pw_iload C dX4_leastMoves_84 rfl ?_
      refine pw_iload C dX4_leastMoves_86 rfl ?_
      refine pw_mabs C (by omega) ml_X4_290 (Nat.le_of_ble_eq_true rfl) dX4_leastMoves_88 ?_
      refine pw_iadd C dX4_leastMoves_91 ?_
      refine pm_name (fun v4 => ?_)
      refine pw_istore (lv2 := [some (.ref (w.2.1 q0)), some (.ref (w.2.1 q1)), some (.int a2), some (.int a3), none, some (.int u5), some (.int u6), some (.int u7), some (.int v3), some (.int v4)]) C dX4_leastMoves_92 hN (by decide) rfl rfl ?_
      refine pw_iload C dX4_leastMoves_94 rfl ?_
      refine pw_bipush (v := (-4)) C dX4_leastMoves_96 (by decide) ?_
      refine PW.eq (apply_ite (fun z_ => Option.map (fun v => (v, h)) (fX4_leastMoves_L60 N h q0 n0 q1 n1 kr a2 a3 n u5 z_ (u7 + 10))) _ _ _) ?_
      refine pw_icmp_eq (tgt := 119) C dX4_leastMoves_98 (by decide) (fun c6 => ?_) (fun c6 => ?_)
      · refine pw_iinc (lv2 := [some (.ref (w.2.1 q0)), some (.ref (w.2.1 q1)), some (.int a2), some (.int a3), none, some (.int u5), some (.int u6), some (.int (u7 + 10)), some (.int v3), some (.int v4)]) C dX4_leastMoves_119 rfl rfl hN (by decide) rfl rfl ?_
        refine pw_goto (tgt := 60) C dX4_leastMoves_122 (by decide) ?_
        exact pw_lv (ih u5 u6 (u7 + 10)) ⟨rfl, rfl, rfl, rfl, rfl, rfl, rfl, trivial⟩
      · refine pw_iload C dX4_leastMoves_101 rfl ?_
        refine pw_bipush (v := (-4)) C dX4_leastMoves_103 (by decide) ?_
        refine PW.eq (apply_ite (fun z_ => Option.map (fun v => (v, h)) (fX4_leastMoves_L60 N h q0 n0 q1 n1 kr a2 a3 n u5 z_ (u7 + 10))) _ _ _) ?_
        refine pw_icmp_eq (tgt := 115) C dX4_leastMoves_105 (by decide) (fun c7 => ?_) (fun c7 => ?_)
        · refine pw_iload C dX4_leastMoves_115 rfl ?_
          refine pw_istore (lv2 := [some (.ref (w.2.1 q0)), some (.ref (w.2.1 q1)), some (.int a2), some (.int a3), none, some (.int u5), some (.int v4), some (.int u7), some (.int v3), some (.int v4)]) C dX4_leastMoves_117 hN (by decide) rfl rfl ?_
          refine pw_iinc (lv2 := [some (.ref (w.2.1 q0)), some (.ref (w.2.1 q1)), some (.int a2), some (.int a3), none, some (.int u5), some (.int v4), some (.int (u7 + 10)), some (.int v3), some (.int v4)]) C dX4_leastMoves_119 rfl rfl hN (by decide) rfl rfl ?_
          refine pw_goto (tgt := 60) C dX4_leastMoves_122 (by decide) ?_
          exact pw_lv (ih u5 v4 (u7 + 10)) ⟨rfl, rfl, rfl, rfl, rfl, rfl, rfl, trivial⟩
        · refine pw_iload C dX4_leastMoves_108 rfl ?_
          refine pw_iload C dX4_leastMoves_110 rfl ?_
          refine PW.eq (apply_ite (fun z_ => Option.map (fun v => (v, h)) (fX4_leastMoves_L60 N h q0 n0 q1 n1 kr a2 a3 n u5 z_ (u7 + 10))) _ _ _) ?_
          refine pw_icmp_ge (tgt := 119) C dX4_leastMoves_112 (by decide) (fun c8 => ?_) (fun c8 => ?_)
          · refine pw_iload C dX4_leastMoves_115 rfl ?_
            refine pw_istore (lv2 := [some (.ref (w.2.1 q0)), some (.ref (w.2.1 q1)), some (.int a2), some (.int a3), none, some (.int u5), some (.int v4), some (.int u7), some (.int v3), some (.int v4)]) C dX4_leastMoves_117 hN (by decide) rfl rfl ?_
            refine pw_iinc (lv2 := [some (.ref (w.2.1 q0)), some (.ref (w.2.1 q1)), some (.int a2), some (.int a3), none, some (.int u5), some (.int v4), some (.int (u7 + 10)), some (.int v3), some (.int v4)]) C dX4_leastMoves_119 rfl rfl hN (by decide) rfl rfl ?_
            refine pw_goto (tgt := 60) C dX4_leastMoves_122 (by decide) ?_
            exact pw_lv (ih u5 v4 (u7 + 10)) ⟨rfl, rfl, rfl, rfl, rfl, rfl, rfl, trivial⟩
          · refine pw_iinc (lv2 := [some (.ref (w.2.1 q0)), some (.ref (w.2.1 q1)), some (.int a2), some (.int a3), none, some (.int u5), some (.int u6), some (.int (u7 + 10)), some (.int v3), some (.int v4)]) C dX4_leastMoves_119 rfl rfl hN (by decide) rfl rfl ?_
            refine pw_goto (tgt := 60) C dX4_leastMoves_122 (by decide) ?_
            exact pw_lv (ih u5 u6 (u7 + 10)) ⟨rfl, rfl, rfl, rfl, rfl, rfl, rfl, trivial⟩
set_option maxRecDepth 100000 in
set_option maxHeartbeats 4000000 in
theorem cr_X4_leastMoves {l : Launch} {w : Wd} {A : Nat → Prop} {d0 : Nat} (N : Nat) (h : Hp) (q0 n0 : Nat) (q1 n1 : Nat) (kr : Int32 → Int32 → Option Int32) (a2 : Int32) (a3 : Int32) (hq0 : w.2.2.1[q0]? = some (1, n0, [])) (hq1 : w.2.2.1[q1]? = some (1, n1, [])) (hkr : ∀ (l : Launch) (A : Nat → Prop) (u v : Int32), ConI l yX4_leastMoves cX4_leastMoves 10 .int d0 w A [.ref (w.2.1 q0), .ref (w.2.1 q1), .int u, .int v] h (Option.map (fun v => (v, h)) (kr u v))) : ConI l yX4_leastMoves cX4_leastMoves 10 .int (d0 + 1) w A [.ref (w.2.1 q0), .ref (w.2.1 q1), .int a2, .int a3] h (Option.map (fun v => (v, h)) (fX4_leastMoves N h q0 n0 q1 n1 kr a2 a3)) := by
  refine ConI.of (lv0 := [some (.ref (w.2.1 q0)), some (.ref (w.2.1 q1)), some (.int a2), some (.int a3), none, none, none, none, none, none]) (by decide +kernel) (Nat.le_of_ble_eq_true rfl) rfl (fun x C hR hN => ?_)
  unfold fX4_leastMoves
  refine pw_aload_n C dX4_leastMoves_0 rfl rfl ?_
  refine pw_iload_n C dX4_leastMoves_1 rfl rfl ?_
  refine pw_callSt (as := [.ref (w.2.1 q1), .int a2]) (rest := []) C dX4_leastMoves_2 ml_X4_229 cw_X4_at st_X4_at ⟨by omega, by decide⟩ (c_X4_at h q1 n1 a2 hq1) rfl rfl (Nat.le_of_ble_eq_true rfl) ?_
  refine pw_ineg C dX4_leastMoves_5 ?_
  refine pw_istore (lv2 := [some (.ref (w.2.1 q0)), some (.ref (w.2.1 q1)), some (.int a2), some (.int a3), some (.int (-(atF h q1 n1 a2))), none, none, none, none, none]) C dX4_leastMoves_6 hN (by decide) rfl rfl ?_
  refine pw_aload_n C dX4_leastMoves_8 rfl rfl ?_
  refine pw_iload_n C dX4_leastMoves_9 rfl rfl ?_
  refine pw_callSt (as := [.ref (w.2.1 q0), .int a2]) (rest := []) C dX4_leastMoves_10 ml_X4_229 cw_X4_at st_X4_at ⟨by omega, by decide⟩ (c_X4_at h q0 n0 a2 hq0) rfl rfl (Nat.le_of_ble_eq_true rfl) ?_
  refine pw_istore (lv2 := [some (.ref (w.2.1 q0)), some (.ref (w.2.1 q1)), some (.int a2), some (.int a3), some (.int (-(atF h q1 n1 a2))), some (.int (atF h q0 n0 a2)), none, none, none, none]) C dX4_leastMoves_13 hN (by decide) rfl rfl ?_
  refine pw_iload_n C dX4_leastMoves_15 rfl rfl ?_
  refine pw_iconst (v := 3) C dX4_leastMoves_16 (by decide) ?_
  refine pm_icmp_lt (tgt := 42) C dX4_leastMoves_17 (by decide) (fun c9 => ?_) (fun c9 => ?_)
  · refine pw_bipush (v := (-4)) C dX4_leastMoves_42 (by decide) ?_
    refine pw_istore (lv2 := [some (.ref (w.2.1 q0)), some (.ref (w.2.1 q1)), some (.int a2), some (.int a3), some (.int (-(atF h q1 n1 a2))), some (.int (atF h q0 n0 a2)), some (.int (-4)), none, none, none]) C dX4_leastMoves_44 hN (by decide) rfl rfl ?_
    refine pw_iload C dX4_leastMoves_46 rfl ?_
    refine pw_iload_n C dX4_leastMoves_48 rfl rfl ?_
    refine pw_iload C dX4_leastMoves_49 rfl ?_
    refine pw_isub C dX4_leastMoves_51 ?_
    refine pw_bipush (v := 10) C dX4_leastMoves_52 (by decide) ?_
    refine pm_callSp (as := [.int (a3 - (-(atF h q1 n1 a2))), .int 10]) (rest := [.int (-(atF h q1 n1 a2))]) C dX4_leastMoves_54 ml_X4_293 cw_J9_floorMod_7cf53 st_J9_floorMod_7cf53 ⟨by omega, by decide⟩ (c_J9_floorMod_7cf53 h (a3 - (-(atF h q1 n1 a2))) 10) rfl rfl (Nat.le_of_ble_eq_true rfl) (fun v1 => ?_)
    refine pw_iadd C dX4_leastMoves_57 ?_
    refine pm_name (fun v2 => ?_)
    refine pw_istore (lv2 := [some (.ref (w.2.1 q0)), some (.ref (w.2.1 q1)), some (.int a2), some (.int a3), some (.int (-(atF h q1 n1 a2))), some (.int (atF h q0 n0 a2)), some (.int (-4)), some (.int v2), none, none]) C dX4_leastMoves_58 hN (by decide) rfl rfl ?_
    exact pw_lv (kX4_leastMoves_L60 C hR hN N h q0 n0 q1 n1 kr a2 a3 hq0 hq1 hkr N (atF h q0 n0 a2) (-4) v2) ⟨rfl, rfl, rfl, rfl, rfl, rfl, rfl, trivial⟩
  · refine pw_iload_n C dX4_leastMoves_20 rfl rfl ?_
    refine pw_iload C dX4_leastMoves_21 rfl ?_
    refine pm_icmp_lt (tgt := 39) C dX4_leastMoves_23 (by decide) (fun c10 => ?_) (fun c10 => ?_)
    · refine pw_bipush (v := (-4)) C dX4_leastMoves_39 (by decide) ?_
      exact pm_iret C hR dX4_leastMoves_41
    · refine pw_iload_n C dX4_leastMoves_26 rfl rfl ?_
      refine pw_iload C dX4_leastMoves_27 rfl ?_
      refine pm_icmp_gt (tgt := 39) C dX4_leastMoves_29 (by decide) (fun c11 => ?_) (fun c11 => ?_)
      · refine pw_bipush (v := (-4)) C dX4_leastMoves_39 (by decide) ?_
        exact pm_iret C hR dX4_leastMoves_41
      · refine pw_iload_n C dX4_leastMoves_32 rfl rfl ?_
        refine pw_mabs C (by omega) ml_X4_290 (Nat.le_of_ble_eq_true rfl) dX4_leastMoves_33 ?_
        refine pw_goto (tgt := 41) C dX4_leastMoves_36 (by decide) ?_
        exact pm_iret C hR dX4_leastMoves_41
theorem c_lmR {w : Wd} (N : Nat) (h : Hp) (q0 n0 q1 n1 : Nat) (hq0 : w.2.2.1[q0]? = some (1, n0, [])) (hq1 : w.2.2.1[q1]? = some (1, n1, [])) : ∀ (l : Launch) (A : Nat → Prop) (M : Nat) (u v : Int32), ConI l yX4_leastMoves cX4_leastMoves 10 .int (M + 1) w A [.ref (w.2.1 q0), .ref (w.2.1 q1), .int u, .int v] h (Option.map (fun v => (v, h)) (lmR N h q0 n0 q1 n1 M u v)) := by
  intro l A M
  induction M generalizing l A with
  | zero => intro u v r hr; cases hr
  | succ M ih => intro u v; exact cr_X4_leastMoves N h q0 n0 q1 n1 _ u v hq0 hq1 ih
set_option maxRecDepth 100000 in
set_option maxHeartbeats 4000000 in
theorem c_X5_wrongBy {l : Launch} {w : Wd} {A : Nat → Prop} (N : Nat) (h : Hp) (a1 : Int32) (hM : LM w) : ConI l yX5_wrongBy cX5_wrongBy 3 .int 6 w A [.ref (w.2.1 22), .int a1] h (Option.map (fun v => (v, h)) (fX5_wrongBy N h a1)) := by
  refine ConI.of (lv0 := [some (.ref (w.2.1 22)), some (.int a1), none]) (by decide +kernel) (Nat.le_of_ble_eq_true rfl) rfl (fun x C hR hN => ?_)
  unfold fX5_wrongBy
  refine pw_aload_n C dX5_wrongBy_0 rfl rfl ?_
  refine pw_iload_n C dX5_wrongBy_1 rfl rfl ?_
  refine pm_callVp (as := [.int a1]) (rest := []) C dX5_wrongBy_2 ml_X5_176 cw_X5_topOf im_X5_topOf sl_X5_topOf (hM 22 _ rfl (by decide)) rfl ⟨by decide, by decide⟩ (c_X5_topOf N h a1 hM) rfl rfl (Nat.le_of_ble_eq_true rfl) (fun v1 => ?_)
  refine pw_istore_n (lv2 := [some (.ref (w.2.1 22)), some (.int a1), some (.int v1)]) C dX5_wrongBy_5 rfl hN (by decide) rfl rfl ?_
  refine pw_iload_n C dX5_wrongBy_6 rfl rfl ?_
  refine pw_bipush (v := (-4)) C dX5_wrongBy_7 (by decide) ?_
  refine pm_icmp_eq (tgt := 32) C dX5_wrongBy_9 (by decide) (fun c6 => ?_) (fun c6 => ?_)
  · refine pw_bipush (v := (-4)) C dX5_wrongBy_32 (by decide) ?_
    exact pm_iret C hR dX5_wrongBy_34
  · refine pw_aload_n C dX5_wrongBy_12 rfl rfl ?_
    refine pw_iload_n C dX5_wrongBy_13 rfl rfl ?_
    refine pm_callVp (as := [.int v1]) (rest := []) C dX5_wrongBy_14 ml_X5_165 cw_X5_whole im_X5_whole sl_X5_whole (hM 22 _ rfl (by decide)) rfl ⟨by decide, by decide⟩ (c_X5_whole N h v1 hM) rfl rfl (Nat.le_of_ble_eq_true rfl) (fun v2 => ?_)
    refine pw_bipush (v := (-4)) C dX5_wrongBy_17 (by decide) ?_
    refine pm_icmp_eq (tgt := 32) C dX5_wrongBy_19 (by decide) (fun c7 => ?_) (fun c7 => ?_)
    · refine pw_bipush (v := (-4)) C dX5_wrongBy_32 (by decide) ?_
      exact pm_iret C hR dX5_wrongBy_34
    · refine pw_aload_n C dX5_wrongBy_22 rfl rfl ?_
      refine pw_iload_n C dX5_wrongBy_23 rfl rfl ?_
      refine pm_callVp (as := [.int a1]) (rest := []) C dX5_wrongBy_24 ml_X5_179 cw_X5_sumOf im_X5_sumOf sl_X5_sumOf (hM 22 _ rfl (by decide)) rfl ⟨by decide, by decide⟩ (c_X5_sumOf N h a1 hM) rfl rfl (Nat.le_of_ble_eq_true rfl) (fun v3 => ?_)
      refine pw_bipush (v := (-4)) C dX5_wrongBy_27 (by decide) ?_
      refine pm_icmp_ne (tgt := 35) C dX5_wrongBy_29 (by decide) (fun c8 => ?_) (fun c8 => ?_)
      · refine pw_bipush (v := (-4)) C dX5_wrongBy_32 (by decide) ?_
        exact pm_iret C hR dX5_wrongBy_34
      · refine pw_aload_n C dX5_wrongBy_35 rfl rfl ?_
        refine pw_iload_n C dX5_wrongBy_36 rfl rfl ?_
        refine pm_callVp (as := [.int a1]) (rest := []) C dX5_wrongBy_37 ml_X5_179 cw_X5_sumOf im_X5_sumOf sl_X5_sumOf (hM 22 _ rfl (by decide)) rfl ⟨by decide, by decide⟩ (c_X5_sumOf N h a1 hM) rfl rfl (Nat.le_of_ble_eq_true rfl) (fun v4 => ?_)
        refine pw_aload_n C dX5_wrongBy_40 rfl rfl ?_
        refine pw_iload_n C dX5_wrongBy_41 rfl rfl ?_
        refine pm_callVp (as := [.int v1]) (rest := [.int v4]) C dX5_wrongBy_42 ml_X5_165 cw_X5_whole im_X5_whole sl_X5_whole (hM 22 _ rfl (by decide)) rfl ⟨by decide, by decide⟩ (c_X5_whole N h v1 hM) rfl rfl (Nat.le_of_ble_eq_true rfl) (fun v5 => ?_)
        refine pw_isub C dX5_wrongBy_45 ?_
        refine pw_ldc (C := C) ct_X5_182 dX5_wrongBy_46 ?_
        refine pw_iadd C dX5_wrongBy_48 ?_
        exact pm_iret C hR dX5_wrongBy_49
set_option maxRecDepth 100000 in
set_option maxHeartbeats 4000000 in
theorem c_X4_mend {l : Launch} {w : Wd} {A : Nat → Prop} (N : Nat) (h : Hp) (a1 : Int32) (hL : LX w) : ConI l yX4_mend cX4_mend 2 .int 7 w A [.ref (w.2.1 0), .int a1] h ((fX4_mend N h a1)) := by
  refine ConI.of (lv0 := [some (.ref (w.2.1 0)), some (.int a1)]) (by decide +kernel) (Nat.le_of_ble_eq_true rfl) rfl (fun x C hR hN => ?_)
  unfold fX4_mend
  refine pw_aload_n C dX4_mend_0 rfl rfl ?_
  refine pw_getr (q2 := 6) C (hL 0 _ rfl) rfl (k := 3) (by decide) rfl fl_X4_23 dX4_mend_1 ?_
  refine pw_iload_n C dX4_mend_4 rfl rfl ?_
  refine pw_callVt (as := [.int a1]) (rest := []) C dX4_mend_5 ml_X4_140 cw_X0_hasGroup im_X0_hasGroup sl_X0_hasGroup (hL 6 _ rfl) rfl ⟨by decide, by decide⟩ (c_X0_hasGroup h 7 a1 (hL 6 _ rfl) (hL 7 _ rfl)) rfl rfl (Nat.le_of_ble_eq_true rfl) ?_
  refine pw_if_ne (tgt := 13) C dX4_mend_8 (by decide) (fun c5 => ?_) (fun c5 => ?_)
  · refine pw_iconst (v := (-1)) C dX4_mend_11 (by decide) ?_
    exact pw_iret C hR dX4_mend_12
  · refine pw_aload_n C dX4_mend_13 rfl rfl ?_
    refine pw_getr (q2 := 6) C (hL 0 _ rfl) rfl (k := 3) (by decide) rfl fl_X4_23 dX4_mend_14 ?_
    refine pw_iload_n C dX4_mend_17 rfl rfl ?_
    refine pw_callVp (as := [.int a1]) (rest := []) C dX4_mend_18 ml_X4_152 cw_X0_canBeCompared im_X0_canBeCompared sl_X0_canBeCompared (hL 6 _ rfl) rfl ⟨by decide, by decide⟩ (c_X0_canBeCompared N h 7 a1 (hL 6 _ rfl) (hL 7 _ rfl)) rfl rfl (Nat.le_of_ble_eq_true rfl) (fun v1 => ?_)
    refine pw_if_ne (tgt := 27) C dX4_mend_21 (by decide) (fun c6 => ?_) (fun c6 => ?_)
    · refine pw_bipush (v := (-4)) C dX4_mend_24 (by decide) ?_
      exact pw_iret C hR dX4_mend_26
    · refine pw_aload_n C dX4_mend_27 rfl rfl ?_
      refine pw_iload_n C dX4_mend_28 rfl rfl ?_
      refine pw_callVvq (as := [.int a1]) (rest := []) C dX4_mend_29 ml_X4_200 cw_X4_measureRoom im_X4_measureRoom sl_X4_measureRoom (hL 0 _ rfl) rfl ⟨by decide, by decide⟩ (c_X4_measureRoom N h a1 hL) rfl rfl (Nat.le_of_ble_eq_true rfl) (fun z2 => ?_)
      refine pw_aload_n C dX4_mend_32 rfl rfl ?_
      refine pw_getr (q2 := 18) C (hL 0 _ rfl) rfl (k := 7) (by decide) rfl fl_X4_46 dX4_mend_33 ?_
      refine pw_aload_n C dX4_mend_36 rfl rfl ?_
      refine pw_getr (q2 := 19) C (hL 0 _ rfl) rfl (k := 8) (by decide) rfl fl_X4_50 dX4_mend_37 ?_
      refine pw_iconst (v := 0) C dX4_mend_40 (by decide) ?_
      refine pw_aload_n C dX4_mend_41 rfl rfl ?_
      refine pw_getr (q2 := 6) C (hL 0 _ rfl) rfl (k := 3) (by decide) rfl fl_X4_23 dX4_mend_42 ?_
      refine pw_iload_n C dX4_mend_45 rfl rfl ?_
      refine pw_callVp (as := [.int a1]) (rest := [.int 0, .ref (w.2.1 19), .ref (w.2.1 18)]) C dX4_mend_46 ml_X4_155 cw_X0_excessOf im_X0_excessOf sl_X0_excessOf (hL 6 _ rfl) rfl ⟨by decide, by decide⟩ (c_X0_excessOf N z2.2 7 a1 (hL 6 _ rfl) (hL 7 _ rfl)) rfl rfl (Nat.le_of_ble_eq_true rfl) (fun v3 => ?_)
      refine pw_ineg C dX4_mend_49 ?_
      refine pw_callSp (as := [.ref (w.2.1 18), .ref (w.2.1 19), .int 0, .int (-v3)]) (rest := []) C dX4_mend_50 ml_X4_203 cw_X4_leastMoves st_X4_leastMoves ⟨by decide, by decide⟩ (c_lmR N z2.2 18 4 19 4 (hL 18 _ rfl) (hL 19 _ rfl) _ _ 5 0 (-v3)) rfl rfl (Nat.le_of_ble_eq_true rfl) (fun v4 => ?_)
      exact pw_iret C hR dX4_mend_53
set_option maxRecDepth 100000 in
set_option maxHeartbeats 4000000 in
theorem c_X5_group {l : Launch} {w : Wd} {A : Nat → Prop} (N : Nat) (h : Hp) (a1 : Int32) (a2 : Int32) (hM : LM w) : ConI l yX5_group cX5_group 3 .int 7 w A [.ref (w.2.1 22), .int a1, .int a2] h (Option.map (fun v => (v, h)) (fX5_group N h a1 a2)) := by
  refine ConI.of (lv0 := [some (.ref (w.2.1 22)), some (.int a1), some (.int a2)]) (by decide +kernel) (Nat.le_of_ble_eq_true rfl) rfl (fun x C hR hN => ?_)
  unfold fX5_group
  refine pw_aload_n C dX5_group_0 rfl rfl ?_
  refine pw_iload_n C dX5_group_1 rfl rfl ?_
  refine pw_callVt (as := [.int a1]) (rest := []) C dX5_group_2 ml_X5_183 cw_X5_isGroup im_X5_isGroup sl_X5_isGroup (hM 22 _ rfl (by decide)) rfl ⟨by decide, by decide⟩ (c_X5_isGroup h a1 hM) rfl rfl (Nat.le_of_ble_eq_true rfl) ?_
  refine pm_if_ne (tgt := 10) C dX5_group_5 (by decide) (fun c5 => ?_) (fun c5 => ?_)
  · refine pw_iconst (v := (-1)) C dX5_group_8 (by decide) ?_
    exact pm_iret C hR dX5_group_9
  · refine pw_iload_n C dX5_group_10 rfl rfl ?_
    refine pm_ite (fun e11_0 => ?_) (fun e11_0 => ?_)
    · refine pw_tsIn (tgt := 40) (off := 29) C dX5_group_11 (by rw [e11_0]; decide) (by rw [e11_0]; decide) (by rw [e11_0]; decide) (by decide) ?_
      refine pw_aload_n C dX5_group_40 rfl rfl ?_
      refine pw_iload_n C dX5_group_41 rfl rfl ?_
      refine pm_callVp (as := [.int a1]) (rest := []) C dX5_group_42 ml_X5_186 cw_X5_manyOf im_X5_manyOf sl_X5_manyOf (hM 22 _ rfl (by decide)) rfl ⟨by decide, by decide⟩ (c_X5_manyOf N h a1 hM) rfl rfl (Nat.le_of_ble_eq_true rfl) (fun v4 => ?_)
      exact pm_iret C hR dX5_group_45
    · refine pm_ite (fun e11_1 => ?_) (fun e11_1 => ?_)
      · refine pw_tsIn (tgt := 46) (off := 35) C dX5_group_11 (by rw [e11_1]; decide) (by rw [e11_1]; decide) (by rw [e11_1]; decide) (by decide) ?_
        refine pw_aload_n C dX5_group_46 rfl rfl ?_
        refine pw_iload_n C dX5_group_47 rfl rfl ?_
        refine pm_callVp (as := [.int a1]) (rest := []) C dX5_group_48 ml_X5_176 cw_X5_topOf im_X5_topOf sl_X5_topOf (hM 22 _ rfl (by decide)) rfl ⟨by decide, by decide⟩ (c_X5_topOf N h a1 hM) rfl rfl (Nat.le_of_ble_eq_true rfl) (fun v3 => ?_)
        exact pm_iret C hR dX5_group_51
      · refine pm_ite (fun e11_2 => ?_) (fun e11_2 => ?_)
        · refine pw_tsIn (tgt := 52) (off := 41) C dX5_group_11 (by rw [e11_2]; decide) (by rw [e11_2]; decide) (by rw [e11_2]; decide) (by decide) ?_
          refine pw_aload_n C dX5_group_52 rfl rfl ?_
          refine pw_iload_n C dX5_group_53 rfl rfl ?_
          refine pm_callVp (as := [.int a1]) (rest := []) C dX5_group_54 ml_X5_179 cw_X5_sumOf im_X5_sumOf sl_X5_sumOf (hM 22 _ rfl (by decide)) rfl ⟨by decide, by decide⟩ (c_X5_sumOf N h a1 hM) rfl rfl (Nat.le_of_ble_eq_true rfl) (fun v2 => ?_)
          exact pm_iret C hR dX5_group_57
        · refine pm_ite (fun e11_3 => ?_) (fun e11_3 => ?_)
          · refine pw_tsIn (tgt := 58) (off := 47) C dX5_group_11 (by rw [e11_3]; decide) (by rw [e11_3]; decide) (by rw [e11_3]; decide) (by decide) ?_
            refine pw_aload_n C dX5_group_58 rfl rfl ?_
            refine pw_iload_n C dX5_group_59 rfl rfl ?_
            refine pm_callVp (as := [.int a1]) (rest := []) C dX5_group_60 ml_X5_189 cw_X5_wrongBy im_X5_wrongBy sl_X5_wrongBy (hM 22 _ rfl (by decide)) rfl ⟨by decide, by decide⟩ (c_X5_wrongBy N h a1 hM) rfl rfl (Nat.le_of_ble_eq_true rfl) (fun v1 => ?_)
            refine pw_ldc (C := C) ct_X5_182 dX5_group_63 ?_
            refine pm_icmp_ne (tgt := 72) C dX5_group_65 (by decide) (fun c6 => ?_) (fun c6 => ?_)
            · refine pw_iconst (v := 1) C dX5_group_68 (by decide) ?_
              refine pw_goto (tgt := 73) C dX5_group_69 (by decide) ?_
              exact pm_iret C hR dX5_group_73
            · refine pw_iconst (v := 0) C dX5_group_72 (by decide) ?_
              exact pm_iret C hR dX5_group_73
          · refine pw_tsOut (tgt := 74) C dX5_group_11 (by have := i_neN (z := 0) (by decide) e11_0; have := i_neN (z := 1) (by decide) e11_1; have := i_neN (z := 2) (by decide) e11_2; have := i_neN (z := 3) (by decide) e11_3; omega) (by decide) ?_
            refine pw_iconst (v := (-1)) C dX5_group_74 (by decide) ?_
            exact pm_iret C hR dX5_group_75
set_option maxRecDepth 100000 in
set_option maxHeartbeats 4000000 in
theorem c_X5_wrong {l : Launch} {w : Wd} {A : Nat → Prop} (N : Nat) (h : Hp) (a1 : Int32) (hM : LM w) : ConI l yX5_wrong cX5_wrong 2 .int 7 w A [.ref (w.2.1 22), .int a1] h (Option.map (fun v => (v, h)) (fX5_wrong N h a1)) := by
  refine ConI.of (lv0 := [some (.ref (w.2.1 22)), some (.int a1)]) (by decide +kernel) (Nat.le_of_ble_eq_true rfl) rfl (fun x C hR hN => ?_)
  unfold fX5_wrong
  refine pw_aload_n C dX5_wrong_0 rfl rfl ?_
  refine pw_iload_n C dX5_wrong_1 rfl rfl ?_
  refine pw_callVt (as := [.int a1]) (rest := []) C dX5_wrong_2 ml_X5_183 cw_X5_isGroup im_X5_isGroup sl_X5_isGroup (hM 22 _ rfl (by decide)) rfl ⟨by decide, by decide⟩ (c_X5_isGroup h a1 hM) rfl rfl (Nat.le_of_ble_eq_true rfl) ?_
  refine pm_if_eq (tgt := 16) C dX5_wrong_5 (by decide) (fun c2 => ?_) (fun c2 => ?_)
  · refine pw_iconst (v := (-1)) C dX5_wrong_16 (by decide) ?_
    exact pm_iret C hR dX5_wrong_17
  · refine pw_aload_n C dX5_wrong_8 rfl rfl ?_
    refine pw_iload_n C dX5_wrong_9 rfl rfl ?_
    refine pm_callVp (as := [.int a1]) (rest := []) C dX5_wrong_10 ml_X5_189 cw_X5_wrongBy im_X5_wrongBy sl_X5_wrongBy (hM 22 _ rfl (by decide)) rfl ⟨by decide, by decide⟩ (c_X5_wrongBy N h a1 hM) rfl rfl (Nat.le_of_ble_eq_true rfl) (fun v1 => ?_)
    refine pw_goto (tgt := 17) C dX5_wrong_13 (by decide) ?_
    exact pm_iret C hR dX5_wrong_17
set_option maxRecDepth 100000 in
set_option maxHeartbeats 4000000 in
theorem kX5_mend_L195 {w : Wd} {x : Cz} (C : Ok w x cX5_mend RX5 7) (hR : OkI w x .int) (hN : xN x = 14) (N : Nat) (a1 : Int32) (hM : LM w) (k48 : Int32 → Int32 → Int32 → Hp → Option Rs) (hk48 : ∀ (u3 : Int32) (u4 : Int32) (u5 : Int32) (h : Hp), PW w x 48 [some (.ref (w.2.1 22)), none, none, some (.int u3), some (.int u4), some (.int u5), none, none, none, none, none, none, none, none] [] h ((k48 u3 u4 u5 h))) (k78 : Int32 → Int32 → Int32 → Int32 → Int32 → Hp → Option Rs) (hk78 : ∀ (u3 : Int32) (u4 : Int32) (u5 : Int32) (u6 : Int32) (u7 : Int32) (h : Hp), PW w x 78 [some (.ref (w.2.1 22)), none, none, some (.int u3), some (.int u4), some (.int u5), some (.int u6), some (.int u7), none, none, none, none, none, none] [] h ((k78 u3 u4 u5 u6 u7 h))) : ∀ (n : Nat) (u3 : Int32) (u4 : Int32) (u5 : Int32) (u6 : Int32) (u7 : Int32) (u8 : Int32) (u10 : Int32) (u11 : Int32) (h : Hp), PW w x 195 [some (.ref (w.2.1 22)), none, none, some (.int u3), some (.int u4), some (.int u5), some (.int u6), some (.int u7), some (.int u8), none, some (.int u10), some (.int u11), none, none] [] h ((fX5_mend_L195 N a1 k48 k78 n u3 u4 u5 u6 u7 u8 u10 u11 h)) := by
  intro n
  induction n with
  | zero => intro u3 u4 u5 u6 u7 u8 u10 u11 h; rw [fX5_mend_L195]; exact pw_none
  | succ n ih =>
    intro u3 u4 u5 u6 u7 u8 u10 u11 h
    rw [fX5_mend_L195]
    refine pw_iload C dX5_mend_195 rfl ?_
    refine pw_iload C dX5_mend_197 rfl ?_
    refine pw_icmp_gt (tgt := 283) C dX5_mend_199 (by decide) (fun c6 => ?_) (fun c6 => ?_)
    · refine pw_iinc (lv2 := [some (.ref (w.2.1 22)), none, none, some (.int u3), some (.int u4), some (.int u5), some (.int u6), some (.int (u7 + 1)), some (.int u8), none, some (.int u10), some (.int u11), none, none]) C dX5_mend_283 rfl rfl hN (by decide) rfl rfl ?_
      refine pw_goto (tgt := 78) C dX5_mend_286 (by decide) ?_
      exact pw_lv (hk78 u3 u4 u5 u6 (u7 + 1) h) ⟨rfl, rfl, rfl, rfl, rfl, rfl, trivial⟩
    · refine pw_iload C dX5_mend_202 rfl ?_
      refine pw_bipush (v := 10) C dX5_mend_204 (by decide) ?_
      refine pw_iload C dX5_mend_206 rfl ?_
      refine pw_imul C dX5_mend_208 ?_
      refine pw_isub C dX5_mend_209 ?_
      refine pw_istore (lv2 := [some (.ref (w.2.1 22)), none, none, some (.int u3), some (.int u4), some (.int u5), some (.int u6), some (.int u7), some (.int u8), none, some (.int u10), some (.int u11), some (.int (u8 - (10 * u11))), none]) C dX5_mend_210 hN (by decide) rfl rfl ?_
      refine pw_iload C dX5_mend_212 rfl ?_
      refine pw_callSt (as := [.int u5]) (rest := []) C dX5_mend_214 ml_X5_227 cw_X5_plain st_X5_plain ⟨by decide, by decide⟩ (c_X5_plain h u5) rfl rfl (Nat.le_of_ble_eq_true rfl) ?_
      refine pw_iload C dX5_mend_217 rfl ?_
      refine pw_callSt (as := [.int u7]) (rest := [.int (fX5_plain h u5)]) C dX5_mend_219 ml_X5_227 cw_X5_plain st_X5_plain ⟨by decide, by decide⟩ (c_X5_plain h u7) rfl rfl (Nat.le_of_ble_eq_true rfl) ?_
      refine pw_iadd C dX5_mend_222 ?_
      refine pw_iload C dX5_mend_223 rfl ?_
      refine pw_callSt (as := [.int u11]) (rest := [.int ((fX5_plain h u5) + (fX5_plain h u7))]) C dX5_mend_225 ml_X5_227 cw_X5_plain st_X5_plain ⟨by decide, by decide⟩ (c_X5_plain h u11) rfl rfl (Nat.le_of_ble_eq_true rfl) ?_
      refine pw_iadd C dX5_mend_228 ?_
      refine pw_iload C dX5_mend_229 rfl ?_
      refine pw_callSt (as := [.int (u8 - (10 * u11))]) (rest := [.int (((fX5_plain h u5) + (fX5_plain h u7)) + (fX5_plain h u11))]) C dX5_mend_231 ml_X5_227 cw_X5_plain st_X5_plain ⟨by decide, by decide⟩ (c_X5_plain h (u8 - (10 * u11))) rfl rfl (Nat.le_of_ble_eq_true rfl) ?_
      refine pw_iadd C dX5_mend_234 ?_
      refine pw_name (fun v5 => ?_)
      refine pw_istore (lv2 := [some (.ref (w.2.1 22)), none, none, some (.int u3), some (.int u4), some (.int u5), some (.int u6), some (.int u7), some (.int u8), none, some (.int u10), some (.int u11), some (.int (u8 - (10 * u11))), some (.int v5)]) C dX5_mend_235 hN (by decide) rfl rfl ?_
      refine pw_iload C dX5_mend_237 rfl ?_
      refine pw_i2l C dX5_mend_239 ?_
      refine pw_aload_n C dX5_mend_240 rfl rfl ?_
      refine pw_getr (q2 := 30) C (hM 22 _ rfl (by decide)) rfl (k := 13) (by decide) rfl fl_X5_31 dX5_mend_241 ?_
      refine pw_iconst (v := 0) C dX5_mend_244 (by decide) ?_
      refine pw_ialdc (k := 0) C (hM 30 _ rfl (by decide)) (by decide +kernel) dX5_mend_245 ?_
      refine pw_ineg C dX5_mend_246 ?_
      refine pw_i2l C dX5_mend_247 ?_
      refine pw_aload_n C dX5_mend_248 rfl rfl ?_
      refine pw_getr (q2 := 29) C (hM 22 _ rfl (by decide)) rfl (k := 12) (by decide) rfl fl_X5_28 dX5_mend_249 ?_
      refine pw_iconst (v := 0) C dX5_mend_252 (by decide) ?_
      refine pw_ialdc (k := 0) C (hM 29 _ rfl (by decide)) (by decide +kernel) dX5_mend_253 ?_
      refine pw_i2l C dX5_mend_254 ?_
      refine pw_callSt (as := [.long ((u8 - (10 * u11))).toInt64, .long ((-(h 30 0))).toInt64, .long ((h 29 0)).toInt64]) (rest := []) C dX5_mend_255 ml_X5_54 cw_X5_in st_X5_in ⟨by decide, by decide⟩ (c_X5_in h ((u8 - (10 * u11))).toInt64 ((-(h 30 0))).toInt64 ((h 29 0)).toInt64) rfl rfl (Nat.le_of_ble_eq_true rfl) ?_
      refine PW.eq (apply_ite (fun z_ => (fX5_mend_L195 N a1 k48 k78 n u3 z_ u5 u6 u7 u8 u10 (u11 + 1) h)) _ _ _) ?_
      refine pw_if_eq (tgt := 273) C dX5_mend_258 (by decide) (fun c7 => ?_) (fun c7 => ?_)
      · refine pw_iload C dX5_mend_273 rfl ?_
        refine pw_istore (lv2 := [some (.ref (w.2.1 22)), none, none, some (.int u3), some (.int u4), some (.int u5), some (.int u6), some (.int u7), some (.int u8), none, some (.int u10), some (.int u11), some (.int (u8 - (10 * u11))), some (.int v5)]) C dX5_mend_275 hN (by decide) rfl rfl ?_
        refine pw_iinc (lv2 := [some (.ref (w.2.1 22)), none, none, some (.int u3), some (.int u4), some (.int u5), some (.int u6), some (.int u7), some (.int u8), none, some (.int u10), some (.int (u11 + 1)), some (.int (u8 - (10 * u11))), some (.int v5)]) C dX5_mend_277 rfl rfl hN (by decide) rfl rfl ?_
        refine pw_goto (tgt := 195) C dX5_mend_280 (by decide) ?_
        exact pw_lv (ih u3 u4 u5 u6 u7 u8 u10 (u11 + 1) h) ⟨rfl, rfl, rfl, rfl, rfl, rfl, rfl, rfl, rfl, trivial⟩
      · refine pw_iload C dX5_mend_261 rfl ?_
        refine pw_iload C dX5_mend_263 rfl ?_
        refine PW.eq (apply_ite (fun z_ => (fX5_mend_L195 N a1 k48 k78 n u3 z_ u5 u6 u7 u8 u10 (u11 + 1) h)) _ _ _) ?_
        refine pw_icmp_ge (tgt := 273) C dX5_mend_265 (by decide) (fun c8 => ?_) (fun c8 => ?_)
        · refine pw_iload C dX5_mend_268 rfl ?_
          refine pw_goto (tgt := 275) C dX5_mend_270 (by decide) ?_
          refine pw_istore (lv2 := [some (.ref (w.2.1 22)), none, none, some (.int u3), some (.int v5), some (.int u5), some (.int u6), some (.int u7), some (.int u8), none, some (.int u10), some (.int u11), some (.int (u8 - (10 * u11))), some (.int v5)]) C dX5_mend_275 hN (by decide) rfl rfl ?_
          refine pw_iinc (lv2 := [some (.ref (w.2.1 22)), none, none, some (.int u3), some (.int v5), some (.int u5), some (.int u6), some (.int u7), some (.int u8), none, some (.int u10), some (.int (u11 + 1)), some (.int (u8 - (10 * u11))), some (.int v5)]) C dX5_mend_277 rfl rfl hN (by decide) rfl rfl ?_
          refine pw_goto (tgt := 195) C dX5_mend_280 (by decide) ?_
          exact pw_lv (ih u3 v5 u5 u6 u7 u8 u10 (u11 + 1) h) ⟨rfl, rfl, rfl, rfl, rfl, rfl, rfl, rfl, rfl, trivial⟩
        · refine pw_iload C dX5_mend_273 rfl ?_
          refine pw_istore (lv2 := [some (.ref (w.2.1 22)), none, none, some (.int u3), some (.int u4), some (.int u5), some (.int u6), some (.int u7), some (.int u8), none, some (.int u10), some (.int u11), some (.int (u8 - (10 * u11))), some (.int v5)]) C dX5_mend_275 hN (by decide) rfl rfl ?_
          refine pw_iinc (lv2 := [some (.ref (w.2.1 22)), none, none, some (.int u3), some (.int u4), some (.int u5), some (.int u6), some (.int u7), some (.int u8), none, some (.int u10), some (.int (u11 + 1)), some (.int (u8 - (10 * u11))), some (.int v5)]) C dX5_mend_277 rfl rfl hN (by decide) rfl rfl ?_
          refine pw_goto (tgt := 195) C dX5_mend_280 (by decide) ?_
          exact pw_lv (ih u3 u4 u5 u6 u7 u8 u10 (u11 + 1) h) ⟨rfl, rfl, rfl, rfl, rfl, rfl, rfl, rfl, rfl, trivial⟩
set_option maxRecDepth 100000 in
set_option maxHeartbeats 4000000 in
theorem kX5_mend_J165 {w : Wd} {x : Cz} (C : Ok w x cX5_mend RX5 7) (hR : OkI w x .int) (hN : xN x = 14) (N : Nat) (a1 : Int32) (hM : LM w) (k48 : Int32 → Int32 → Int32 → Hp → Option Rs) (hk48 : ∀ (u3 : Int32) (u4 : Int32) (u5 : Int32) (h : Hp), PW w x 48 [some (.ref (w.2.1 22)), none, none, some (.int u3), some (.int u4), some (.int u5), none, none, none, none, none, none, none, none] [] h ((k48 u3 u4 u5 h))) (k78 : Int32 → Int32 → Int32 → Int32 → Int32 → Hp → Option Rs) (hk78 : ∀ (u3 : Int32) (u4 : Int32) (u5 : Int32) (u6 : Int32) (u7 : Int32) (h : Hp), PW w x 78 [some (.ref (w.2.1 22)), none, none, some (.int u3), some (.int u4), some (.int u5), some (.int u6), some (.int u7), none, none, none, none, none, none] [] h ((k78 u3 u4 u5 u6 u7 h))) : ∀ (u3 : Int32) (u4 : Int32) (u5 : Int32) (u6 : Int32) (u7 : Int32) (u8 : Int32) (u10 : Int32) (t0 : Int32) (h : Hp), PW w x 165 [some (.ref (w.2.1 22)), none, none, some (.int u3), some (.int u4), some (.int u5), some (.int u6), some (.int u7), some (.int u8), none, some (.int u10), none, none, none] [.int t0] h ((fX5_mend_J165 N a1 k48 k78 u3 u4 u5 u6 u7 u8 u10 t0 h)) := by
  intro u3 u4 u5 u6 u7 u8 u10 t0 h
  unfold fX5_mend_J165
  refine pw_istore (lv2 := [some (.ref (w.2.1 22)), none, none, some (.int u3), some (.int u4), some (.int u5), some (.int u6), some (.int u7), some (.int u8), some (.int t0), some (.int u10), none, none, none]) C dX5_mend_165 hN (by decide) rfl rfl ?_
  refine pw_iload C dX5_mend_167 rfl ?_
  refine pw_aload_n C dX5_mend_169 rfl rfl ?_
  refine pw_getr (q2 := 29) C (hM 22 _ rfl (by decide)) rfl (k := 12) (by decide) rfl fl_X5_28 dX5_mend_170 ?_
  refine pw_iconst (v := 1) C dX5_mend_173 (by decide) ?_
  refine pw_ialdc (k := 1) C (hM 29 _ rfl (by decide)) (by decide +kernel) dX5_mend_174 ?_
  refine PW.eq (apply_ite (fun z_ => (fX5_mend_L195 N a1 k48 k78 N u3 u4 u5 u6 u7 u8 z_ t0 h)) _ _ _) ?_
  refine pw_icmp_le (tgt := 187) C dX5_mend_175 (by decide) (fun c9 => ?_) (fun c9 => ?_)
  · refine pw_aload_n C dX5_mend_178 rfl rfl ?_
    refine pw_getr (q2 := 29) C (hM 22 _ rfl (by decide)) rfl (k := 12) (by decide) rfl fl_X5_28 dX5_mend_179 ?_
    refine pw_iconst (v := 1) C dX5_mend_182 (by decide) ?_
    refine pw_ialdc (k := 1) C (hM 29 _ rfl (by decide)) (by decide +kernel) dX5_mend_183 ?_
    refine pw_goto (tgt := 189) C dX5_mend_184 (by decide) ?_
    refine pw_istore (lv2 := [some (.ref (w.2.1 22)), none, none, some (.int u3), some (.int u4), some (.int u5), some (.int u6), some (.int u7), some (.int u8), some (.int t0), some (.int (h 29 1)), none, none, none]) C dX5_mend_189 hN (by decide) rfl rfl ?_
    refine pw_iload C dX5_mend_191 rfl ?_
    refine pw_istore (lv2 := [some (.ref (w.2.1 22)), none, none, some (.int u3), some (.int u4), some (.int u5), some (.int u6), some (.int u7), some (.int u8), some (.int t0), some (.int (h 29 1)), some (.int t0), none, none]) C dX5_mend_193 hN (by decide) rfl rfl ?_
    exact pw_lv (kX5_mend_L195 C hR hN N a1 hM k48 hk48 k78 hk78 N u3 u4 u5 u6 u7 u8 (h 29 1) t0 h) ⟨rfl, rfl, rfl, rfl, rfl, rfl, rfl, rfl, rfl, trivial⟩
  · refine pw_iload C dX5_mend_187 rfl ?_
    refine pw_istore (lv2 := [some (.ref (w.2.1 22)), none, none, some (.int u3), some (.int u4), some (.int u5), some (.int u6), some (.int u7), some (.int u8), some (.int t0), some (.int u10), none, none, none]) C dX5_mend_189 hN (by decide) rfl rfl ?_
    refine pw_iload C dX5_mend_191 rfl ?_
    refine pw_istore (lv2 := [some (.ref (w.2.1 22)), none, none, some (.int u3), some (.int u4), some (.int u5), some (.int u6), some (.int u7), some (.int u8), some (.int t0), some (.int u10), some (.int t0), none, none]) C dX5_mend_193 hN (by decide) rfl rfl ?_
    exact pw_lv (kX5_mend_L195 C hR hN N a1 hM k48 hk48 k78 hk78 N u3 u4 u5 u6 u7 u8 u10 t0 h) ⟨rfl, rfl, rfl, rfl, rfl, rfl, rfl, rfl, rfl, trivial⟩
set_option maxRecDepth 100000 in
set_option maxHeartbeats 4000000 in
theorem kX5_mend_L78 {w : Wd} {x : Cz} (C : Ok w x cX5_mend RX5 7) (hR : OkI w x .int) (hN : xN x = 14) (N : Nat) (a1 : Int32) (hM : LM w) (k48 : Int32 → Int32 → Int32 → Hp → Option Rs) (hk48 : ∀ (u3 : Int32) (u4 : Int32) (u5 : Int32) (h : Hp), PW w x 48 [some (.ref (w.2.1 22)), none, none, some (.int u3), some (.int u4), some (.int u5), none, none, none, none, none, none, none, none] [] h ((k48 u3 u4 u5 h))) : ∀ (n : Nat) (u3 : Int32) (u4 : Int32) (u5 : Int32) (u6 : Int32) (u7 : Int32) (h : Hp), PW w x 78 [some (.ref (w.2.1 22)), none, none, some (.int u3), some (.int u4), some (.int u5), some (.int u6), some (.int u7), none, none, none, none, none, none] [] h ((fX5_mend_L78 N a1 k48 n u3 u4 u5 u6 u7 h)) := by
  intro n
  induction n with
  | zero => intro u3 u4 u5 u6 u7 h; rw [fX5_mend_L78]; exact pw_none
  | succ n ih =>
    intro u3 u4 u5 u6 u7 h
    rw [fX5_mend_L78]
    refine pw_iload C dX5_mend_78 rfl ?_
    refine pw_aload_n C dX5_mend_80 rfl rfl ?_
    refine pw_getr (q2 := 29) C (hM 22 _ rfl (by decide)) rfl (k := 12) (by decide) rfl fl_X5_28 dX5_mend_81 ?_
    refine pw_iconst (v := 2) C dX5_mend_84 (by decide) ?_
    refine pw_ialdc (k := 2) C (hM 29 _ rfl (by decide)) (by decide +kernel) dX5_mend_85 ?_
    refine pw_icmp_gt (tgt := 289) C dX5_mend_86 (by decide) (fun c10 => ?_) (fun c10 => ?_)
    · refine pw_iinc (lv2 := [some (.ref (w.2.1 22)), none, none, some (.int u3), some (.int u4), some (.int (u5 + 1)), some (.int u6), some (.int u7), none, none, none, none, none, none]) C dX5_mend_289 rfl rfl hN (by decide) rfl rfl ?_
      refine pw_goto (tgt := 48) C dX5_mend_292 (by decide) ?_
      exact pw_lv (hk48 u3 u4 (u5 + 1) h) ⟨rfl, rfl, rfl, rfl, trivial⟩
    · refine pw_iload C dX5_mend_89 rfl ?_
      refine pw_callSt (as := [.int u5]) (rest := []) C dX5_mend_91 ml_X5_227 cw_X5_plain st_X5_plain ⟨by decide, by decide⟩ (c_X5_plain h u5) rfl rfl (Nat.le_of_ble_eq_true rfl) ?_
      refine pw_iload C dX5_mend_94 rfl ?_
      refine pw_icmp_ge (tgt := 289) C dX5_mend_96 (by decide) (fun c11 => ?_) (fun c11 => ?_)
      · refine pw_iload C dX5_mend_99 rfl ?_
        refine pw_bipush (v := 100) C dX5_mend_101 (by decide) ?_
        refine pw_iload C dX5_mend_103 rfl ?_
        refine pw_imul C dX5_mend_105 ?_
        refine pw_isub C dX5_mend_106 ?_
        refine pw_istore (lv2 := [some (.ref (w.2.1 22)), none, none, some (.int u3), some (.int u4), some (.int u5), some (.int u6), some (.int u7), some (.int (u6 - (100 * u7))), none, none, none, none, none]) C dX5_mend_107 hN (by decide) rfl rfl ?_
        refine pw_iload C dX5_mend_109 rfl ?_
        refine pw_aload_n C dX5_mend_111 rfl rfl ?_
        refine pw_getr (q2 := 29) C (hM 22 _ rfl (by decide)) rfl (k := 12) (by decide) rfl fl_X5_28 dX5_mend_112 ?_
        refine pw_iconst (v := 0) C dX5_mend_115 (by decide) ?_
        refine pw_ialdc (k := 0) C (hM 29 _ rfl (by decide)) (by decide +kernel) dX5_mend_116 ?_
        refine pw_isub C dX5_mend_117 ?_
        refine pw_bipush (v := 10) C dX5_mend_118 (by decide) ?_
        refine pw_idiv C dX5_mend_120 (by decide) ?_
        refine pw_iconst (v := 1) C dX5_mend_121 (by decide) ?_
        refine pw_isub C dX5_mend_122 ?_
        refine pw_name (fun v3 => ?_)
        refine pw_istore (lv2 := [some (.ref (w.2.1 22)), none, none, some (.int u3), some (.int u4), some (.int u5), some (.int u6), some (.int u7), some (.int (u6 - (100 * u7))), some (.int v3), none, none, none, none]) C dX5_mend_123 hN (by decide) rfl rfl ?_
        refine pw_iload C dX5_mend_125 rfl ?_
        refine pw_aload_n C dX5_mend_127 rfl rfl ?_
        refine pw_getr (q2 := 30) C (hM 22 _ rfl (by decide)) rfl (k := 13) (by decide) rfl fl_X5_31 dX5_mend_128 ?_
        refine pw_iconst (v := 0) C dX5_mend_131 (by decide) ?_
        refine pw_ialdc (k := 0) C (hM 30 _ rfl (by decide)) (by decide +kernel) dX5_mend_132 ?_
        refine pw_iadd C dX5_mend_133 ?_
        refine pw_bipush (v := 10) C dX5_mend_134 (by decide) ?_
        refine pw_idiv C dX5_mend_136 (by decide) ?_
        refine pw_iconst (v := 1) C dX5_mend_137 (by decide) ?_
        refine pw_iadd C dX5_mend_138 ?_
        refine pw_name (fun v4 => ?_)
        refine pw_istore (lv2 := [some (.ref (w.2.1 22)), none, none, some (.int u3), some (.int u4), some (.int u5), some (.int u6), some (.int u7), some (.int (u6 - (100 * u7))), some (.int v3), some (.int v4), none, none, none]) C dX5_mend_139 hN (by decide) rfl rfl ?_
        refine pw_iload C dX5_mend_141 rfl ?_
        refine pw_aload_n C dX5_mend_143 rfl rfl ?_
        refine pw_getr (q2 := 30) C (hM 22 _ rfl (by decide)) rfl (k := 13) (by decide) rfl fl_X5_31 dX5_mend_144 ?_
        refine pw_iconst (v := 1) C dX5_mend_147 (by decide) ?_
        refine pw_ialdc (k := 1) C (hM 30 _ rfl (by decide)) (by decide +kernel) dX5_mend_148 ?_
        refine pw_ineg C dX5_mend_149 ?_
        refine PW.eq (apply_ite (fun z_ => (fX5_mend_J165 N a1 k48 (fX5_mend_L78 N a1 k48 n) u3 u4 u5 u6 u7 (u6 - (100 * u7)) v4 z_ h)) _ _ _) ?_
        refine pw_icmp_ge (tgt := 163) C dX5_mend_150 (by decide) (fun c12 => ?_) (fun c12 => ?_)
        · refine pw_aload_n C dX5_mend_153 rfl rfl ?_
          refine pw_getr (q2 := 30) C (hM 22 _ rfl (by decide)) rfl (k := 13) (by decide) rfl fl_X5_31 dX5_mend_154 ?_
          refine pw_iconst (v := 1) C dX5_mend_157 (by decide) ?_
          refine pw_ialdc (k := 1) C (hM 30 _ rfl (by decide)) (by decide +kernel) dX5_mend_158 ?_
          refine pw_ineg C dX5_mend_159 ?_
          refine pw_goto (tgt := 165) C dX5_mend_160 (by decide) ?_
          exact pw_lv (kX5_mend_J165 C hR hN N a1 hM k48 hk48 (fX5_mend_L78 N a1 k48 n) ih u3 u4 u5 u6 u7 (u6 - (100 * u7)) v4 (-(h 30 1)) h) ⟨rfl, rfl, rfl, rfl, rfl, rfl, rfl, rfl, trivial⟩
        · refine pw_iload C dX5_mend_163 rfl ?_
          exact pw_lv (kX5_mend_J165 C hR hN N a1 hM k48 hk48 (fX5_mend_L78 N a1 k48 n) ih u3 u4 u5 u6 u7 (u6 - (100 * u7)) v4 v3 h) ⟨rfl, rfl, rfl, rfl, rfl, rfl, rfl, rfl, trivial⟩
      · refine pw_iinc (lv2 := [some (.ref (w.2.1 22)), none, none, some (.int u3), some (.int u4), some (.int (u5 + 1)), some (.int u6), some (.int u7), none, none, none, none, none, none]) C dX5_mend_289 rfl rfl hN (by decide) rfl rfl ?_
        refine pw_goto (tgt := 48) C dX5_mend_292 (by decide) ?_
        exact pw_lv (hk48 u3 u4 (u5 + 1) h) ⟨rfl, rfl, rfl, rfl, trivial⟩
set_option maxRecDepth 100000 in
set_option maxHeartbeats 4000000 in
theorem kX5_mend_L48 {w : Wd} {x : Cz} (C : Ok w x cX5_mend RX5 7) (hR : OkI w x .int) (hN : xN x = 14) (N : Nat) (a1 : Int32) (hM : LM w)  : ∀ (n : Nat) (u3 : Int32) (u4 : Int32) (u5 : Int32) (h : Hp), PW w x 48 [some (.ref (w.2.1 22)), none, none, some (.int u3), some (.int u4), some (.int u5), none, none, none, none, none, none, none, none] [] h ((fX5_mend_L48 N a1 n u3 u4 u5 h)) := by
  intro n
  induction n with
  | zero => intro u3 u4 u5 h; rw [fX5_mend_L48]; exact pw_none
  | succ n ih =>
    intro u3 u4 u5 h
    rw [fX5_mend_L48]
    refine pw_iload C dX5_mend_48 rfl ?_
    refine pw_aload_n C dX5_mend_50 rfl rfl ?_
    refine pw_getr (q2 := 29) C (hM 22 _ rfl (by decide)) rfl (k := 12) (by decide) rfl fl_X5_28 dX5_mend_51 ?_
    refine pw_iconst (v := 3) C dX5_mend_54 (by decide) ?_
    refine pw_ialdc (k := 3) C (hM 29 _ rfl (by decide)) (by decide +kernel) dX5_mend_55 ?_
    refine pw_icmp_gt (tgt := 295) C dX5_mend_56 (by decide) (fun c13 => ?_) (fun c13 => ?_)
    · refine pw_iload C dX5_mend_295 rfl ?_
      refine pw_ldc (C := C) ct_X5_226 dX5_mend_297 ?_
      refine pw_icmp_ne (tgt := 307) C dX5_mend_299 (by decide) (fun c14 => ?_) (fun c14 => ?_)
      · refine pw_bipush (v := (-4)) C dX5_mend_302 (by decide) ?_
        refine pw_goto (tgt := 309) C dX5_mend_304 (by decide) ?_
        exact pw_iret C hR dX5_mend_309
      · refine pw_iload C dX5_mend_307 rfl ?_
        exact pw_iret C hR dX5_mend_309
    · refine pw_iload_n C dX5_mend_59 rfl rfl ?_
      refine pw_sipush (v := 1000) C dX5_mend_60 (by decide) ?_
      refine pw_iload C dX5_mend_63 rfl ?_
      refine pw_imul C dX5_mend_65 ?_
      refine pw_isub C dX5_mend_66 ?_
      refine pw_istore (lv2 := [some (.ref (w.2.1 22)), none, none, some (.int u3), some (.int u4), some (.int u5), some (.int (u3 - (1000 * u5))), none, none, none, none, none, none, none]) C dX5_mend_67 hN (by decide) rfl rfl ?_
      refine pw_aload_n C dX5_mend_69 rfl rfl ?_
      refine pw_getr (q2 := 30) C (hM 22 _ rfl (by decide)) rfl (k := 13) (by decide) rfl fl_X5_31 dX5_mend_70 ?_
      refine pw_iconst (v := 2) C dX5_mend_73 (by decide) ?_
      refine pw_ialdc (k := 2) C (hM 30 _ rfl (by decide)) (by decide +kernel) dX5_mend_74 ?_
      refine pw_ineg C dX5_mend_75 ?_
      refine pw_istore (lv2 := [some (.ref (w.2.1 22)), none, none, some (.int u3), some (.int u4), some (.int u5), some (.int (u3 - (1000 * u5))), some (.int (-(h 30 2))), none, none, none, none, none, none]) C dX5_mend_76 hN (by decide) rfl rfl ?_
      exact kX5_mend_L78 C hR hN N a1 hM (fX5_mend_L48 N a1 n) ih N u3 u4 u5 (u3 - (1000 * u5)) (-(h 30 2)) h
set_option maxRecDepth 100000 in
set_option maxHeartbeats 4000000 in
theorem c_X5_mend {l : Launch} {w : Wd} {A : Nat → Prop} (N : Nat) (h : Hp) (a1 : Int32) (hM : LM w) : ConI l yX5_mend cX5_mend 14 .int 7 w A [.ref (w.2.1 22), .int a1] h ((fX5_mend N h a1)) := by
  refine ConI.of (lv0 := [some (.ref (w.2.1 22)), some (.int a1), none, none, none, none, none, none, none, none, none, none, none, none]) (by decide +kernel) (Nat.le_of_ble_eq_true rfl) rfl (fun x C hR hN => ?_)
  unfold fX5_mend
  refine pw_aload_n C dX5_mend_0 rfl rfl ?_
  refine pw_iload_n C dX5_mend_1 rfl rfl ?_
  refine pw_callVt (as := [.int a1]) (rest := []) C dX5_mend_2 ml_X5_183 cw_X5_isGroup im_X5_isGroup sl_X5_isGroup (hM 22 _ rfl (by decide)) rfl ⟨by decide, by decide⟩ (c_X5_isGroup h a1 hM) rfl rfl (Nat.le_of_ble_eq_true rfl) ?_
  refine pw_if_ne (tgt := 10) C dX5_mend_5 (by decide) (fun c15 => ?_) (fun c15 => ?_)
  · refine pw_iconst (v := (-1)) C dX5_mend_8 (by decide) ?_
    exact pw_iret C hR dX5_mend_9
  · refine pw_aload_n C dX5_mend_10 rfl rfl ?_
    refine pw_iload_n C dX5_mend_11 rfl rfl ?_
    refine pw_callVp (as := [.int a1]) (rest := []) C dX5_mend_12 ml_X5_189 cw_X5_wrongBy im_X5_wrongBy sl_X5_wrongBy (hM 22 _ rfl (by decide)) rfl ⟨by decide, by decide⟩ (c_X5_wrongBy N h a1 hM) rfl rfl (Nat.le_of_ble_eq_true rfl) (fun v1 => ?_)
    refine pw_istore_n (lv2 := [some (.ref (w.2.1 22)), some (.int a1), some (.int v1), none, none, none, none, none, none, none, none, none, none, none]) C dX5_mend_15 rfl hN (by decide) rfl rfl ?_
    refine pw_iload_n C dX5_mend_16 rfl rfl ?_
    refine pw_bipush (v := (-4)) C dX5_mend_17 (by decide) ?_
    refine pw_icmp_ne (tgt := 25) C dX5_mend_19 (by decide) (fun c16 => ?_) (fun c16 => ?_)
    · refine pw_bipush (v := (-4)) C dX5_mend_22 (by decide) ?_
      exact pw_iret C hR dX5_mend_24
    · refine pw_aload_n C dX5_mend_25 rfl rfl ?_
      refine pw_iload_n C dX5_mend_26 rfl rfl ?_
      refine pw_callVvq (as := [.int a1]) (rest := []) C dX5_mend_27 ml_X5_222 cw_X5_layRoom im_X5_layRoom sl_X5_layRoom (hM 22 _ rfl (by decide)) rfl ⟨by decide, by decide⟩ (c_X5_layRoom N h a1 hM) rfl rfl (Nat.le_of_ble_eq_true rfl) (fun z2 => ?_)
      refine pw_ldc (C := C) ct_X5_182 dX5_mend_30 ?_
      refine pw_iload_n C dX5_mend_32 rfl rfl ?_
      refine pw_isub C dX5_mend_33 ?_
      refine pw_istore_n (lv2 := [some (.ref (w.2.1 22)), some (.int a1), some (.int v1), some (.int (100000 - v1)), none, none, none, none, none, none, none, none, none, none]) C dX5_mend_34 rfl hN (by decide) rfl rfl ?_
      refine pw_ldc (C := C) ct_X5_226 dX5_mend_35 ?_
      refine pw_istore (lv2 := [some (.ref (w.2.1 22)), some (.int a1), some (.int v1), some (.int (100000 - v1)), some (.int 1000000), none, none, none, none, none, none, none, none, none]) C dX5_mend_37 hN (by decide) rfl rfl ?_
      refine pw_aload_n C dX5_mend_39 rfl rfl ?_
      refine pw_getr (q2 := 30) C (hM 22 _ rfl (by decide)) rfl (k := 13) (by decide) rfl fl_X5_31 dX5_mend_40 ?_
      refine pw_iconst (v := 3) C dX5_mend_43 (by decide) ?_
      refine pw_ialdc (k := 3) C (hM 30 _ rfl (by decide)) (by decide +kernel) dX5_mend_44 ?_
      refine pw_ineg C dX5_mend_45 ?_
      refine pw_istore (lv2 := [some (.ref (w.2.1 22)), some (.int a1), some (.int v1), some (.int (100000 - v1)), some (.int 1000000), some (.int (-(z2.2 30 3))), none, none, none, none, none, none, none, none]) C dX5_mend_46 hN (by decide) rfl rfl ?_
      exact pw_lv (kX5_mend_L48 C hR hN N a1 hM N (100000 - v1) 1000000 (-(z2.2 30 3)) z2.2) ⟨rfl, rfl, rfl, rfl, trivial⟩
