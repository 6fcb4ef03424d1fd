set_option maxRecDepth 100000 in
set_option maxHeartbeats 4000000 in
theorem kX4_year_J68 {w : Wd} {x : Cz} (C : Ok w x cX4_year RX4 4) (hR : OkI w x .int) (hN : xN x = 8) (N : Nat) (h : Hp) (a1 : Int32) (a2 : Int32) (hL : LX w) (k30 : Int32 → Int32 → Int32 → Option Int32) (hk30 : ∀ (u3 : Int32) (u4 : Int32) (u5 : Int32), PW w x 30 [some (.ref (w.2.1 0)), some (.int a1), some (.int a2), some (.int u3), some (.int u4), some (.int u5), none, none] [] h (Option.map (fun v => (v, h)) (k30 u3 u4 u5))) : ∀ (u3 : Int32) (u4 : Int32) (u5 : Int32) (t0 : Int32), PW w x 68 [some (.ref (w.2.1 0)), some (.int a1), some (.int a2), some (.int u3), some (.int u4), some (.int u5), none, none] [.int t0] h (Option.map (fun v => (v, h)) (fX4_year_J68 N h a1 a2 k30 u3 u4 u5 t0)) := by
  intro u3 u4 u5 t0
  unfold fX4_year_J68
  refine pw_istore (lv2 := [some (.ref (w.2.1 0)), some (.int a1), some (.int a2), some (.int u3), some (.int u4), some (.int u5), some (.int t0), none]) C dX4_year_68 hN (by decide) rfl rfl ?_
  refine pw_iload C dX4_year_70 rfl ?_
  refine pw_bipush (v := (-4)) C dX4_year_72 (by decide) ?_
  refine pm_icmp_eq (tgt := 125) C dX4_year_74 (by decide) (fun c4 => ?_) (fun c4 => ?_)
  · refine pw_iinc (lv2 := [some (.ref (w.2.1 0)), some (.int a1), some (.int a2), some (.int u3), some (.int u4), some (.int (u5 + 1)), some (.int t0), none]) C dX4_year_125 rfl rfl hN (by decide) rfl rfl ?_
    refine pw_goto (tgt := 30) C dX4_year_128 (by decide) ?_
    exact pw_lv (hk30 u3 u4 (u5 + 1)) ⟨rfl, rfl, rfl, rfl, rfl, rfl, trivial⟩
  · refine pw_iload C dX4_year_77 rfl ?_
    refine pw_iload_n C dX4_year_79 rfl rfl ?_
    refine pw_iload C dX4_year_80 rfl ?_
    refine pw_callSt (as := [.int a1, .int u5]) (rest := [.int t0]) C dX4_year_82 ml_X4_266 cw_X4_drawn st_X4_drawn ⟨by decide, by decide⟩ (c_X4_drawn h a1 u5) rfl rfl (Nat.le_of_ble_eq_true rfl) ?_
    refine pw_iadd C dX4_year_85 ?_
    refine pw_iconst (v := 0) C dX4_year_86 (by decide) ?_
    refine pw_mmax C (by decide) ml_X4_233 (Nat.le_of_ble_eq_true rfl) dX4_year_87 ?_
    refine pw_aload_n C dX4_year_90 rfl rfl ?_
    refine pw_getr (q2 := 6) C (hL 0 _ rfl) rfl (k := 3) (by decide) rfl fl_X4_23 dX4_year_91 ?_
    refine pw_iload C dX4_year_94 rfl ?_
    refine pw_callVt (as := [.int u5]) (rest := [.int (if (t0 + (fX4_drawn h a1 u5)) < 0 then 0 else (t0 + (fX4_drawn h a1 u5)))]) C dX4_year_96 ml_X4_161 cw_X0_mostOn im_X0_mostOn sl_X0_mostOn (hL 6 _ rfl) rfl ⟨by decide, by decide⟩ (c_X0_mostOn h 7 u5 (hL 6 _ rfl) (hL 7 _ rfl)) rfl rfl (Nat.le_of_ble_eq_true rfl) ?_
    refine pw_mmin C (by decide) ml_X4_269 (Nat.le_of_ble_eq_true rfl) dX4_year_99 ?_
    refine pm_name (fun v2 => ?_)
    refine pw_istore (lv2 := [some (.ref (w.2.1 0)), some (.int a1), some (.int a2), some (.int u3), some (.int u4), some (.int u5), some (.int t0), some (.int v2)]) C dX4_year_102 hN (by decide) rfl rfl ?_
    refine pw_iload_n C dX4_year_104 rfl rfl ?_
    refine pw_aload_n C dX4_year_105 rfl rfl ?_
    refine pw_getr (q2 := 6) C (hL 0 _ rfl) rfl (k := 3) (by decide) rfl fl_X4_23 dX4_year_106 ?_
    refine pw_iload C dX4_year_109 rfl ?_
    refine pw_iload C dX4_year_111 rfl ?_
    refine pm_callVp (as := [.int u5, .int v2]) (rest := [.int u3]) C dX4_year_113 ml_X4_164 cw_X0_workToTell im_X0_workToTell sl_X0_workToTell (hL 6 _ rfl) rfl ⟨by decide, by decide⟩ (c_X0_workToTell N h 7 u5 v2 (hL 6 _ rfl) (hL 7 _ rfl)) rfl rfl (Nat.le_of_ble_eq_true rfl) (fun v3 => ?_)
    refine pw_iadd C dX4_year_116 ?_
    refine pw_istore_n (lv2 := [some (.ref (w.2.1 0)), some (.int a1), some (.int a2), some (.int (u3 + v3)), some (.int u4), some (.int u5), some (.int t0), some (.int v2)]) C dX4_year_117 rfl hN (by decide) rfl rfl ?_
    refine pw_iload C dX4_year_118 rfl ?_
    refine pw_iload C dX4_year_120 rfl ?_
    refine pw_iadd C dX4_year_122 ?_
    refine pw_istore (lv2 := [some (.ref (w.2.1 0)), some (.int a1), some (.int a2), some (.int (u3 + v3)), some (.int (u4 + v2)), some (.int u5), some (.int t0), some (.int v2)]) C dX4_year_123 hN (by decide) rfl rfl ?_
    refine pw_iinc (lv2 := [some (.ref (w.2.1 0)), some (.int a1), some (.int a2), some (.int (u3 + v3)), some (.int (u4 + v2)), some (.int (u5 + 1)), some (.int t0), some (.int v2)]) C dX4_year_125 rfl rfl hN (by decide) rfl rfl ?_
    refine pw_goto (tgt := 30) C dX4_year_128 (by decide) ?_
    exact pw_lv (hk30 (u3 + v3) (u4 + v2) (u5 + 1)) ⟨rfl, rfl, rfl, rfl, rfl, rfl, trivial⟩
set_option maxRecDepth 100000 in
set_option maxHeartbeats 4000000 in
theorem kX4_year_L30 {w : Wd} {x : Cz} (C : Ok w x cX4_year RX4 4) (hR : OkI w x .int) (hN : xN x = 8) (N : Nat) (h : Hp) (a1 : Int32) (a2 : Int32) (hL : LX w)  : ∀ (n : Nat) (u3 : Int32) (u4 : Int32) (u5 : Int32), PW w x 30 [some (.ref (w.2.1 0)), some (.int a1), some (.int a2), some (.int u3), some (.int u4), some (.int u5), none, none] [] h (Option.map (fun v => (v, h)) (fX4_year_L30 N h a1 a2 n u3 u4 u5)) := by
  intro n
  induction n with
  | zero => intro u3 u4 u5; rw [fX4_year_L30]; exact pw_none
  | succ n ih =>
    intro u3 u4 u5
    rw [fX4_year_L30]
    refine pw_iload C dX4_year_30 rfl ?_
    refine pw_aload_n C dX4_year_32 rfl rfl ?_
    refine pw_getr (q2 := 6) C (hL 0 _ rfl) rfl (k := 3) (by decide) rfl fl_X4_23 dX4_year_33 ?_
    refine pw_callVt (as := []) (rest := [.int u5]) C dX4_year_36 ml_X4_91 cw_X0_cords im_X0_cords sl_X0_cords (hL 6 _ rfl) rfl ⟨by decide, by decide⟩ (c_X0_cords h 7 (hL 6 _ rfl) (hL 7 _ rfl)) rfl rfl (Nat.le_of_ble_eq_true rfl) ?_
    refine pm_icmp_ge (tgt := 131) C dX4_year_39 (by decide) (fun c5 => ?_) (fun c5 => ?_)
    · refine pw_aload_n C dX4_year_42 rfl rfl ?_
      refine pw_getr (q2 := 6) C (hL 0 _ rfl) rfl (k := 3) (by decide) rfl fl_X4_23 dX4_year_43 ?_
      refine pw_iload C dX4_year_46 rfl ?_
      refine pw_callVt (as := [.int u5]) (rest := []) C dX4_year_48 ml_X4_187 cw_X0_isPlainPendant im_X0_isPlainPendant sl_X0_isPlainPendant (hL 6 _ rfl) rfl ⟨by decide, by decide⟩ (c_X0_isPlainPendant h 7 u5 (hL 6 _ rfl) (hL 7 _ rfl)) rfl rfl (Nat.le_of_ble_eq_true rfl) ?_
      refine pm_if_eq (tgt := 66) C dX4_year_51 (by decide) (fun c6 => ?_) (fun c6 => ?_)
      · refine pw_bipush (v := (-4)) C dX4_year_66 (by decide) ?_
        exact kX4_year_J68 C hR hN N h a1 a2 hL (fX4_year_L30 N h a1 a2 n) ih u3 u4 u5 (-4)
      · refine pw_aload_n C dX4_year_54 rfl rfl ?_
        refine pw_getr (q2 := 6) C (hL 0 _ rfl) rfl (k := 3) (by decide) rfl fl_X4_23 dX4_year_55 ?_
        refine pw_iload C dX4_year_58 rfl ?_
        refine pm_callVp (as := [.int u5]) (rest := []) C dX4_year_60 ml_X4_120 cw_X0_valueOf im_X0_valueOf sl_X0_valueOf (hL 6 _ rfl) rfl ⟨by decide, by decide⟩ (c_X0_valueOf N h 7 u5 (hL 6 _ rfl) (hL 7 _ rfl)) rfl rfl (Nat.le_of_ble_eq_true rfl) (fun v1 => ?_)
        refine pw_goto (tgt := 68) C dX4_year_63 (by decide) ?_
        exact kX4_year_J68 C hR hN N h a1 a2 hL (fX4_year_L30 N h a1 a2 n) ih u3 u4 u5 v1
    · refine pw_iload_n C dX4_year_131 rfl rfl ?_
      refine pm_if_ne (tgt := 139) C dX4_year_132 (by decide) (fun c7 => ?_) (fun c7 => ?_)
      · refine pw_iload_n C dX4_year_135 rfl rfl ?_
        refine pw_goto (tgt := 141) C dX4_year_136 (by decide) ?_
        exact pm_iret C hR dX4_year_141
      · refine pw_iload C dX4_year_139 rfl ?_
        exact pm_iret C hR dX4_year_141
set_option maxRecDepth 100000 in
set_option maxHeartbeats 4000000 in
theorem c_X4_year {l : Launch} {w : Wd} {A : Nat → Prop} (N : Nat) (h : Hp) (a1 : Int32) (a2 : Int32) (hL : LX w) : ConI l yX4_year cX4_year 8 .int 4 w A [.ref (w.2.1 0), .int a1, .int a2] h (Option.map (fun v => (v, h)) (fX4_year N h a1 a2)) := by
  refine ConI.of (lv0 := [some (.ref (w.2.1 0)), some (.int a1), some (.int a2), none, none, none, none, none]) (by decide +kernel) (Nat.le_of_ble_eq_true rfl) rfl (fun x C hR hN => ?_)
  unfold fX4_year
  refine pw_iload_n C dX4_year_0 rfl rfl ?_
  refine pm_if_lt (tgt := 20) C dX4_year_1 (by decide) (fun c8 => ?_) (fun c8 => ?_)
  · refine pw_iconst (v := (-1)) C dX4_year_20 (by decide) ?_
    exact pm_iret C hR dX4_year_21
  · refine pw_iload_n C dX4_year_4 rfl rfl ?_
    refine pw_sipush (v := 9999) C dX4_year_5 (by decide) ?_
    refine pm_icmp_gt (tgt := 20) C dX4_year_8 (by decide) (fun c9 => ?_) (fun c9 => ?_)
    · refine pw_iconst (v := (-1)) C dX4_year_20 (by decide) ?_
      exact pm_iret C hR dX4_year_21
    · refine pw_iload_n C dX4_year_11 rfl rfl ?_
      refine pm_if_lt (tgt := 20) C dX4_year_12 (by decide) (fun c10 => ?_) (fun c10 => ?_)
      · refine pw_iconst (v := (-1)) C dX4_year_20 (by decide) ?_
        exact pm_iret C hR dX4_year_21
      · refine pw_iload_n C dX4_year_15 rfl rfl ?_
        refine pw_iconst (v := 1) C dX4_year_16 (by decide) ?_
        refine pm_icmp_le (tgt := 22) C dX4_year_17 (by decide) (fun c11 => ?_) (fun c11 => ?_)
        · refine pw_iconst (v := (-1)) C dX4_year_20 (by decide) ?_
          exact pm_iret C hR dX4_year_21
        · refine pw_iconst (v := 0) C dX4_year_22 (by decide) ?_
          refine pw_istore_n (lv2 := [some (.ref (w.2.1 0)), some (.int a1), some (.int a2), some (.int 0), none, none, none, none]) C dX4_year_23 rfl hN (by decide) rfl rfl ?_
          refine pw_iconst (v := 0) C dX4_year_24 (by decide) ?_
          refine pw_istore (lv2 := [some (.ref (w.2.1 0)), some (.int a1), some (.int a2), some (.int 0), some (.int 0), none, none, none]) C dX4_year_25 hN (by decide) rfl rfl ?_
          refine pw_iconst (v := 0) C dX4_year_27 (by decide) ?_
          refine pw_istore (lv2 := [some (.ref (w.2.1 0)), some (.int a1), some (.int a2), some (.int 0), some (.int 0), some (.int 0), none, none]) C dX4_year_28 hN (by decide) rfl rfl ?_
          exact kX4_year_L30 C hR hN N h a1 a2 hL N 0 0 0
set_option maxRecDepth 100000 in
set_option maxHeartbeats 4000000 in
theorem c_X4_count {l : Launch} {w : Wd} {A : Nat → Prop} (N : Nat) (h : Hp) (a1 : Int32) (hL : LX w) : ConI l yX4_count cX4_count 2 .int 4 w A [.ref (w.2.1 0), .int a1] h (Option.map (fun v => (v, h)) (fX4_count N h a1)) := by
  refine ConI.of (lv0 := [some (.ref (w.2.1 0)), some (.int a1)]) (by decide +kernel) (Nat.le_of_ble_eq_true rfl) rfl (fun x C hR hN => ?_)
  unfold fX4_count
  refine pw_iload_n C dX4_count_0 rfl rfl ?_
  refine pm_ite (fun e1_0 => ?_) (fun e1_0 => ?_)
  · refine pw_tsIn (tgt := 48) (off := 47) C dX4_count_1 (by rw [e1_0]; decide) (by rw [e1_0]; decide) (by rw [e1_0]; decide) (by decide) ?_
    refine pw_aload_n C dX4_count_48 rfl rfl ?_
    refine pw_getr (q2 := 6) C (hL 0 _ rfl) rfl (k := 3) (by decide) rfl fl_X4_23 dX4_count_49 ?_
    refine pw_callVt (as := []) (rest := []) C dX4_count_52 ml_X4_91 cw_X0_cords im_X0_cords sl_X0_cords (hL 6 _ rfl) rfl ⟨by decide, by decide⟩ (c_X0_cords h 7 (hL 6 _ rfl) (hL 7 _ rfl)) rfl rfl (Nat.le_of_ble_eq_true rfl) ?_
    exact pm_iret C hR dX4_count_55
  · refine pm_ite (fun e1_1 => ?_) (fun e1_1 => ?_)
    · refine pw_tsIn (tgt := 56) (off := 55) C dX4_count_1 (by rw [e1_1]; decide) (by rw [e1_1]; decide) (by rw [e1_1]; decide) (by decide) ?_
      refine pw_aload_n C dX4_count_56 rfl rfl ?_
      refine pw_getr (q2 := 6) C (hL 0 _ rfl) rfl (k := 3) (by decide) rfl fl_X4_23 dX4_count_57 ?_
      refine pw_callVt (as := []) (rest := []) C dX4_count_60 ml_X4_272 cw_X0_groups im_X0_groups sl_X0_groups (hL 6 _ rfl) rfl ⟨by decide, by decide⟩ (c_X0_groups h 7 (hL 6 _ rfl) (hL 7 _ rfl)) rfl rfl (Nat.le_of_ble_eq_true rfl) ?_
      exact pm_iret C hR dX4_count_63
    · refine pm_ite (fun e1_2 => ?_) (fun e1_2 => ?_)
      · refine pw_tsIn (tgt := 64) (off := 63) C dX4_count_1 (by rw [e1_2]; decide) (by rw [e1_2]; decide) (by rw [e1_2]; decide) (by decide) ?_
        refine pw_aload_n C dX4_count_64 rfl rfl ?_
        refine pw_getr (q2 := 6) C (hL 0 _ rfl) rfl (k := 3) (by decide) rfl fl_X4_23 dX4_count_65 ?_
        refine pm_callVp (as := []) (rest := []) C dX4_count_68 ml_X4_275 cw_X0_tops im_X0_tops sl_X0_tops (hL 6 _ rfl) rfl ⟨by decide, by decide⟩ (c_X0_tops N h 7 (hL 6 _ rfl) (hL 7 _ rfl)) rfl rfl (Nat.le_of_ble_eq_true rfl) (fun v3 => ?_)
        exact pm_iret C hR dX4_count_71
      · refine pm_ite (fun e1_3 => ?_) (fun e1_3 => ?_)
        · refine pw_tsIn (tgt := 72) (off := 71) C dX4_count_1 (by rw [e1_3]; decide) (by rw [e1_3]; decide) (by rw [e1_3]; decide) (by decide) ?_
          refine pw_aload_n C dX4_count_72 rfl rfl ?_
          refine pw_getr (q2 := 6) C (hL 0 _ rfl) rfl (k := 3) (by decide) rfl fl_X4_23 dX4_count_73 ?_
          refine pm_callVp (as := []) (rest := []) C dX4_count_76 ml_X4_278 cw_X0_wellKnotted im_X0_wellKnotted sl_X0_wellKnotted (hL 6 _ rfl) rfl ⟨by decide, by decide⟩ (c_X0_wellKnotted N h 7 (hL 6 _ rfl) (hL 7 _ rfl)) rfl rfl (Nat.le_of_ble_eq_true rfl) (fun v2 => ?_)
          exact pm_iret C hR dX4_count_79
        · refine pm_ite (fun e1_4 => ?_) (fun e1_4 => ?_)
          · refine pw_tsIn (tgt := 80) (off := 79) C dX4_count_1 (by rw [e1_4]; decide) (by rw [e1_4]; decide) (by rw [e1_4]; decide) (by decide) ?_
            refine pw_aload_n C dX4_count_80 rfl rfl ?_
            refine pw_getr (q2 := 6) C (hL 0 _ rfl) rfl (k := 3) (by decide) rfl fl_X4_23 dX4_count_81 ?_
            refine pm_callVp (as := []) (rest := []) C dX4_count_84 ml_X4_281 cw_X0_allKnots im_X0_allKnots sl_X0_allKnots (hL 6 _ rfl) rfl ⟨by decide, by decide⟩ (c_X0_allKnots N h 7 (hL 6 _ rfl) (hL 7 _ rfl)) rfl rfl (Nat.le_of_ble_eq_true rfl) (fun v1 => ?_)
            exact pm_iret C hR dX4_count_87
          · refine pm_ite (fun e1_5 => ?_) (fun e1_5 => ?_)
            · refine pw_tsIn (tgt := 88) (off := 87) C dX4_count_1 (by rw [e1_5]; decide) (by rw [e1_5]; decide) (by rw [e1_5]; decide) (by decide) ?_
              refine pw_aload_n C dX4_count_88 rfl rfl ?_
              refine pw_getr (q2 := 8) C (hL 0 _ rfl) rfl (k := 4) (by decide) rfl fl_X4_32 dX4_count_89 ?_
              refine pw_getiN C (hL 8 _ rfl) rfl (k := 2) (by decide) rfl "ToldInKnots" (by decide +kernel) dX4_count_92 ?_
              exact pm_iret C hR dX4_count_95
            · refine pm_ite (fun e1_6 => ?_) (fun e1_6 => ?_)
              · refine pw_tsIn (tgt := 96) (off := 95) C dX4_count_1 (by rw [e1_6]; decide) (by rw [e1_6]; decide) (by rw [e1_6]; decide) (by decide) ?_
                refine pw_aload_n C dX4_count_96 rfl rfl ?_
                refine pw_getr (q2 := 10) C (hL 0 _ rfl) rfl (k := 5) (by decide) rfl fl_X4_36 dX4_count_97 ?_
                refine pw_getiN C (hL 10 _ rfl) rfl (k := 2) (by decide) rfl "ToldInKnots" (by decide +kernel) dX4_count_100 ?_
                exact pm_iret C hR dX4_count_103
              · refine pm_ite (fun e1_7 => ?_) (fun e1_7 => ?_)
                · refine pw_tsIn (tgt := 104) (off := 103) C dX4_count_1 (by rw [e1_7]; decide) (by rw [e1_7]; decide) (by rw [e1_7]; decide) (by decide) ?_
                  refine pw_aload_n C dX4_count_104 rfl rfl ?_
                  refine pw_geti C (hL 0 _ rfl) rfl (k := 1) (by decide) rfl fl_X4_85 dX4_count_105 ?_
                  exact pm_iret C hR dX4_count_108
                · refine pw_tsOut (tgt := 109) C dX4_count_1 (by have := i_neN (z := 0) (by decide) e1_0; have := i_neN (z := 1) (by decide) e1_1; have := i_neN (z := 2) (by decide) e1_2; have := i_neN (z := 3) (by decide) e1_3; have := i_neN (z := 4) (by decide) e1_4; have := i_neN (z := 5) (by decide) e1_5; have := i_neN (z := 6) (by decide) e1_6; have := i_neN (z := 7) (by decide) e1_7; omega) (by decide) ?_
                  refine pw_iconst (v := (-1)) C dX4_count_109 (by decide) ?_
                  exact pm_iret C hR dX4_count_110
set_option maxRecDepth 100000 in
set_option maxHeartbeats 4000000 in
theorem kX5_fault_L29 {w : Wd} {x : Cz} (C : Ok w x cX5_fault RX5 4) (hR : OkI w x .int) (hN : xN x = 2) (N : Nat) (hM : LM w)  : ∀ (n : Nat) (u1 : Int32) (h : Hp), PW w x 29 [some (.ref (w.2.1 22)), some (.int u1)] [] h ((fX5_fault_L29 N n u1 h)) := by
  intro n
  induction n with
  | zero => intro u1 h; rw [fX5_fault_L29]; exact pw_none
  | succ n ih =>
    intro u1 h
    rw [fX5_fault_L29]
    refine pw_iload_n C dX5_fault_29 rfl rfl ?_
    refine pw_aload_n C dX5_fault_30 rfl rfl ?_
    refine pw_geti C (hM 22 _ rfl (by decide)) rfl (k := 6) (by decide) rfl fl_X5_62 dX5_fault_31 ?_
    refine pw_icmp_ge (tgt := 58) C dX5_fault_34 (by decide) (fun c5 => ?_) (fun c5 => ?_)
    · refine pw_aload_n C dX5_fault_37 rfl rfl ?_
      refine pw_aload_n C dX5_fault_38 rfl rfl ?_
      refine pw_getr (q2 := 26) C (hM 22 _ rfl (by decide)) rfl (k := 5) (by decide) rfl fl_X5_19 dX5_fault_39 ?_
      refine pw_iload_n C dX5_fault_42 rfl rfl ?_
      refine pw_ialdb C (hM 26 _ rfl (by decide)) dX5_fault_43 (fun v3 => ?_)
      refine pw_callViq (as := [.int v3]) (rest := []) C dX5_fault_44 ml_X5_115 cw_X5_takes im_X5_takes sl_X5_takes (hM 22 _ rfl (by decide)) rfl ⟨by decide, by decide⟩ (c_X5_takes N h v3 hM) rfl rfl (Nat.le_of_ble_eq_true rfl) (fun z4 => ?_)
      refine pw_if_ne (tgt := 52) C dX5_fault_47 (by decide) (fun c6 => ?_) (fun c6 => ?_)
      · refine pw_iload_n C dX5_fault_50 rfl rfl ?_
        exact pw_iret C hR dX5_fault_51
      · refine pw_iinc (lv2 := [some (.ref (w.2.1 22)), some (.int (u1 + 1))]) C dX5_fault_52 rfl rfl hN (by decide) rfl rfl ?_
        refine pw_goto (tgt := 29) C dX5_fault_55 (by decide) ?_
        exact ih (u1 + 1) z4.2
    · refine pw_aload_n C dX5_fault_58 rfl rfl ?_
      refine pw_geti C (hM 22 _ rfl (by decide)) rfl (k := 8) (by decide) rfl fl_X5_66 dX5_fault_59 ?_
      refine pw_if_ne (tgt := 70) C dX5_fault_62 (by decide) (fun c7 => ?_) (fun c7 => ?_)
      · refine pw_bipush (v := (-4)) C dX5_fault_65 (by decide) ?_
        refine pw_goto (tgt := 74) C dX5_fault_67 (by decide) ?_
        exact pw_iret C hR dX5_fault_74
      · refine pw_aload_n C dX5_fault_70 rfl rfl ?_
        refine pw_geti C (hM 22 _ rfl (by decide)) rfl (k := 6) (by decide) rfl fl_X5_62 dX5_fault_71 ?_
        exact pw_iret C hR dX5_fault_74
set_option maxRecDepth 100000 in
set_option maxHeartbeats 4000000 in
theorem kX5_fault_L2 {w : Wd} {x : Cz} (C : Ok w x cX5_fault RX5 4) (hR : OkI w x .int) (hN : xN x = 2) (N : Nat) (hM : LM w)  : ∀ (n : Nat) (u1 : Int32) (h : Hp), PW w x 2 [some (.ref (w.2.1 22)), some (.int u1)] [] h ((fX5_fault_L2 N n u1 h)) := by
  intro n
  induction n with
  | zero => intro u1 h; rw [fX5_fault_L2]; exact pw_none
  | succ n ih =>
    intro u1 h
    rw [fX5_fault_L2]
    refine pw_iload_n C dX5_fault_2 rfl rfl ?_
    refine pw_sipush (v := 162) C dX5_fault_3 (by decide) ?_
    refine pw_icmp_ge (tgt := 22) C dX5_fault_6 (by decide) (fun c8 => ?_) (fun c8 => ?_)
    · refine pw_aload_n C dX5_fault_9 rfl rfl ?_
      refine pw_getr (q2 := 27) C (hM 22 _ rfl (by decide)) rfl (k := 7) (by decide) rfl fl_X5_22 dX5_fault_10 ?_
      refine pw_iload_n C dX5_fault_13 rfl rfl ?_
      refine pw_iconst (v := 0) C dX5_fault_14 (by decide) ?_
      refine pw_iast C (hM 27 _ rfl (by decide)) dX5_fault_15 ?_
      refine pw_nameh (fun g1 => ?_)
      refine pw_iinc (lv2 := [some (.ref (w.2.1 22)), some (.int (u1 + 1))]) C dX5_fault_16 rfl rfl hN (by decide) rfl rfl ?_
      refine pw_goto (tgt := 2) C dX5_fault_19 (by decide) ?_
      exact ih (u1 + 1) g1
    · refine pw_aload_n C dX5_fault_22 rfl rfl ?_
      refine pw_iconst (v := 0) C dX5_fault_23 (by decide) ?_
      refine pw_puti C (hM 22 _ rfl (by decide)) rfl (k := 8) (by decide) rfl fl_X5_66 dX5_fault_24 rfl (by decide) ?_
      refine pw_nameh (fun g2 => ?_)
      refine pw_iconst (v := 0) C dX5_fault_27 (by decide) ?_
      refine pw_istore_n (lv2 := [some (.ref (w.2.1 22)), some (.int 0)]) C dX5_fault_28 rfl hN (by decide) rfl rfl ?_
      exact kX5_fault_L29 C hR hN N hM N 0 g2
set_option maxRecDepth 100000 in
set_option maxHeartbeats 4000000 in
theorem c_X5_fault {l : Launch} {w : Wd} {A : Nat → Prop} (N : Nat) (h : Hp) (hM : LM w) : ConI l yX5_fault cX5_fault 2 .int 4 w A [.ref (w.2.1 22)] h ((fX5_fault N h)) := by
  refine ConI.of (lv0 := [some (.ref (w.2.1 22)), none]) (by decide +kernel) (Nat.le_of_ble_eq_true rfl) rfl (fun x C hR hN => ?_)
  unfold fX5_fault
  refine pw_iconst (v := 0) C dX5_fault_0 (by decide) ?_
  refine pw_istore_n (lv2 := [some (.ref (w.2.1 22)), some (.int 0)]) C dX5_fault_1 rfl hN (by decide) rfl rfl ?_
  exact kX5_fault_L2 C hR hN N hM N 0 h
set_option maxRecDepth 100000 in
set_option maxHeartbeats 4000000 in
theorem c_X5_whole {l : Launch} {w : Wd} {A : Nat → Prop} (N : Nat) (h : Hp) (a1 : Int32) (hM : LM w) : ConI l yX5_whole cX5_whole 2 .int 4 w A [.ref (w.2.1 22), .int a1] h (Option.map (fun v => (v, h)) (fX5_whole N h a1)) := by
  refine ConI.of (lv0 := [some (.ref (w.2.1 22)), some (.int a1)]) (by decide +kernel) (Nat.le_of_ble_eq_true rfl) rfl (fun x C hR hN => ?_)
  unfold fX5_whole
  refine pw_aload_n C dX5_whole_0 rfl rfl ?_
  refine pw_iload_n C dX5_whole_1 rfl rfl ?_
  refine pm_callVp (as := [.int a1]) (rest := []) C dX5_whole_2 ml_X5_146 cw_X5_value im_X5_value sl_X5_value (hM 22 _ rfl (by decide)) rfl ⟨by decide, by decide⟩ (c_X5_value N h a1 hM) rfl rfl (Nat.le_of_ble_eq_true rfl) (fun v1 => ?_)
  refine pw_bipush (v := (-4)) C dX5_whole_5 (by decide) ?_
  refine pm_icmp_eq (tgt := 20) C dX5_whole_7 (by decide) (fun c5 => ?_) (fun c5 => ?_)
  · refine pw_bipush (v := (-4)) C dX5_whole_20 (by decide) ?_
    refine pw_goto (tgt := 36) C dX5_whole_22 (by decide) ?_
    exact pm_iret C hR dX5_whole_36
  · refine pw_aload_n C dX5_whole_10 rfl rfl ?_
    refine pw_iload_n C dX5_whole_11 rfl rfl ?_
    refine pm_callVp (as := [.int a1]) (rest := []) C dX5_whole_12 ml_X5_150 cw_X5_beneath im_X5_beneath sl_X5_beneath (hM 22 _ rfl (by decide)) rfl ⟨by decide, by decide⟩ (c_X5_beneath N h a1 hM) rfl rfl (Nat.le_of_ble_eq_true rfl) (fun v2 => ?_)
    refine pw_bipush (v := (-4)) C dX5_whole_15 (by decide) ?_
    refine pm_icmp_ne (tgt := 25) C dX5_whole_17 (by decide) (fun c6 => ?_) (fun c6 => ?_)
    · refine pw_bipush (v := (-4)) C dX5_whole_20 (by decide) ?_
      refine pw_goto (tgt := 36) C dX5_whole_22 (by decide) ?_
      exact pm_iret C hR dX5_whole_36
    · refine pw_aload_n C dX5_whole_25 rfl rfl ?_
      refine pw_iload_n C dX5_whole_26 rfl rfl ?_
      refine pm_callVp (as := [.int a1]) (rest := []) C dX5_whole_27 ml_X5_146 cw_X5_value im_X5_value sl_X5_value (hM 22 _ rfl (by decide)) rfl ⟨by decide, by decide⟩ (c_X5_value N h a1 hM) rfl rfl (Nat.le_of_ble_eq_true rfl) (fun v3 => ?_)
      refine pw_aload_n C dX5_whole_30 rfl rfl ?_
      refine pw_iload_n C dX5_whole_31 rfl rfl ?_
      refine pm_callVp (as := [.int a1]) (rest := [.int v3]) C dX5_whole_32 ml_X5_150 cw_X5_beneath im_X5_beneath sl_X5_beneath (hM 22 _ rfl (by decide)) rfl ⟨by decide, by decide⟩ (c_X5_beneath N h a1 hM) rfl rfl (Nat.le_of_ble_eq_true rfl) (fun v4 => ?_)
      refine pw_iadd C dX5_whole_35 ?_
      exact pm_iret C hR dX5_whole_36
set_option maxRecDepth 100000 in
set_option maxHeartbeats 4000000 in
theorem c_X5_pendant {l : Launch} {w : Wd} {A : Nat → Prop} (N : Nat) (h : Hp) (a1 : Int32) (a2 : Int32) (hM : LM w) : ConI l yX5_pendant cX5_pendant 3 .int 4 w A [.ref (w.2.1 22), .int a1, .int a2] h (Option.map (fun v => (v, h)) (fX5_pendant N h a1 a2)) := by
  refine ConI.of (lv0 := [some (.ref (w.2.1 22)), some (.int a1), some (.int a2)]) (by decide +kernel) (Nat.le_of_ble_eq_true rfl) rfl (fun x C hR hN => ?_)
  unfold fX5_pendant
  refine pw_aload_n C dX5_pendant_0 rfl rfl ?_
  refine pw_iload_n C dX5_pendant_1 rfl rfl ?_
  refine pw_callVt (as := [.int a1]) (rest := []) C dX5_pendant_2 ml_X5_183 cw_X5_isGroup im_X5_isGroup sl_X5_isGroup (hM 22 _ rfl (by decide)) rfl ⟨by decide, by decide⟩ (c_X5_isGroup h a1 hM) rfl rfl (Nat.le_of_ble_eq_true rfl) ?_
  refine pm_if_eq (tgt := 21) C dX5_pendant_5 (by decide) (fun c2 => ?_) (fun c2 => ?_)
  · refine pw_iconst (v := (-1)) C dX5_pendant_21 (by decide) ?_
    exact pm_iret C hR dX5_pendant_22
  · refine pw_iload_n C dX5_pendant_8 rfl rfl ?_
    refine pm_if_lt (tgt := 21) C dX5_pendant_9 (by decide) (fun c3 => ?_) (fun c3 => ?_)
    · refine pw_iconst (v := (-1)) C dX5_pendant_21 (by decide) ?_
      exact pm_iret C hR dX5_pendant_22
    · refine pw_aload_n C dX5_pendant_12 rfl rfl ?_
      refine pw_iload_n C dX5_pendant_13 rfl rfl ?_
      refine pw_iload_n C dX5_pendant_14 rfl rfl ?_
      refine pm_callVp (as := [.int a1, .int a2]) (rest := []) C dX5_pendant_15 ml_X5_192 cw_X5_pendantAt im_X5_pendantAt sl_X5_pendantAt (hM 22 _ rfl (by decide)) rfl ⟨by decide, by decide⟩ (c_X5_pendantAt N h a1 a2 hM) rfl rfl (Nat.le_of_ble_eq_true rfl) (fun v1 => ?_)
      refine pw_goto (tgt := 22) C dX5_pendant_18 (by decide) ?_
      exact pm_iret C hR dX5_pendant_22
set_option maxRecDepth 100000 in
set_option maxHeartbeats 4000000 in
theorem kX5_hang_J109 {w : Wd} {x : Cz} (C : Ok w x cX5_hang RX5 4) (hR : OkI w x .int) (hN : xN x = 5) (N : Nat) (a1 : Int32) (a2 : Int32) (hM : LM w) (k68 : Int32 → Int32 → Hp → Option Rs) (hk68 : ∀ (u3 : Int32) (u4 : Int32) (h : Hp), PW w x 68 [some (.ref (w.2.1 22)), some (.int a1), some (.int a2), some (.int u3), some (.int u4)] [] h ((k68 u3 u4 h))) : ∀ (u4 : Int32) (t0 : Int32) (h : Hp), PW w x 109 [some (.ref (w.2.1 22)), some (.int a1), some (.int a2), none, some (.int u4)] [.int t0] h ((fX5_hang_J109 N a1 a2 k68 u4 t0 h)) := by
  intro u4 t0 h
  unfold fX5_hang_J109
  refine pw_istore_n (lv2 := [some (.ref (w.2.1 22)), some (.int a1), some (.int a2), some (.int t0), some (.int u4)]) C dX5_hang_109 rfl hN (by decide) rfl rfl ?_
  refine pw_aload_n C dX5_hang_110 rfl rfl ?_
  refine pw_getr (q2 := 23) C (hM 22 _ rfl (by decide)) rfl (k := 0) (by decide) rfl fl_X5_7 dX5_hang_111 ?_
  refine pw_bipush (v := 114) C dX5_hang_114 (by decide) ?_
  refine pw_iload C dX5_hang_116 rfl ?_
  refine pw_iadd C dX5_hang_118 ?_
  refine pw_aload_n C dX5_hang_119 rfl rfl ?_
  refine pw_iload C dX5_hang_120 rfl ?_
  refine pw_iload_n C dX5_hang_122 rfl rfl ?_
  refine pw_callVp (as := [.int u4, .int a1]) (rest := [.int (114 + u4), .ref (w.2.1 23)]) C dX5_hang_123 ml_X5_142 cw_X5_isUnder im_X5_isUnder sl_X5_isUnder (hM 22 _ rfl (by decide)) rfl ⟨by decide, by decide⟩ (c_X5_isUnder h u4 a1 hM) rfl rfl (Nat.le_of_ble_eq_true rfl) (fun v11 => ?_)
  refine pw_if_eq (tgt := 133) C dX5_hang_126 (by decide) (fun c15 => ?_) (fun c15 => ?_)
  · refine pw_aload_n C dX5_hang_133 rfl rfl ?_
    refine pw_getr (q2 := 23) C (hM 22 _ rfl (by decide)) rfl (k := 0) (by decide) rfl fl_X5_7 dX5_hang_134 ?_
    refine pw_bipush (v := 114) C dX5_hang_137 (by decide) ?_
    refine pw_iload C dX5_hang_139 rfl ?_
    refine pw_iadd C dX5_hang_141 ?_
    refine pw_ialdb C (hM 23 _ rfl (by decide)) dX5_hang_142 (fun v12 => ?_)
    refine pw_iast C (hM 23 _ rfl (by decide)) dX5_hang_143 ?_
    refine pw_nameh (fun g13 => ?_)
    refine pw_iinc (lv2 := [some (.ref (w.2.1 22)), some (.int a1), some (.int a2), some (.int t0), some (.int (u4 + 1))]) C dX5_hang_144 rfl rfl hN (by decide) rfl rfl ?_
    refine pw_goto (tgt := 68) C dX5_hang_147 (by decide) ?_
    exact hk68 t0 (u4 + 1) g13
  · refine pw_iload_n C dX5_hang_129 rfl rfl ?_
    refine pw_goto (tgt := 143) C dX5_hang_130 (by decide) ?_
    refine pw_iast C (hM 23 _ rfl (by decide)) dX5_hang_143 ?_
    refine pw_nameh (fun g14 => ?_)
    refine pw_iinc (lv2 := [some (.ref (w.2.1 22)), some (.int a1), some (.int a2), some (.int t0), some (.int (u4 + 1))]) C dX5_hang_144 rfl rfl hN (by decide) rfl rfl ?_
    refine pw_goto (tgt := 68) C dX5_hang_147 (by decide) ?_
    exact hk68 t0 (u4 + 1) g14
set_option maxRecDepth 100000 in
set_option maxHeartbeats 4000000 in
theorem kX5_hang_L68 {w : Wd} {x : Cz} (C : Ok w x cX5_hang RX5 4) (hR : OkI w x .int) (hN : xN x = 5) (N : Nat) (a1 : Int32) (a2 : Int32) (hM : LM w)  : ∀ (n : Nat) (u3 : Int32) (u4 : Int32) (h : Hp), PW w x 68 [some (.ref (w.2.1 22)), some (.int a1), some (.int a2), some (.int u3), some (.int u4)] [] h ((fX5_hang_L68 N a1 a2 n u3 u4 h)) := by
  intro n
  induction n with
  | zero => intro u3 u4 h; rw [fX5_hang_L68]; exact pw_none
  | succ n ih =>
    intro u3 u4 h
    rw [fX5_hang_L68]
    refine pw_iload C dX5_hang_68 rfl ?_
    refine pw_aload_n C dX5_hang_70 rfl rfl ?_
    refine pw_getr (q2 := 23) C (hM 22 _ rfl (by decide)) rfl (k := 0) (by decide) rfl fl_X5_7 dX5_hang_71 ?_
    refine pw_iconst (v := 0) C dX5_hang_74 (by decide) ?_
    refine pw_ialdc (k := 0) C (hM 23 _ rfl (by decide)) (by decide +kernel) dX5_hang_75 ?_
    refine pw_icmp_ge (tgt := 150) C dX5_hang_76 (by decide) (fun c16 => ?_) (fun c16 => ?_)
    · refine pw_aload_n C dX5_hang_79 rfl rfl ?_
      refine pw_getr (q2 := 23) C (hM 22 _ rfl (by decide)) rfl (k := 0) (by decide) rfl fl_X5_7 dX5_hang_80 ?_
      refine pw_sipush (v := 146) C dX5_hang_83 (by decide) ?_
      refine pw_iload C dX5_hang_86 rfl ?_
      refine pw_iadd C dX5_hang_88 ?_
      refine pw_ialdb C (hM 23 _ rfl (by decide)) dX5_hang_89 (fun v6 => ?_)
      refine pw_iload_n C dX5_hang_90 rfl rfl ?_
      refine pw_icmp_le (tgt := 108) C dX5_hang_91 (by decide) (fun c17 => ?_) (fun c17 => ?_)
      · refine pw_aload_n C dX5_hang_94 rfl rfl ?_
        refine pw_getr (q2 := 23) C (hM 22 _ rfl (by decide)) rfl (k := 0) (by decide) rfl fl_X5_7 dX5_hang_95 ?_
        refine pw_sipush (v := 146) C dX5_hang_98 (by decide) ?_
        refine pw_iload C dX5_hang_101 rfl ?_
        refine pw_iadd C dX5_hang_103 ?_
        refine pw_ialdb C (hM 23 _ rfl (by decide)) dX5_hang_104 (fun v7 => ?_)
        refine pw_goto (tgt := 109) C dX5_hang_105 (by decide) ?_
        exact pw_lv (kX5_hang_J109 C hR hN N a1 a2 hM (fX5_hang_L68 N a1 a2 n) ih u4 v7 h) ⟨rfl, rfl, rfl, rfl, trivial⟩
      · refine pw_iload_n C dX5_hang_108 rfl rfl ?_
        exact pw_lv (kX5_hang_J109 C hR hN N a1 a2 hM (fX5_hang_L68 N a1 a2 n) ih u4 u3 h) ⟨rfl, rfl, rfl, rfl, trivial⟩
    · refine pw_aload_n C dX5_hang_150 rfl rfl ?_
      refine pw_getr (q2 := 23) C (hM 22 _ rfl (by decide)) rfl (k := 0) (by decide) rfl fl_X5_7 dX5_hang_151 ?_
      refine pw_bipush (v := 114) C dX5_hang_154 (by decide) ?_
      refine pw_iload_n C dX5_hang_156 rfl rfl ?_
      refine pw_iadd C dX5_hang_157 ?_
      refine pw_iload_n C dX5_hang_158 rfl rfl ?_
      refine pw_iast C (hM 23 _ rfl (by decide)) dX5_hang_159 ?_
      refine pw_nameh (fun g8 => ?_)
      refine pw_aload_n C dX5_hang_160 rfl rfl ?_
      refine pw_getr (q2 := 23) C (hM 22 _ rfl (by decide)) rfl (k := 0) (by decide) rfl fl_X5_7 dX5_hang_161 ?_
      refine pw_sipush (v := 146) C dX5_hang_164 (by decide) ?_
      refine pw_iload_n C dX5_hang_167 rfl rfl ?_
      refine pw_iadd C dX5_hang_168 ?_
      refine pw_iload_n C dX5_hang_169 rfl rfl ?_
      refine pw_iconst (v := 1) C dX5_hang_170 (by decide) ?_
      refine pw_iadd C dX5_hang_171 ?_
      refine pw_iast C (hM 23 _ rfl (by decide)) dX5_hang_172 ?_
      refine pw_nameh (fun g9 => ?_)
      refine pw_aload_n C dX5_hang_173 rfl rfl ?_
      refine pw_iload_n C dX5_hang_174 rfl rfl ?_
      refine pw_callVp (as := [.int a2]) (rest := []) C dX5_hang_175 ml_X5_186 cw_X5_manyOf im_X5_manyOf sl_X5_manyOf (hM 22 _ rfl (by decide)) rfl ⟨by decide, by decide⟩ (c_X5_manyOf N g9 a2 hM) rfl rfl (Nat.le_of_ble_eq_true rfl) (fun v10 => ?_)
      exact pw_iret C hR dX5_hang_178
set_option maxRecDepth 100000 in
set_option maxHeartbeats 4000000 in
theorem c_X5_hang {l : Launch} {w : Wd} {A : Nat → Prop} (N : Nat) (h : Hp) (a1 : Int32) (a2 : Int32) (hM : LM w) : ConI l yX5_hang cX5_hang 5 .int 4 w A [.ref (w.2.1 22), .int a1, .int a2] h ((fX5_hang N h a1 a2)) := by
  refine ConI.of (lv0 := [some (.ref (w.2.1 22)), some (.int a1), some (.int a2), none, none]) (by decide +kernel) (Nat.le_of_ble_eq_true rfl) rfl (fun x C hR hN => ?_)
  unfold fX5_hang
  refine pw_aload_n C dX5_hang_0 rfl rfl ?_
  refine pw_iload_n C dX5_hang_1 rfl rfl ?_
  refine pw_callVt (as := [.int a1]) (rest := []) C dX5_hang_2 ml_X5_156 cw_X5_isCord im_X5_isCord sl_X5_isCord (hM 22 _ rfl (by decide)) rfl ⟨by decide, by decide⟩ (c_X5_isCord h a1 hM) rfl rfl (Nat.le_of_ble_eq_true rfl) ?_
  refine pw_if_eq (tgt := 16) C dX5_hang_5 (by decide) (fun c18 => ?_) (fun c18 => ?_)
  · refine pw_iconst (v := (-1)) C dX5_hang_16 (by decide) ?_
    exact pw_iret C hR dX5_hang_17
  · refine pw_aload_n C dX5_hang_8 rfl rfl ?_
    refine pw_iload_n C dX5_hang_9 rfl rfl ?_
    refine pw_callVt (as := [.int a2]) (rest := []) C dX5_hang_10 ml_X5_183 cw_X5_isGroup im_X5_isGroup sl_X5_isGroup (hM 22 _ rfl (by decide)) rfl ⟨by decide, by decide⟩ (c_X5_isGroup h a2 hM) rfl rfl (Nat.le_of_ble_eq_true rfl) ?_
    refine pw_if_ne (tgt := 18) C dX5_hang_13 (by decide) (fun c19 => ?_) (fun c19 => ?_)
    · refine pw_iconst (v := (-1)) C dX5_hang_16 (by decide) ?_
      exact pw_iret C hR dX5_hang_17
    · refine pw_aload_n C dX5_hang_18 rfl rfl ?_
      refine pw_iload_n C dX5_hang_19 rfl rfl ?_
      refine pw_callVp (as := [.int a1]) (rest := []) C dX5_hang_20 ml_X5_170 cw_X5_isPlain im_X5_isPlain sl_X5_isPlain (hM 22 _ rfl (by decide)) rfl ⟨by decide, by decide⟩ (c_X5_isPlain h a1 hM) rfl rfl (Nat.le_of_ble_eq_true rfl) (fun v1 => ?_)
      refine pw_if_eq (tgt := 56) C dX5_hang_23 (by decide) (fun c20 => ?_) (fun c20 => ?_)
      · refine pw_bipush (v := (-2)) C dX5_hang_56 (by decide) ?_
        exact pw_iret C hR dX5_hang_58
      · refine pw_aload_n C dX5_hang_26 rfl rfl ?_
        refine pw_aload_n C dX5_hang_27 rfl rfl ?_
        refine pw_getr (q2 := 23) C (hM 22 _ rfl (by decide)) rfl (k := 0) (by decide) rfl fl_X5_7 dX5_hang_28 ?_
        refine pw_bipush (v := 114) C dX5_hang_31 (by decide) ?_
        refine pw_iload_n C dX5_hang_33 rfl rfl ?_
        refine pw_iadd C dX5_hang_34 ?_
        refine pw_ialdb C (hM 23 _ rfl (by decide)) dX5_hang_35 (fun v2 => ?_)
        refine pw_callVp (as := [.int v2]) (rest := []) C dX5_hang_36 ml_X5_186 cw_X5_manyOf im_X5_manyOf sl_X5_manyOf (hM 22 _ rfl (by decide)) rfl ⟨by decide, by decide⟩ (c_X5_manyOf N h v2 hM) rfl rfl (Nat.le_of_ble_eq_true rfl) (fun v3 => ?_)
        refine pw_iconst (v := 1) C dX5_hang_39 (by decide) ?_
        refine pw_icmp_eq (tgt := 56) C dX5_hang_40 (by decide) (fun c21 => ?_) (fun c21 => ?_)
        · refine pw_bipush (v := (-2)) C dX5_hang_56 (by decide) ?_
          exact pw_iret C hR dX5_hang_58
        · refine pw_aload_n C dX5_hang_43 rfl rfl ?_
          refine pw_getr (q2 := 23) C (hM 22 _ rfl (by decide)) rfl (k := 0) (by decide) rfl fl_X5_7 dX5_hang_44 ?_
          refine pw_bipush (v := 114) C dX5_hang_47 (by decide) ?_
          refine pw_iload_n C dX5_hang_49 rfl rfl ?_
          refine pw_iadd C dX5_hang_50 ?_
          refine pw_ialdb C (hM 23 _ rfl (by decide)) dX5_hang_51 (fun v4 => ?_)
          refine pw_iload_n C dX5_hang_52 rfl rfl ?_
          refine pw_icmp_ne (tgt := 59) C dX5_hang_53 (by decide) (fun c22 => ?_) (fun c22 => ?_)
          · refine pw_bipush (v := (-2)) C dX5_hang_56 (by decide) ?_
            exact pw_iret C hR dX5_hang_58
          · refine pw_aload_n C dX5_hang_59 rfl rfl ?_
            refine pw_callVvq (as := []) (rest := []) C dX5_hang_60 ml_X5_198 cw_X5_remember im_X5_remember sl_X5_remember (hM 22 _ rfl (by decide)) rfl ⟨by decide, by decide⟩ (c_X5_remember N h hM) rfl rfl (Nat.le_of_ble_eq_true rfl) (fun z5 => ?_)
            refine pw_iconst (v := 0) C dX5_hang_63 (by decide) ?_
            refine pw_istore_n (lv2 := [some (.ref (w.2.1 22)), some (.int a1), some (.int a2), some (.int 0), none]) C dX5_hang_64 rfl hN (by decide) rfl rfl ?_
            refine pw_iconst (v := 0) C dX5_hang_65 (by decide) ?_
            refine pw_istore (lv2 := [some (.ref (w.2.1 22)), some (.int a1), some (.int a2), some (.int 0), some (.int 0)]) C dX5_hang_66 hN (by decide) rfl rfl ?_
            exact kX5_hang_L68 C hR hN N a1 a2 hM N 0 0 z5.2
set_option maxRecDepth 100000 in
set_option maxHeartbeats 4000000 in
theorem kX5_order_L71 {w : Wd} {x : Cz} (C : Ok w x cX5_order RX5 4) (hR : OkI w x .int) (hN : xN x = 6) (N : Nat) (a1 : Int32) (hM : LM w) (k21 : Int32 → Int32 → Int32 → Hp → Option Rs) (hk21 : ∀ (u2 : Int32) (u3 : Int32) (u4 : Int32) (h : Hp), PW w x 21 [some (.ref (w.2.1 22)), some (.int a1), some (.int u2), some (.int u3), some (.int u4), none] [] h ((k21 u2 u3 u4 h))) : ∀ (n : Nat) (u2 : Int32) (u3 : Int32) (u4 : Int32) (u5 : Int32) (h : Hp), PW w x 71 [some (.ref (w.2.1 22)), some (.int a1), some (.int u2), some (.int u3), some (.int u4), some (.int u5)] [] h ((fX5_order_L71 N a1 k21 n u2 u3 u4 u5 h)) := by
  intro n
  induction n with
  | zero => intro u2 u3 u4 u5 h; rw [fX5_order_L71]; exact pw_none
  | succ n ih =>
    intro u2 u3 u4 u5 h
    rw [fX5_order_L71]
    refine pw_iload C dX5_order_71 rfl ?_
    refine pw_iload C dX5_order_73 rfl ?_
    refine pw_icmp_ge (tgt := 146) C dX5_order_75 (by decide) (fun c19 => ?_) (fun c19 => ?_)
    · refine pw_aload_n C dX5_order_78 rfl rfl ?_
      refine pw_getr (q2 := 33) C (hM 22 _ rfl (by decide)) rfl (k := 16) (by decide) rfl fl_X5_40 dX5_order_79 ?_
      refine pw_iload C dX5_order_82 rfl ?_
      refine pw_aload_n C dX5_order_84 rfl rfl ?_
      refine pw_getr (q2 := 32) C (hM 22 _ rfl (by decide)) rfl (k := 15) (by decide) rfl fl_X5_37 dX5_order_85 ?_
      refine pw_iload C dX5_order_88 rfl ?_
      refine pw_ialdb C (hM 32 _ rfl (by decide)) dX5_order_90 (fun v7 => ?_)
      refine pw_aload_n C dX5_order_91 rfl rfl ?_
      refine pw_getr (q2 := 32) C (hM 22 _ rfl (by decide)) rfl (k := 15) (by decide) rfl fl_X5_37 dX5_order_92 ?_
      refine pw_iload C dX5_order_95 rfl ?_
      refine pw_ialdb C (hM 32 _ rfl (by decide)) dX5_order_97 (fun v8 => ?_)
      refine pw_icmp_gt (tgt := 132) C dX5_order_98 (by decide) (fun c20 => ?_) (fun c20 => ?_)
      · refine pw_aload_n C dX5_order_132 rfl rfl ?_
        refine pw_getr (q2 := 33) C (hM 22 _ rfl (by decide)) rfl (k := 16) (by decide) rfl fl_X5_40 dX5_order_133 ?_
        refine pw_iload C dX5_order_136 rfl ?_
        refine pw_ialdb C (hM 33 _ rfl (by decide)) dX5_order_138 (fun v9 => ?_)
        refine pw_iast C (hM 33 _ rfl (by decide)) dX5_order_139 ?_
        refine pw_nameh (fun g10 => ?_)
        refine pw_iinc (lv2 := [some (.ref (w.2.1 22)), some (.int a1), some (.int u2), some (.int u3), some (.int u4), some (.int (u5 + 1))]) C dX5_order_140 rfl rfl hN (by decide) rfl rfl ?_
        refine pw_goto (tgt := 71) C dX5_order_143 (by decide) ?_
        exact ih u2 u3 u4 (u5 + 1) g10
      · refine pw_aload_n C dX5_order_101 rfl rfl ?_
        refine pw_getr (q2 := 33) C (hM 22 _ rfl (by decide)) rfl (k := 16) (by decide) rfl fl_X5_40 dX5_order_102 ?_
        refine pw_iload C dX5_order_105 rfl ?_
        refine pw_ialdb C (hM 33 _ rfl (by decide)) dX5_order_107 (fun v11 => ?_)
        refine pw_iconst (v := 1) C dX5_order_108 (by decide) ?_
        refine pw_iadd C dX5_order_109 ?_
        refine pw_aload_n C dX5_order_110 rfl rfl ?_
        refine pw_getr (q2 := 33) C (hM 22 _ rfl (by decide)) rfl (k := 16) (by decide) rfl fl_X5_40 dX5_order_111 ?_
        refine pw_iload C dX5_order_114 rfl ?_
        refine pw_ialdb C (hM 33 _ rfl (by decide)) dX5_order_116 (fun v12 => ?_)
        refine pw_icmp_le (tgt := 132) C dX5_order_117 (by decide) (fun c21 => ?_) (fun c21 => ?_)
        · refine pw_aload_n C dX5_order_120 rfl rfl ?_
          refine pw_getr (q2 := 33) C (hM 22 _ rfl (by decide)) rfl (k := 16) (by decide) rfl fl_X5_40 dX5_order_121 ?_
          refine pw_iload C dX5_order_124 rfl ?_
          refine pw_ialdb C (hM 33 _ rfl (by decide)) dX5_order_126 (fun v13 => ?_)
          refine pw_iconst (v := 1) C dX5_order_127 (by decide) ?_
          refine pw_iadd C dX5_order_128 ?_
          refine pw_goto (tgt := 139) C dX5_order_129 (by decide) ?_
          refine pw_iast C (hM 33 _ rfl (by decide)) dX5_order_139 ?_
          refine pw_nameh (fun g14 => ?_)
          refine pw_iinc (lv2 := [some (.ref (w.2.1 22)), some (.int a1), some (.int u2), some (.int u3), some (.int u4), some (.int (u5 + 1))]) C dX5_order_140 rfl rfl hN (by decide) rfl rfl ?_
          refine pw_goto (tgt := 71) C dX5_order_143 (by decide) ?_
          exact ih u2 u3 u4 (u5 + 1) g14
        · refine pw_aload_n C dX5_order_132 rfl rfl ?_
          refine pw_getr (q2 := 33) C (hM 22 _ rfl (by decide)) rfl (k := 16) (by decide) rfl fl_X5_40 dX5_order_133 ?_
          refine pw_iload C dX5_order_136 rfl ?_
          refine pw_ialdb C (hM 33 _ rfl (by decide)) dX5_order_138 (fun v15 => ?_)
          refine pw_iast C (hM 33 _ rfl (by decide)) dX5_order_139 ?_
          refine pw_nameh (fun g16 => ?_)
          refine pw_iinc (lv2 := [some (.ref (w.2.1 22)), some (.int a1), some (.int u2), some (.int u3), some (.int u4), some (.int (u5 + 1))]) C dX5_order_140 rfl rfl hN (by decide) rfl rfl ?_
          refine pw_goto (tgt := 71) C dX5_order_143 (by decide) ?_
          exact ih u2 u3 u4 (u5 + 1) g16
    · refine pw_aload_n C dX5_order_146 rfl rfl ?_
      refine pw_getr (q2 := 33) C (hM 22 _ rfl (by decide)) rfl (k := 16) (by decide) rfl fl_X5_40 dX5_order_147 ?_
      refine pw_iload C dX5_order_150 rfl ?_
      refine pw_ialdb C (hM 33 _ rfl (by decide)) dX5_order_152 (fun v17 => ?_)
      refine pw_iload_n C dX5_order_153 rfl rfl ?_
      refine pw_icmp_le (tgt := 167) C dX5_order_154 (by decide) (fun c22 => ?_) (fun c22 => ?_)
      · refine pw_aload_n C dX5_order_157 rfl rfl ?_
        refine pw_getr (q2 := 33) C (hM 22 _ rfl (by decide)) rfl (k := 16) (by decide) rfl fl_X5_40 dX5_order_158 ?_
        refine pw_iload C dX5_order_161 rfl ?_
        refine pw_ialdb C (hM 33 _ rfl (by decide)) dX5_order_163 (fun v18 => ?_)
        refine pw_goto (tgt := 168) C dX5_order_164 (by decide) ?_
        refine pw_istore_n (lv2 := [some (.ref (w.2.1 22)), some (.int a1), some (.int u2), some (.int v18), some (.int u4), some (.int u5)]) C dX5_order_168 rfl hN (by decide) rfl rfl ?_
        refine pw_iinc (lv2 := [some (.ref (w.2.1 22)), some (.int a1), some (.int u2), some (.int v18), some (.int (u4 + 1)), some (.int u5)]) C dX5_order_169 rfl rfl hN (by decide) rfl rfl ?_
        refine pw_goto (tgt := 21) C dX5_order_172 (by decide) ?_
        exact pw_lv (hk21 u2 v18 (u4 + 1) h) ⟨rfl, rfl, rfl, rfl, rfl, trivial⟩
      · refine pw_iload_n C dX5_order_167 rfl rfl ?_
        refine pw_istore_n (lv2 := [some (.ref (w.2.1 22)), some (.int a1), some (.int u2), some (.int u3), some (.int u4), some (.int u5)]) C dX5_order_168 rfl hN (by decide) rfl rfl ?_
        refine pw_iinc (lv2 := [some (.ref (w.2.1 22)), some (.int a1), some (.int u2), some (.int u3), some (.int (u4 + 1)), some (.int u5)]) C dX5_order_169 rfl rfl hN (by decide) rfl rfl ?_
        refine pw_goto (tgt := 21) C dX5_order_172 (by decide) ?_
        exact pw_lv (hk21 u2 u3 (u4 + 1) h) ⟨rfl, rfl, rfl, rfl, rfl, trivial⟩
set_option maxRecDepth 100000 in
set_option maxHeartbeats 4000000 in
theorem kX5_order_L21 {w : Wd} {x : Cz} (C : Ok w x cX5_order RX5 4) (hR : OkI w x .int) (hN : xN x = 6) (N : Nat) (a1 : Int32) (hM : LM w)  : ∀ (n : Nat) (u2 : Int32) (u3 : Int32) (u4 : Int32) (h : Hp), PW w x 21 [some (.ref (w.2.1 22)), some (.int a1), some (.int u2), some (.int u3), some (.int u4), none] [] h ((fX5_order_L21 N a1 n u2 u3 u4 h)) := by
  intro n
  induction n with
  | zero => intro u2 u3 u4 h; rw [fX5_order_L21]; exact pw_none
  | succ n ih =>
    intro u2 u3 u4 h
    rw [fX5_order_L21]
    refine pw_iload C dX5_order_21 rfl ?_
    refine pw_iload_n C dX5_order_23 rfl rfl ?_
    refine pw_icmp_ge (tgt := 175) C dX5_order_24 (by decide) (fun c23 => ?_) (fun c23 => ?_)
    · refine pw_aload_n C dX5_order_27 rfl rfl ?_
      refine pw_getr (q2 := 32) C (hM 22 _ rfl (by decide)) rfl (k := 15) (by decide) rfl fl_X5_37 dX5_order_28 ?_
      refine pw_iload C dX5_order_31 rfl ?_
      refine pw_aload_n C dX5_order_33 rfl rfl ?_
      refine pw_aload_n C dX5_order_34 rfl rfl ?_
      refine pw_iload_n C dX5_order_35 rfl rfl ?_
      refine pw_iload C dX5_order_36 rfl ?_
      refine pw_callVp (as := [.int a1, .int u4]) (rest := [.ref (w.2.1 22), .int u4, .ref (w.2.1 32)]) C dX5_order_38 ml_X5_192 cw_X5_pendantAt im_X5_pendantAt sl_X5_pendantAt (hM 22 _ rfl (by decide)) rfl ⟨by decide, by decide⟩ (c_X5_pendantAt N h a1 u4 hM) rfl rfl (Nat.le_of_ble_eq_true rfl) (fun v2 => ?_)
      refine pw_callVp (as := [.int v2]) (rest := [.int u4, .ref (w.2.1 32)]) C dX5_order_41 ml_X5_146 cw_X5_value im_X5_value sl_X5_value (hM 22 _ rfl (by decide)) rfl ⟨by decide, by decide⟩ (c_X5_value N h v2 hM) rfl rfl (Nat.le_of_ble_eq_true rfl) (fun v3 => ?_)
      refine pw_iast C (hM 32 _ rfl (by decide)) dX5_order_44 ?_
      refine pw_nameh (fun g4 => ?_)
      refine pw_aload_n C dX5_order_45 rfl rfl ?_
      refine pw_getr (q2 := 32) C (hM 22 _ rfl (by decide)) rfl (k := 15) (by decide) rfl fl_X5_37 dX5_order_46 ?_
      refine pw_iload C dX5_order_49 rfl ?_
      refine pw_ialdb C (hM 32 _ rfl (by decide)) dX5_order_51 (fun v5 => ?_)
      refine pw_bipush (v := (-4)) C dX5_order_52 (by decide) ?_
      refine pw_icmp_ne (tgt := 60) C dX5_order_54 (by decide) (fun c24 => ?_) (fun c24 => ?_)
      · refine pw_bipush (v := (-4)) C dX5_order_57 (by decide) ?_
        exact pw_iret C hR dX5_order_59
      · refine pw_aload_n C dX5_order_60 rfl rfl ?_
        refine pw_getr (q2 := 33) C (hM 22 _ rfl (by decide)) rfl (k := 16) (by decide) rfl fl_X5_40 dX5_order_61 ?_
        refine pw_iload C dX5_order_64 rfl ?_
        refine pw_iconst (v := 1) C dX5_order_66 (by decide) ?_
        refine pw_iast C (hM 33 _ rfl (by decide)) dX5_order_67 ?_
        refine pw_nameh (fun g6 => ?_)
        refine pw_iconst (v := 0) C dX5_order_68 (by decide) ?_
        refine pw_istore (lv2 := [some (.ref (w.2.1 22)), some (.int a1), some (.int u2), some (.int u3), some (.int u4), some (.int 0)]) C dX5_order_69 hN (by decide) rfl rfl ?_
        exact kX5_order_L71 C hR hN N a1 hM (fX5_order_L21 N a1 n) ih N u2 u3 u4 0 g6
    · refine pw_iload_n C dX5_order_175 rfl rfl ?_
      refine pw_iload_n C dX5_order_176 rfl rfl ?_
      refine pw_isub C dX5_order_177 ?_
      exact pw_iret C hR dX5_order_178
set_option maxRecDepth 100000 in
set_option maxHeartbeats 4000000 in
theorem c_X5_order {l : Launch} {w : Wd} {A : Nat → Prop} (N : Nat) (h : Hp) (a1 : Int32) (hM : LM w) : ConI l yX5_order cX5_order 6 .int 4 w A [.ref (w.2.1 22), .int a1] h ((fX5_order N h a1)) := by
  refine ConI.of (lv0 := [some (.ref (w.2.1 22)), some (.int a1), none, none, none, none]) (by decide +kernel) (Nat.le_of_ble_eq_true rfl) rfl (fun x C hR hN => ?_)
  unfold fX5_order
  refine pw_aload_n C dX5_order_0 rfl rfl ?_
  refine pw_iload_n C dX5_order_1 rfl rfl ?_
  refine pw_callVt (as := [.int a1]) (rest := []) C dX5_order_2 ml_X5_183 cw_X5_isGroup im_X5_isGroup sl_X5_isGroup (hM 22 _ rfl (by decide)) rfl ⟨by decide, by decide⟩ (c_X5_isGroup h a1 hM) rfl rfl (Nat.le_of_ble_eq_true rfl) ?_
  refine pw_if_ne (tgt := 10) C dX5_order_5 (by decide) (fun c25 => ?_) (fun c25 => ?_)
  · refine pw_iconst (v := (-1)) C dX5_order_8 (by decide) ?_
    exact pw_iret C hR dX5_order_9
  · refine pw_aload_n C dX5_order_10 rfl rfl ?_
    refine pw_iload_n C dX5_order_11 rfl rfl ?_
    refine pw_callVp (as := [.int a1]) (rest := []) C dX5_order_12 ml_X5_186 cw_X5_manyOf im_X5_manyOf sl_X5_manyOf (hM 22 _ rfl (by decide)) rfl ⟨by decide, by decide⟩ (c_X5_manyOf N h a1 hM) rfl rfl (Nat.le_of_ble_eq_true rfl) (fun v1 => ?_)
    refine pw_istore_n (lv2 := [some (.ref (w.2.1 22)), some (.int a1), some (.int v1), none, none, none]) C dX5_order_15 rfl hN (by decide) rfl rfl ?_
    refine pw_iconst (v := 0) C dX5_order_16 (by decide) ?_
    refine pw_istore_n (lv2 := [some (.ref (w.2.1 22)), some (.int a1), some (.int v1), some (.int 0), none, none]) C dX5_order_17 rfl hN (by decide) rfl rfl ?_
    refine pw_iconst (v := 0) C dX5_order_18 (by decide) ?_
    refine pw_istore (lv2 := [some (.ref (w.2.1 22)), some (.int a1), some (.int v1), some (.int 0), some (.int 0), none]) C dX5_order_19 hN (by decide) rfl rfl ?_
    exact kX5_order_L21 C hR hN N a1 hM N v1 0 0 h
set_option maxRecDepth 100000 in
set_option maxHeartbeats 4000000 in
theorem kX5_share_J142 {w : Wd} {x : Cz} (C : Ok w x cX5_share RX5 4) (hR : OkI w x .int) (hN : xN x = 9) (N : Nat) (a1 : Int32) (a2 : Int32) (hM : LM w) (k97 : Int32 → Int32 → Int32 → Int32 → Int32 → Hp → Option Rs) (hk97 : ∀ (u3 : Int32) (u4 : Int32) (u5 : Int32) (u6 : Int32) (u7 : Int32) (h : Hp), PW w x 97 [some (.ref (w.2.1 22)), none, some (.int a2), some (.int u3), some (.int u4), some (.int u5), some (.int u6), some (.int u7), none] [] h ((k97 u3 u4 u5 u6 u7 h))) : ∀ (u3 : Int32) (u4 : Int32) (u6 : Int32) (u7 : Int32) (u8 : Int32) (t0 : Int32) (h : Hp), PW w x 142 [some (.ref (w.2.1 22)), none, some (.int a2), some (.int u3), some (.int u4), none, some (.int u6), some (.int u7), some (.int u8)] [.int t0] h ((fX5_share_J142 N a1 a2 k97 u3 u4 u6 u7 u8 t0 h)) := by
  intro u3 u4 u6 u7 u8 t0 h
  unfold fX5_share_J142
  refine pw_istore (lv2 := [some (.ref (w.2.1 22)), none, some (.int a2), some (.int u3), some (.int u4), some (.int t0), some (.int u6), some (.int u7), some (.int u8)]) C dX5_share_142 hN (by decide) rfl rfl ?_
  refine pw_iload C dX5_share_144 rfl ?_
  refine pw_iload C dX5_share_146 rfl ?_
  refine PW.eq (apply_ite (fun z_ => (k97 u3 u4 t0 z_ (u7 + 1) h)) _ _ _) ?_
  refine pw_icmp_ge (tgt := 156) C dX5_share_148 (by decide) (fun c8 => ?_) (fun c8 => ?_)
  · refine pw_iload C dX5_share_151 rfl ?_
    refine pw_goto (tgt := 158) C dX5_share_153 (by decide) ?_
    refine pw_istore (lv2 := [some (.ref (w.2.1 22)), none, some (.int a2), some (.int u3), some (.int u4), some (.int t0), some (.int u8), some (.int u7), some (.int u8)]) C dX5_share_158 hN (by decide) rfl rfl ?_
    refine pw_iinc (lv2 := [some (.ref (w.2.1 22)), none, some (.int a2), some (.int u3), some (.int u4), some (.int t0), some (.int u8), some (.int (u7 + 1)), some (.int u8)]) C dX5_share_160 rfl rfl hN (by decide) rfl rfl ?_
    refine pw_goto (tgt := 97) C dX5_share_163 (by decide) ?_
    exact pw_lv (hk97 u3 u4 t0 u8 (u7 + 1) h) ⟨rfl, rfl, rfl, rfl, rfl, rfl, rfl, trivial⟩
  · refine pw_iload C dX5_share_156 rfl ?_
    refine pw_istore (lv2 := [some (.ref (w.2.1 22)), none, some (.int a2), some (.int u3), some (.int u4), some (.int t0), some (.int u6), some (.int u7), some (.int u8)]) C dX5_share_158 hN (by decide) rfl rfl ?_
    refine pw_iinc (lv2 := [some (.ref (w.2.1 22)), none, some (.int a2), some (.int u3), some (.int u4), some (.int t0), some (.int u6), some (.int (u7 + 1)), some (.int u8)]) C dX5_share_160 rfl rfl hN (by decide) rfl rfl ?_
    refine pw_goto (tgt := 97) C dX5_share_163 (by decide) ?_
    exact pw_lv (hk97 u3 u4 t0 u6 (u7 + 1) h) ⟨rfl, rfl, rfl, rfl, rfl, rfl, rfl, trivial⟩
set_option maxRecDepth 100000 in
set_option maxHeartbeats 4000000 in
theorem kX5_share_L97 {w : Wd} {x : Cz} (C : Ok w x cX5_share RX5 4) (hR : OkI w x .int) (hN : xN x = 9) (N : Nat) (a1 : Int32) (a2 : Int32) (hM : LM w)  : ∀ (n : Nat) (u3 : Int32) (u4 : Int32) (u5 : Int32) (u6 : Int32) (u7 : Int32) (h : Hp), PW w x 97 [some (.ref (w.2.1 22)), none, some (.int a2), some (.int u3), some (.int u4), some (.int u5), some (.int u6), some (.int u7), none] [] h ((fX5_share_L97 N a1 a2 n u3 u4 u5 u6 u7 h)) := by
  intro n
  induction n with
  | zero => intro u3 u4 u5 u6 u7 h; rw [fX5_share_L97]; exact pw_none
  | succ n ih =>
    intro u3 u4 u5 u6 u7 h
    rw [fX5_share_L97]
    refine pw_iload C dX5_share_97 rfl ?_
    refine pw_iload_n C dX5_share_99 rfl rfl ?_
    refine pw_icmp_gt (tgt := 166) C dX5_share_100 (by decide) (fun c9 => ?_) (fun c9 => ?_)
    · refine pw_iload_n C dX5_share_166 rfl rfl ?_
      refine pw_if_ne (tgt := 175) C dX5_share_167 (by decide) (fun c10 => ?_) (fun c10 => ?_)
      · refine pw_iload C dX5_share_170 rfl ?_
        refine pw_goto (tgt := 177) C dX5_share_172 (by decide) ?_
        exact pw_iret C hR dX5_share_177
      · refine pw_iload C dX5_share_175 rfl ?_
        exact pw_iret C hR dX5_share_177
    · refine pw_iload C dX5_share_103 rfl ?_
      refine pw_iload_n C dX5_share_105 rfl rfl ?_
      refine pw_iconst (v := (-1)) C dX5_share_106 (by decide) ?_
      refine pw_ixor C dX5_share_107 ?_
      refine pw_iand C dX5_share_108 ?_
      refine pw_if_ne (tgt := 160) C dX5_share_109 (by decide) (fun c11 => ?_) (fun c11 => ?_)
      · refine pw_iload C dX5_share_112 rfl ?_
        refine pw_iconst (v := 2) C dX5_share_114 (by decide) ?_
        refine pw_aload_n C dX5_share_115 rfl rfl ?_
        refine pw_iload C dX5_share_116 rfl ?_
        refine pw_callVp (as := [.int u7]) (rest := [.int 2, .int u4]) C dX5_share_118 ml_X5_238 cw_X5_tellOf im_X5_tellOf sl_X5_tellOf (hM 22 _ rfl (by decide)) rfl ⟨by decide, by decide⟩ (c_X5_tellOf N h u7 hM) rfl rfl (Nat.le_of_ble_eq_true rfl) (fun v6 => ?_)
        refine pw_imul C dX5_share_121 ?_
        refine pw_isub C dX5_share_122 ?_
        refine pw_callSt (as := [.int (u4 - (2 * v6))]) (rest := []) C dX5_share_123 ml_X5_227 cw_X5_plain st_X5_plain ⟨by decide, by decide⟩ (c_X5_plain h (u4 - (2 * v6))) rfl rfl (Nat.le_of_ble_eq_true rfl) ?_
        refine pw_name (fun v7 => ?_)
        refine pw_istore (lv2 := [some (.ref (w.2.1 22)), none, some (.int a2), some (.int u3), some (.int u4), some (.int u5), some (.int u6), some (.int u7), some (.int v7)]) C dX5_share_126 hN (by decide) rfl rfl ?_
        refine pw_iload C dX5_share_128 rfl ?_
        refine pw_iload C dX5_share_130 rfl ?_
        refine PW.eq (apply_ite (fun z_ => (fX5_share_J142 N a1 a2 (fX5_share_L97 N a1 a2 n) u3 u4 u6 u7 v7 z_ h)) _ _ _) ?_
        refine pw_icmp_ge (tgt := 140) C dX5_share_132 (by decide) (fun c12 => ?_) (fun c12 => ?_)
        · refine pw_iload C dX5_share_135 rfl ?_
          refine pw_goto (tgt := 142) C dX5_share_137 (by decide) ?_
          exact pw_lv (kX5_share_J142 C hR hN N a1 a2 hM (fX5_share_L97 N a1 a2 n) ih u3 u4 u6 u7 v7 u7 h) ⟨rfl, rfl, rfl, rfl, rfl, rfl, rfl, trivial⟩
        · refine pw_iload C dX5_share_140 rfl ?_
          exact pw_lv (kX5_share_J142 C hR hN N a1 a2 hM (fX5_share_L97 N a1 a2 n) ih u3 u4 u6 u7 v7 u5 h) ⟨rfl, rfl, rfl, rfl, rfl, rfl, rfl, trivial⟩
      · refine pw_iinc (lv2 := [some (.ref (w.2.1 22)), none, some (.int a2), some (.int u3), some (.int u4), some (.int u5), some (.int u6), some (.int (u7 + 1)), none]) C dX5_share_160 rfl rfl hN (by decide) rfl rfl ?_
        refine pw_goto (tgt := 97) C dX5_share_163 (by decide) ?_
        exact ih u3 u4 u5 u6 (u7 + 1) h
set_option maxRecDepth 100000 in
set_option maxHeartbeats 4000000 in
theorem kX5_share_L31 {w : Wd} {x : Cz} (C : Ok w x cX5_share RX5 4) (hR : OkI w x .int) (hN : xN x = 9) (N : Nat) (a1 : Int32) (a2 : Int32) (hM : LM w)  : ∀ (n : Nat) (u3 : Int32) (u4 : Int32) (h : Hp), PW w x 31 [some (.ref (w.2.1 22)), some (.int a1), some (.int a2), some (.int u3), some (.int u4), none, none, none, none] [] h ((fX5_share_L31 N a1 a2 n u3 u4 h)) := by
  intro n
  induction n with
  | zero => intro u3 u4 h; rw [fX5_share_L31]; exact pw_none
  | succ n ih =>
    intro u3 u4 h
    rw [fX5_share_L31]
    refine pw_iload C dX5_share_31 rfl ?_
    refine pw_aload_n C dX5_share_33 rfl rfl ?_
    refine pw_getr (q2 := 23) C (hM 22 _ rfl (by decide)) rfl (k := 0) (by decide) rfl fl_X5_7 dX5_share_34 ?_
    refine pw_iconst (v := 0) C dX5_share_37 (by decide) ?_
    refine pw_ialdc (k := 0) C (hM 23 _ rfl (by decide)) (by decide +kernel) dX5_share_38 ?_
    refine pw_icmp_ge (tgt := 80) C dX5_share_39 (by decide) (fun c13 => ?_) (fun c13 => ?_)
    · refine pw_aload_n C dX5_share_42 rfl rfl ?_
      refine pw_iload C dX5_share_43 rfl ?_
      refine pw_iload_n C dX5_share_45 rfl rfl ?_
      refine pw_callVp (as := [.int u4, .int a1]) (rest := []) C dX5_share_46 ml_X5_173 cw_X5_isOf im_X5_isOf sl_X5_isOf (hM 22 _ rfl (by decide)) rfl ⟨by decide, by decide⟩ (c_X5_isOf h u4 a1 hM) rfl rfl (Nat.le_of_ble_eq_true rfl) (fun v2 => ?_)
      refine pw_if_eq (tgt := 74) C dX5_share_49 (by decide) (fun c14 => ?_) (fun c14 => ?_)
      · refine pw_iinc (lv2 := [some (.ref (w.2.1 22)), some (.int a1), some (.int a2), some (.int u3), some (.int (u4 + 1)), none, none, none, none]) C dX5_share_74 rfl rfl hN (by decide) rfl rfl ?_
        refine pw_goto (tgt := 31) C dX5_share_77 (by decide) ?_
        exact ih u3 (u4 + 1) h
      · refine pw_aload_n C dX5_share_52 rfl rfl ?_
        refine pw_getr (q2 := 32) C (hM 22 _ rfl (by decide)) rfl (k := 15) (by decide) rfl fl_X5_37 dX5_share_53 ?_
        refine pw_iload C dX5_share_56 rfl ?_
        refine pw_ialdb C (hM 32 _ rfl (by decide)) dX5_share_58 (fun v3 => ?_)
        refine pw_bipush (v := (-4)) C dX5_share_59 (by decide) ?_
        refine pw_icmp_ne (tgt := 67) C dX5_share_61 (by decide) (fun c15 => ?_) (fun c15 => ?_)
        · refine pw_bipush (v := (-4)) C dX5_share_64 (by decide) ?_
          exact pw_iret C hR dX5_share_66
        · refine pw_iload_n C dX5_share_67 rfl rfl ?_
          refine pw_iconst (v := 1) C dX5_share_68 (by decide) ?_
          refine pw_iload C dX5_share_69 rfl ?_
          refine pw_ishl C dX5_share_71 ?_
          refine pw_ior C dX5_share_72 ?_
          refine pw_name (fun v4 => ?_)
          refine pw_istore_n (lv2 := [some (.ref (w.2.1 22)), some (.int a1), some (.int a2), some (.int v4), some (.int u4), none, none, none, none]) C dX5_share_73 rfl hN (by decide) rfl rfl ?_
          refine pw_iinc (lv2 := [some (.ref (w.2.1 22)), some (.int a1), some (.int a2), some (.int v4), some (.int (u4 + 1)), none, none, none, none]) C dX5_share_74 rfl rfl hN (by decide) rfl rfl ?_
          refine pw_goto (tgt := 31) C dX5_share_77 (by decide) ?_
          exact ih v4 (u4 + 1) h
    · refine pw_aload_n C dX5_share_80 rfl rfl ?_
      refine pw_iload_n C dX5_share_81 rfl rfl ?_
      refine pw_callVp (as := [.int u3]) (rest := []) C dX5_share_82 ml_X5_238 cw_X5_tellOf im_X5_tellOf sl_X5_tellOf (hM 22 _ rfl (by decide)) rfl ⟨by decide, by decide⟩ (c_X5_tellOf N h u3 hM) rfl rfl (Nat.le_of_ble_eq_true rfl) (fun v5 => ?_)
      refine pw_istore (lv2 := [some (.ref (w.2.1 22)), some (.int a1), some (.int a2), some (.int u3), some (.int v5), none, none, none, none]) C dX5_share_85 hN (by decide) rfl rfl ?_
      refine pw_iconst (v := 0) C dX5_share_87 (by decide) ?_
      refine pw_istore (lv2 := [some (.ref (w.2.1 22)), some (.int a1), some (.int a2), some (.int u3), some (.int v5), some (.int 0), none, none, none]) C dX5_share_88 hN (by decide) rfl rfl ?_
      refine pw_ldc (C := C) ct_X5_226 dX5_share_90 ?_
      refine pw_istore (lv2 := [some (.ref (w.2.1 22)), some (.int a1), some (.int a2), some (.int u3), some (.int v5), some (.int 0), some (.int 1000000), none, none]) C dX5_share_92 hN (by decide) rfl rfl ?_
      refine pw_iconst (v := 0) C dX5_share_94 (by decide) ?_
      refine pw_istore (lv2 := [some (.ref (w.2.1 22)), some (.int a1), some (.int a2), some (.int u3), some (.int v5), some (.int 0), some (.int 1000000), some (.int 0), none]) C dX5_share_95 hN (by decide) rfl rfl ?_
      exact pw_lv (kX5_share_L97 C hR hN N a1 a2 hM N u3 v5 0 1000000 0 h) ⟨rfl, rfl, rfl, rfl, rfl, rfl, rfl, trivial⟩
set_option maxRecDepth 100000 in
set_option maxHeartbeats 4000000 in
theorem kX5_share_J13 {w : Wd} {x : Cz} (C : Ok w x cX5_share RX5 4) (hR : OkI w x .int) (hN : xN x = 9) (N : Nat) (a1 : Int32) (a2 : Int32) (hM : LM w)  : ∀ (h : Hp), PW w x 13 [some (.ref (w.2.1 22)), some (.int a1), some (.int a2), none, none, none, none, none, none] [] h ((fX5_share_J13 N a1 a2 h)) := by
  intro h
  unfold fX5_share_J13
  refine pw_iload_n C dX5_share_13 rfl rfl ?_
  refine pw_callSt (as := [.int a2]) (rest := []) C dX5_share_14 ml_X5_230 cw_X5_isTwo st_X5_isTwo ⟨by decide, by decide⟩ (c_X5_isTwo h a2) rfl rfl (Nat.le_of_ble_eq_true rfl) ?_
  refine pw_if_ne (tgt := 22) C dX5_share_17 (by decide) (fun c16 => ?_) (fun c16 => ?_)
  · refine pw_iconst (v := (-1)) C dX5_share_20 (by decide) ?_
    exact pw_iret C hR dX5_share_21
  · refine pw_aload_n C dX5_share_22 rfl rfl ?_
    refine pw_callVvq (as := []) (rest := []) C dX5_share_23 ml_X5_235 cw_X5_layValues im_X5_layValues sl_X5_layValues (hM 22 _ rfl (by decide)) rfl ⟨by decide, by decide⟩ (c_X5_layValues N h hM) rfl rfl (Nat.le_of_ble_eq_true rfl) (fun z1 => ?_)
    refine pw_iconst (v := 0) C dX5_share_26 (by decide) ?_
    refine pw_istore_n (lv2 := [some (.ref (w.2.1 22)), some (.int a1), some (.int a2), some (.int 0), none, none, none, none, none]) C dX5_share_27 rfl hN (by decide) rfl rfl ?_
    refine pw_iconst (v := 0) C dX5_share_28 (by decide) ?_
    refine pw_istore (lv2 := [some (.ref (w.2.1 22)), some (.int a1), some (.int a2), some (.int 0), some (.int 0), none, none, none, none]) C dX5_share_29 hN (by decide) rfl rfl ?_
    exact kX5_share_L31 C hR hN N a1 a2 hM N 0 0 z1.2
set_option maxRecDepth 100000 in
set_option maxHeartbeats 4000000 in
theorem c_X5_share {l : Launch} {w : Wd} {A : Nat → Prop} (N : Nat) (h : Hp) (a1 : Int32) (a2 : Int32) (hM : LM w) : ConI l yX5_share cX5_share 9 .int 4 w A [.ref (w.2.1 22), .int a1, .int a2] h ((fX5_share N h a1 a2)) := by
  refine ConI.of (lv0 := [some (.ref (w.2.1 22)), some (.int a1), some (.int a2), none, none, none, none, none, none]) (by decide +kernel) (Nat.le_of_ble_eq_true rfl) rfl (fun x C hR hN => ?_)
  unfold fX5_share
  refine pw_aload_n C dX5_share_0 rfl rfl ?_
  refine pw_iload_n C dX5_share_1 rfl rfl ?_
  refine pw_callVt (as := [.int a1]) (rest := []) C dX5_share_2 ml_X5_183 cw_X5_isGroup im_X5_isGroup sl_X5_isGroup (hM 22 _ rfl (by decide)) rfl ⟨by decide, by decide⟩ (c_X5_isGroup h a1 hM) rfl rfl (Nat.le_of_ble_eq_true rfl) ?_
  refine pw_if_ne (tgt := 13) C dX5_share_5 (by decide) (fun c17 => ?_) (fun c17 => ?_)
  · refine pw_iload_n C dX5_share_8 rfl rfl ?_
    refine pw_iconst (v := 5) C dX5_share_9 (by decide) ?_
    refine pw_icmp_ne (tgt := 20) C dX5_share_10 (by decide) (fun c18 => ?_) (fun c18 => ?_)
    · exact kX5_share_J13 C hR hN N a1 a2 hM h
    · refine pw_iconst (v := (-1)) C dX5_share_20 (by decide) ?_
      exact pw_iret C hR dX5_share_21
  · exact kX5_share_J13 C hR hN N a1 a2 hM h
set_option maxRecDepth 100000 in
set_option maxHeartbeats 4000000 in
theorem kX5_make_J111 {w : Wd} {x : Cz} (C : Ok w x cX5_make RX5 4) (hR : OkI w x .int) (hN : xN x = 6) (N : Nat) (a1 : Int32) (hM : LM w) (k73 : Int32 → Int32 → Int32 → Hp → Option Rs) (hk73 : ∀ (u2 : Int32) (u3 : Int32) (u4 : Int32) (h : Hp), PW w x 73 [some (.ref (w.2.1 22)), some (.int a1), some (.int u2), some (.int u3), some (.int u4), none] [] h ((k73 u2 u3 u4 h))) : ∀ (u2 : Int32) (u3 : Int32) (u4 : Int32) (t0 : Int32) (h : Hp), PW w x 111 [some (.ref (w.2.1 22)), some (.int a1), some (.int u2), some (.int u3), some (.int u4), none] [.int t0] h ((fX5_make_J111 N a1 k73 u2 u3 u4 t0 h)) := by
  intro u2 u3 u4 t0 h
  unfold fX5_make_J111
  refine pw_istore (lv2 := [some (.ref (w.2.1 22)), some (.int a1), some (.int u2), some (.int u3), some (.int u4), some (.int t0)]) C dX5_make_111 hN (by decide) rfl rfl ?_
  refine pw_iload C dX5_make_113 rfl ?_
  refine pw_if_eq (tgt := 133) C dX5_make_115 (by decide) (fun c8 => ?_) (fun c8 => ?_)
  · refine pw_iload_n C dX5_make_133 rfl rfl ?_
    refine pw_istore_n (lv2 := [some (.ref (w.2.1 22)), some (.int a1), some (.int u2), some (.int u3), some (.int u4), some (.int t0)]) C dX5_make_134 rfl hN (by decide) rfl rfl ?_
    refine pw_iinc (lv2 := [some (.ref (w.2.1 22)), some (.int a1), some (.int u2), some (.int u3), some (.int (u4 + 1)), some (.int t0)]) C dX5_make_135 rfl rfl hN (by decide) rfl rfl ?_
    refine pw_goto (tgt := 73) C dX5_make_138 (by decide) ?_
    exact pw_lv (hk73 u2 u3 (u4 + 1) h) ⟨rfl, rfl, rfl, rfl, rfl, trivial⟩
  · refine pw_aload_n C dX5_make_118 rfl rfl ?_
    refine pw_iload C dX5_make_119 rfl ?_
    refine pw_callVp (as := [.int u4]) (rest := []) C dX5_make_121 ml_X5_238 cw_X5_tellOf im_X5_tellOf sl_X5_tellOf (hM 22 _ rfl (by decide)) rfl ⟨by decide, by decide⟩ (c_X5_tellOf N h u4 hM) rfl rfl (Nat.le_of_ble_eq_true rfl) (fun v7 => ?_)
    refine pw_iload_n C dX5_make_124 rfl rfl ?_
    refine PW.eq (apply_ite (fun z_ => (k73 u2 z_ (u4 + 1) h)) _ _ _) ?_
    refine pw_icmp_ne (tgt := 133) C dX5_make_125 (by decide) (fun c9 => ?_) (fun c9 => ?_)
    · refine pw_iload C dX5_make_128 rfl ?_
      refine pw_goto (tgt := 134) C dX5_make_130 (by decide) ?_
      refine pw_istore_n (lv2 := [some (.ref (w.2.1 22)), some (.int a1), some (.int u2), some (.int u4), some (.int u4), some (.int t0)]) C dX5_make_134 rfl hN (by decide) rfl rfl ?_
      refine pw_iinc (lv2 := [some (.ref (w.2.1 22)), some (.int a1), some (.int u2), some (.int u4), some (.int (u4 + 1)), some (.int t0)]) C dX5_make_135 rfl rfl hN (by decide) rfl rfl ?_
      refine pw_goto (tgt := 73) C dX5_make_138 (by decide) ?_
      exact pw_lv (hk73 u2 u4 (u4 + 1) h) ⟨rfl, rfl, rfl, rfl, rfl, trivial⟩
    · refine pw_iload_n C dX5_make_133 rfl rfl ?_
      refine pw_istore_n (lv2 := [some (.ref (w.2.1 22)), some (.int a1), some (.int u2), some (.int u3), some (.int u4), some (.int t0)]) C dX5_make_134 rfl hN (by decide) rfl rfl ?_
      refine pw_iinc (lv2 := [some (.ref (w.2.1 22)), some (.int a1), some (.int u2), some (.int u3), some (.int (u4 + 1)), some (.int t0)]) C dX5_make_135 rfl rfl hN (by decide) rfl rfl ?_
      refine pw_goto (tgt := 73) C dX5_make_138 (by decide) ?_
      exact pw_lv (hk73 u2 u3 (u4 + 1) h) ⟨rfl, rfl, rfl, rfl, rfl, trivial⟩
set_option maxRecDepth 100000 in
set_option maxHeartbeats 4000000 in
theorem kX5_make_L73 {w : Wd} {x : Cz} (C : Ok w x cX5_make RX5 4) (hR : OkI w x .int) (hN : xN x = 6) (N : Nat) (a1 : Int32) (hM : LM w)  : ∀ (n : Nat) (u2 : Int32) (u3 : Int32) (u4 : Int32) (h : Hp), PW w x 73 [some (.ref (w.2.1 22)), some (.int a1), some (.int u2), some (.int u3), some (.int u4), none] [] h ((fX5_make_L73 N a1 n u2 u3 u4 h)) := by
  intro n
  induction n with
  | zero => intro u2 u3 u4 h; rw [fX5_make_L73]; exact pw_none
  | succ n ih =>
    intro u2 u3 u4 h
    rw [fX5_make_L73]
    refine pw_iload C dX5_make_73 rfl ?_
    refine pw_iload_n C dX5_make_75 rfl rfl ?_
    refine pw_icmp_gt (tgt := 141) C dX5_make_76 (by decide) (fun c10 => ?_) (fun c10 => ?_)
    · refine pw_iload_n C dX5_make_141 rfl rfl ?_
      exact pw_iret C hR dX5_make_142
    · refine pw_iload C dX5_make_79 rfl ?_
      refine pw_iload_n C dX5_make_81 rfl rfl ?_
      refine pw_iconst (v := (-1)) C dX5_make_82 (by decide) ?_
      refine pw_ixor C dX5_make_83 ?_
      refine pw_iand C dX5_make_84 ?_
      refine pw_if_ne (tgt := 110) C dX5_make_85 (by decide) (fun c11 => ?_) (fun c11 => ?_)
      · refine pw_iload_n C dX5_make_88 rfl rfl ?_
        refine pw_bipush (v := (-4)) C dX5_make_89 (by decide) ?_
        refine pw_icmp_eq (tgt := 106) C dX5_make_91 (by decide) (fun c12 => ?_) (fun c12 => ?_)
        · refine pw_iconst (v := 1) C dX5_make_106 (by decide) ?_
          refine pw_goto (tgt := 111) C dX5_make_107 (by decide) ?_
          exact kX5_make_J111 C hR hN N a1 hM (fX5_make_L73 N a1 n) ih u2 u3 u4 1 h
        · refine pw_iload C dX5_make_94 rfl ?_
          refine pw_callSp (as := [.int u4]) (rest := []) C dX5_make_96 ml_X5_241 cw_X5_bits st_X5_bits ⟨by decide, by decide⟩ (c_X5_bits N h u4) rfl rfl (Nat.le_of_ble_eq_true rfl) (fun v5 => ?_)
          refine pw_iload_n C dX5_make_99 rfl rfl ?_
          refine pw_callSp (as := [.int u3]) (rest := [.int v5]) C dX5_make_100 ml_X5_241 cw_X5_bits st_X5_bits ⟨by decide, by decide⟩ (c_X5_bits N h u3) rfl rfl (Nat.le_of_ble_eq_true rfl) (fun v6 => ?_)
          refine PW.eq (apply_ite (fun z_ => (fX5_make_J111 N a1 (fX5_make_L73 N a1 n) u2 u3 u4 z_ h)) _ _ _) ?_
          refine pw_icmp_ge (tgt := 110) C dX5_make_103 (by decide) (fun c13 => ?_) (fun c13 => ?_)
          · refine pw_iconst (v := 1) C dX5_make_106 (by decide) ?_
            refine pw_goto (tgt := 111) C dX5_make_107 (by decide) ?_
            exact kX5_make_J111 C hR hN N a1 hM (fX5_make_L73 N a1 n) ih u2 u3 u4 1 h
          · refine pw_iconst (v := 0) C dX5_make_110 (by decide) ?_
            exact kX5_make_J111 C hR hN N a1 hM (fX5_make_L73 N a1 n) ih u2 u3 u4 0 h
      · refine pw_iconst (v := 0) C dX5_make_110 (by decide) ?_
        exact kX5_make_J111 C hR hN N a1 hM (fX5_make_L73 N a1 n) ih u2 u3 u4 0 h
set_option maxRecDepth 100000 in
set_option maxHeartbeats 4000000 in
theorem kX5_make_L22 {w : Wd} {x : Cz} (C : Ok w x cX5_make RX5 4) (hR : OkI w x .int) (hN : xN x = 6) (N : Nat) (a1 : Int32) (hM : LM w)  : ∀ (n : Nat) (u2 : Int32) (u3 : Int32) (h : Hp), PW w x 22 [some (.ref (w.2.1 22)), some (.int a1), some (.int u2), some (.int u3), none, none] [] h ((fX5_make_L22 N a1 n u2 u3 h)) := by
  intro n
  induction n with
  | zero => intro u2 u3 h; rw [fX5_make_L22]; exact pw_none
  | succ n ih =>
    intro u2 u3 h
    rw [fX5_make_L22]
    refine pw_iload_n C dX5_make_22 rfl rfl ?_
    refine pw_aload_n C dX5_make_23 rfl rfl ?_
    refine pw_getr (q2 := 23) C (hM 22 _ rfl (by decide)) rfl (k := 0) (by decide) rfl fl_X5_7 dX5_make_24 ?_
    refine pw_iconst (v := 0) C dX5_make_27 (by decide) ?_
    refine pw_ialdc (k := 0) C (hM 23 _ rfl (by decide)) (by decide +kernel) dX5_make_28 ?_
    refine pw_icmp_ge (tgt := 67) C dX5_make_29 (by decide) (fun c14 => ?_) (fun c14 => ?_)
    · refine pw_iload_n C dX5_make_32 rfl rfl ?_
      refine pw_aload_n C dX5_make_33 rfl rfl ?_
      refine pw_iload_n C dX5_make_34 rfl rfl ?_
      refine pw_callVp (as := [.int u3]) (rest := [.int u2]) C dX5_make_35 ml_X5_170 cw_X5_isPlain im_X5_isPlain sl_X5_isPlain (hM 22 _ rfl (by decide)) rfl ⟨by decide, by decide⟩ (c_X5_isPlain h u3 hM) rfl rfl (Nat.le_of_ble_eq_true rfl) (fun v2 => ?_)
      refine pw_if_eq (tgt := 58) C dX5_make_38 (by decide) (fun c15 => ?_) (fun c15 => ?_)
      · refine pw_iconst (v := 0) C dX5_make_58 (by decide) ?_
        refine pw_ior C dX5_make_59 ?_
        refine pw_istore_n (lv2 := [some (.ref (w.2.1 22)), some (.int a1), some (.int (u2 ||| 0)), some (.int u3), none, none]) C dX5_make_60 rfl hN (by decide) rfl rfl ?_
        refine pw_iinc (lv2 := [some (.ref (w.2.1 22)), some (.int a1), some (.int (u2 ||| 0)), some (.int (u3 + 1)), none, none]) C dX5_make_61 rfl rfl hN (by decide) rfl rfl ?_
        refine pw_goto (tgt := 22) C dX5_make_64 (by decide) ?_
        exact ih (u2 ||| 0) (u3 + 1) h
      · refine pw_aload_n C dX5_make_41 rfl rfl ?_
        refine pw_getr (q2 := 32) C (hM 22 _ rfl (by decide)) rfl (k := 15) (by decide) rfl fl_X5_37 dX5_make_42 ?_
        refine pw_iload_n C dX5_make_45 rfl rfl ?_
        refine pw_ialdb C (hM 32 _ rfl (by decide)) dX5_make_46 (fun v3 => ?_)
        refine pw_bipush (v := (-4)) C dX5_make_47 (by decide) ?_
        refine pw_icmp_eq (tgt := 58) C dX5_make_49 (by decide) (fun c16 => ?_) (fun c16 => ?_)
        · refine pw_iconst (v := 0) C dX5_make_58 (by decide) ?_
          refine pw_ior C dX5_make_59 ?_
          refine pw_istore_n (lv2 := [some (.ref (w.2.1 22)), some (.int a1), some (.int (u2 ||| 0)), some (.int u3), none, none]) C dX5_make_60 rfl hN (by decide) rfl rfl ?_
          refine pw_iinc (lv2 := [some (.ref (w.2.1 22)), some (.int a1), some (.int (u2 ||| 0)), some (.int (u3 + 1)), none, none]) C dX5_make_61 rfl rfl hN (by decide) rfl rfl ?_
          refine pw_goto (tgt := 22) C dX5_make_64 (by decide) ?_
          exact ih (u2 ||| 0) (u3 + 1) h
        · refine pw_iconst (v := 1) C dX5_make_52 (by decide) ?_
          refine pw_iload_n C dX5_make_53 rfl rfl ?_
          refine pw_ishl C dX5_make_54 ?_
          refine pw_goto (tgt := 59) C dX5_make_55 (by decide) ?_
          refine pw_ior C dX5_make_59 ?_
          refine pw_name (fun v4 => ?_)
          refine pw_istore_n (lv2 := [some (.ref (w.2.1 22)), some (.int a1), some (.int v4), some (.int u3), none, none]) C dX5_make_60 rfl hN (by decide) rfl rfl ?_
          refine pw_iinc (lv2 := [some (.ref (w.2.1 22)), some (.int a1), some (.int v4), some (.int (u3 + 1)), none, none]) C dX5_make_61 rfl rfl hN (by decide) rfl rfl ?_
          refine pw_goto (tgt := 22) C dX5_make_64 (by decide) ?_
          exact ih v4 (u3 + 1) h
    · refine pw_bipush (v := (-4)) C dX5_make_67 (by decide) ?_
      refine pw_istore_n (lv2 := [some (.ref (w.2.1 22)), some (.int a1), some (.int u2), some (.int (-4)), none, none]) C dX5_make_69 rfl hN (by decide) rfl rfl ?_
      refine pw_iconst (v := 0) C dX5_make_70 (by decide) ?_
      refine pw_istore (lv2 := [some (.ref (w.2.1 22)), some (.int a1), some (.int u2), some (.int (-4)), some (.int 0), none]) C dX5_make_71 hN (by decide) rfl rfl ?_
      exact kX5_make_L73 C hR hN N a1 hM N u2 (-4) 0 h
set_option maxRecDepth 100000 in
set_option maxHeartbeats 4000000 in
theorem c_X5_make {l : Launch} {w : Wd} {A : Nat → Prop} (N : Nat) (h : Hp) (a1 : Int32) (hM : LM w) : ConI l yX5_make cX5_make 6 .int 4 w A [.ref (w.2.1 22), .int a1] h ((fX5_make N h a1)) := by
  refine ConI.of (lv0 := [some (.ref (w.2.1 22)), some (.int a1), none, none, none, none]) (by decide +kernel) (Nat.le_of_ble_eq_true rfl) rfl (fun x C hR hN => ?_)
  unfold fX5_make
  refine pw_iload_n C dX5_make_0 rfl rfl ?_
  refine pw_i2l C dX5_make_1 ?_
  refine pw_lconst (v := 0) C dX5_make_2 (by decide) ?_
  refine pw_ldc2 (C := C) cl_X5_213 dX5_make_3 ?_
  refine pw_callSt (as := [.long (a1).toInt64, .long 0, .long 9999]) (rest := []) C dX5_make_6 ml_X5_54 cw_X5_in st_X5_in ⟨by decide, by decide⟩ (c_X5_in h (a1).toInt64 0 9999) rfl rfl (Nat.le_of_ble_eq_true rfl) ?_
  refine pw_if_ne (tgt := 14) C dX5_make_9 (by decide) (fun c17 => ?_) (fun c17 => ?_)
  · refine pw_iconst (v := (-1)) C dX5_make_12 (by decide) ?_
    exact pw_iret C hR dX5_make_13
  · refine pw_aload_n C dX5_make_14 rfl rfl ?_
    refine pw_callVvq (as := []) (rest := []) C dX5_make_15 ml_X5_235 cw_X5_layValues im_X5_layValues sl_X5_layValues (hM 22 _ rfl (by decide)) rfl ⟨by decide, by decide⟩ (c_X5_layValues N h hM) rfl rfl (Nat.le_of_ble_eq_true rfl) (fun z1 => ?_)
    refine pw_iconst (v := 0) C dX5_make_18 (by decide) ?_
    refine pw_istore_n (lv2 := [some (.ref (w.2.1 22)), some (.int a1), some (.int 0), none, none, none]) C dX5_make_19 rfl hN (by decide) rfl rfl ?_
    refine pw_iconst (v := 0) C dX5_make_20 (by decide) ?_
    refine pw_istore_n (lv2 := [some (.ref (w.2.1 22)), some (.int a1), some (.int 0), some (.int 0), none, none]) C dX5_make_21 rfl hN (by decide) rfl rfl ?_
    exact kX5_make_L22 C hR hN N a1 hM N 0 0 z1.2
set_option maxRecDepth 100000 in
set_option maxHeartbeats 4000000 in
theorem kX0_sumOf_L4 {w : Wd} {x : Cz} {b : Nat} (C : Ok w x cX0_sumOf RX0 4) (hR : OkI w x .int) (hN : xN x = 5) (N : Nat) (h : Hp) (r : Nat) (a1 : Int32) (hb : w.2.2.1[b]? = some (0, 0, [r + 2])) (hr : w.2.2.1[r]? = some (1, 179, []))  : ∀ (n : Nat) (u2 : Int32) (u3 : Int32), PW w x 4 [some (.ref (w.2.1 b)), some (.int a1), some (.int u2), some (.int u3), none] [] h (Option.map (fun v => (v, h)) (fX0_sumOf_L4 N h r a1 n u2 u3)) := by
  intro n
  induction n with
  | zero => intro u2 u3; rw [fX0_sumOf_L4]; exact pw_none
  | succ n ih =>
    intro u2 u3
    rw [fX0_sumOf_L4]
    refine pw_iload_n C dX0_sumOf_4 rfl rfl ?_
    refine pw_aload_n C dX0_sumOf_5 rfl rfl ?_
    refine pw_callVt (as := []) (rest := [.int u3]) C dX0_sumOf_6 ml_X0_29 cw_X0_cords im_X0_cords sl_X0_cords hb rfl ⟨by decide, by decide⟩ (c_X0_cords h r hb hr) rfl rfl (Nat.le_of_ble_eq_true rfl) ?_
    refine pm_icmp_ge (tgt := 57) C dX0_sumOf_9 (by decide) (fun c2 => ?_) (fun c2 => ?_)
    · refine pw_aload_n C dX0_sumOf_12 rfl rfl ?_
      refine pw_iload_n C dX0_sumOf_13 rfl rfl ?_
      refine pw_callVt (as := [.int u3]) (rest := []) C dX0_sumOf_14 ml_X0_98 cw_X0_isPlainPendant im_X0_isPlainPendant sl_X0_isPlainPendant hb rfl ⟨by decide, by decide⟩ (c_X0_isPlainPendant h r u3 hb hr) rfl rfl (Nat.le_of_ble_eq_true rfl) ?_
      refine pm_if_eq (tgt := 51) C dX0_sumOf_17 (by decide) (fun c3 => ?_) (fun c3 => ?_)
      · refine pw_iinc (lv2 := [some (.ref (w.2.1 b)), some (.int a1), some (.int u2), some (.int (u3 + 1)), none]) C dX0_sumOf_51 rfl rfl hN (by decide) rfl rfl ?_
        refine pw_goto (tgt := 4) C dX0_sumOf_54 (by decide) ?_
        exact ih u2 (u3 + 1)
      · refine pw_aload_n C dX0_sumOf_20 rfl rfl ?_
        refine pw_iload_n C dX0_sumOf_21 rfl rfl ?_
        refine pw_callVt (as := [.int u3]) (rest := []) C dX0_sumOf_22 ml_X0_89 cw_X0_groupOf im_X0_groupOf sl_X0_groupOf hb rfl ⟨by decide, by decide⟩ (c_X0_groupOf h r u3 hb hr) rfl rfl (Nat.le_of_ble_eq_true rfl) ?_
        refine pw_iload_n C dX0_sumOf_25 rfl rfl ?_
        refine pm_icmp_ne (tgt := 51) C dX0_sumOf_26 (by decide) (fun c4 => ?_) (fun c4 => ?_)
        · refine pw_aload_n C dX0_sumOf_29 rfl rfl ?_
          refine pw_iload_n C dX0_sumOf_30 rfl rfl ?_
          refine pm_callVp (as := [.int u3]) (rest := []) C dX0_sumOf_31 ml_X0_101 cw_X0_wholeOf im_X0_wholeOf sl_X0_wholeOf hb rfl ⟨by decide, by decide⟩ (c_X0_wholeOf N h r u3 hb hr) rfl rfl (Nat.le_of_ble_eq_true rfl) (fun v1 => ?_)
          refine pw_istore (lv2 := [some (.ref (w.2.1 b)), some (.int a1), some (.int u2), some (.int u3), some (.int v1)]) C dX0_sumOf_34 hN (by decide) rfl rfl ?_
          refine pw_iload C dX0_sumOf_36 rfl ?_
          refine pw_bipush (v := (-4)) C dX0_sumOf_38 (by decide) ?_
          refine pm_icmp_ne (tgt := 46) C dX0_sumOf_40 (by decide) (fun c5 => ?_) (fun c5 => ?_)
          · refine pw_bipush (v := (-4)) C dX0_sumOf_43 (by decide) ?_
            exact pm_iret C hR dX0_sumOf_45
          · refine pw_iload_n C dX0_sumOf_46 rfl rfl ?_
            refine pw_iload C dX0_sumOf_47 rfl ?_
            refine pw_iadd C dX0_sumOf_49 ?_
            refine pw_istore_n (lv2 := [some (.ref (w.2.1 b)), some (.int a1), some (.int (u2 + v1)), some (.int u3), some (.int v1)]) C dX0_sumOf_50 rfl hN (by decide) rfl rfl ?_
            refine pw_iinc (lv2 := [some (.ref (w.2.1 b)), some (.int a1), some (.int (u2 + v1)), some (.int (u3 + 1)), some (.int v1)]) C dX0_sumOf_51 rfl rfl hN (by decide) rfl rfl ?_
            refine pw_goto (tgt := 4) C dX0_sumOf_54 (by decide) ?_
            exact pw_lv (ih (u2 + v1) (u3 + 1)) ⟨rfl, rfl, rfl, rfl, trivial⟩
        · refine pw_iinc (lv2 := [some (.ref (w.2.1 b)), some (.int a1), some (.int u2), some (.int (u3 + 1)), none]) C dX0_sumOf_51 rfl rfl hN (by decide) rfl rfl ?_
          refine pw_goto (tgt := 4) C dX0_sumOf_54 (by decide) ?_
          exact ih u2 (u3 + 1)
    · refine pw_iload_n C dX0_sumOf_57 rfl rfl ?_
      exact pm_iret C hR dX0_sumOf_58
set_option maxRecDepth 100000 in
set_option maxHeartbeats 4000000 in
theorem c_X0_sumOf {l : Launch} {w : Wd} {A : Nat → Prop} {b : Nat} (N : Nat) (h : Hp) (r : Nat) (a1 : Int32) (hb : w.2.2.1[b]? = some (0, 0, [r + 2])) (hr : w.2.2.1[r]? = some (1, 179, [])) : ConI l yX0_sumOf cX0_sumOf 5 .int 4 w A [.ref (w.2.1 b), .int a1] h (Option.map (fun v => (v, h)) (fX0_sumOf N h r a1)) := by
  refine ConI.of (lv0 := [some (.ref (w.2.1 b)), some (.int a1), none, none, none]) (by decide +kernel) (Nat.le_of_ble_eq_true rfl) rfl (fun x C hR hN => ?_)
  unfold fX0_sumOf
  refine pw_iconst (v := 0) C dX0_sumOf_0 (by decide) ?_
  refine pw_istore_n (lv2 := [some (.ref (w.2.1 b)), some (.int a1), some (.int 0), none, none]) C dX0_sumOf_1 rfl hN (by decide) rfl rfl ?_
  refine pw_iconst (v := 0) C dX0_sumOf_2 (by decide) ?_
  refine pw_istore_n (lv2 := [some (.ref (w.2.1 b)), some (.int a1), some (.int 0), some (.int 0), none]) C dX0_sumOf_3 rfl hN (by decide) rfl rfl ?_
  exact kX0_sumOf_L4 C hR hN N h r a1 hb hr N 0 0
set_option maxRecDepth 100000 in
set_option maxHeartbeats 4000000 in
theorem kX1_read_J53 {w : Wd} {x : Cz} (C : Ok w x cX1_read RX1 5) (hR : OkI w x .int) (hN : xN x = 4) (N : Nat) (q1 n1 : Nat) (a2 : Int32) (hL : LX w) (hq1 : w.2.2.1[q1]? = some (2, n1, []))  : ∀ (h : Hp), PW w x 53 [some (.ref (w.2.1 2)), none, some (.int a2), none] [] h ((fX1_read_J53 N q1 n1 a2 h)) := by
  intro h
  unfold fX1_read_J53
  refine pw_aload_n C dX1_read_53 rfl rfl ?_
  refine pw_geti C (hL 2 _ rfl) rfl (k := 2) (by decide) rfl fl_X1_25 dX1_read_54 ?_
  refine pw_if_ne (tgt := 65) C dX1_read_57 (by decide) (fun c7 => ?_) (fun c7 => ?_)
  · refine pw_bipush (v := (-4)) C dX1_read_60 (by decide) ?_
    refine pw_goto (tgt := 66) C dX1_read_62 (by decide) ?_
    exact pw_iret C hR dX1_read_66
  · refine pw_iload_n C dX1_read_65 rfl rfl ?_
    exact pw_iret C hR dX1_read_66
set_option maxRecDepth 100000 in
set_option maxHeartbeats 4000000 in
theorem kX1_read_L24 {w : Wd} {x : Cz} (C : Ok w x cX1_read RX1 5) (hR : OkI w x .int) (hN : xN x = 4) (N : Nat) (q1 n1 : Nat) (a2 : Int32) (hL : LX w) (hq1 : w.2.2.1[q1]? = some (2, n1, []))  : ∀ (n : Nat) (u3 : Int32) (h : Hp), PW w x 24 [some (.ref (w.2.1 2)), some (.ref (w.2.1 q1)), some (.int a2), some (.int u3)] [] h ((fX1_read_L24 N q1 n1 a2 n u3 h)) := by
  intro n
  induction n with
  | zero => intro u3 h; rw [fX1_read_L24]; exact pw_none
  | succ n ih =>
    intro u3 h
    rw [fX1_read_L24]
    refine pw_iload_n C dX1_read_24 rfl rfl ?_
    refine pw_iload_n C dX1_read_25 rfl rfl ?_
    refine pw_icmp_ge (tgt := 53) C dX1_read_26 (by decide) (fun c8 => ?_) (fun c8 => ?_)
    · refine pw_iload_n C dX1_read_29 rfl rfl ?_
      refine pw_aload_n C dX1_read_30 rfl rfl ?_
      refine pw_calen (v := (Int32.ofNat n1)) C hq1 rfl dX1_read_31 ?_
      refine pw_icmp_ge (tgt := 53) C dX1_read_32 (by decide) (fun c9 => ?_) (fun c9 => ?_)
      · refine pw_aload_n C dX1_read_35 rfl rfl ?_
        refine pw_aload_n C dX1_read_36 rfl rfl ?_
        refine pw_iload_n C dX1_read_37 rfl rfl ?_
        refine pw_caldb C hq1 dX1_read_38 (fun v5 => ?_)
        refine pw_callViq (as := [.int v5]) (rest := []) C dX1_read_39 ml_X1_36 cw_X1_takes im_X1_takes sl_X1_takes (hL 2 _ rfl) rfl ⟨by decide, by decide⟩ (c_X1_takes N h v5 hL) rfl rfl (Nat.le_of_ble_eq_true rfl) (fun z6 => ?_)
        refine pw_if_ne (tgt := 47) C dX1_read_42 (by decide) (fun c10 => ?_) (fun c10 => ?_)
        · refine pw_iload_n C dX1_read_45 rfl rfl ?_
          exact pw_iret C hR dX1_read_46
        · refine pw_iinc (lv2 := [some (.ref (w.2.1 2)), some (.ref (w.2.1 q1)), some (.int a2), some (.int (u3 + 1))]) C dX1_read_47 rfl rfl hN (by decide) rfl rfl ?_
          refine pw_goto (tgt := 24) C dX1_read_50 (by decide) ?_
          exact ih (u3 + 1) z6.2
      · exact pw_lv (kX1_read_J53 C hR hN N q1 n1 a2 hL hq1 h) ⟨rfl, rfl, trivial⟩
    · exact pw_lv (kX1_read_J53 C hR hN N q1 n1 a2 hL hq1 h) ⟨rfl, rfl, trivial⟩
set_option maxRecDepth 100000 in
set_option maxHeartbeats 4000000 in
theorem c_X1_read {l : Launch} {w : Wd} {A : Nat → Prop} (N : Nat) (h : Hp) (q1 n1 : Nat) (a2 : Int32) (hL : LX w) (hq1 : w.2.2.1[q1]? = some (2, n1, [])) : ConI l yX1_read cX1_read 4 .int 5 w A [.ref (w.2.1 2), .ref (w.2.1 q1), .int a2] h ((fX1_read N h q1 n1 a2)) := by
  refine ConI.of (lv0 := [some (.ref (w.2.1 2)), some (.ref (w.2.1 q1)), some (.int a2), none]) (by decide +kernel) (Nat.le_of_ble_eq_true rfl) rfl (fun x C hR hN => ?_)
  unfold fX1_read
  refine pw_aload_n C dX1_read_0 rfl rfl ?_
  refine pw_getr (q2 := 3) C (hL 2 _ rfl) rfl (k := 0) (by decide) rfl fl_X1_12 dX1_read_1 ?_
  refine pw_callVvq (as := []) (rest := []) C dX1_read_4 ml_X1_22 cw_X0_clear im_X0_clear sl_X0_clear (hL 3 _ rfl) rfl ⟨by decide, by decide⟩ (c_X0_clear N h 4 (hL 3 _ rfl) (hL 4 _ rfl)) rfl rfl (Nat.le_of_ble_eq_true rfl) (fun z1 => ?_)
  refine pw_aload_n C dX1_read_7 rfl rfl ?_
  refine pw_iconst (v := 0) C dX1_read_8 (by decide) ?_
  refine pw_puti C (hL 2 _ rfl) rfl (k := 2) (by decide) rfl fl_X1_25 dX1_read_9 rfl (by decide) ?_
  refine pw_nameh (fun g2 => ?_)
  refine pw_aload_n C dX1_read_12 rfl rfl ?_
  refine pw_iconst (v := 0) C dX1_read_13 (by decide) ?_
  refine pw_puti C (hL 2 _ rfl) rfl (k := 3) (by decide) rfl fl_X1_29 dX1_read_14 rfl (by decide) ?_
  refine pw_nameh (fun g3 => ?_)
  refine pw_aload_n C dX1_read_17 rfl rfl ?_
  refine pw_iconst (v := 0) C dX1_read_18 (by decide) ?_
  refine pw_putz C (hL 2 _ rfl) rfl (k := 4) (by decide) rfl fl_X1_32 dX1_read_19 rfl (by decide) (by decide) ?_
  refine pw_nameh (fun g4 => ?_)
  refine pw_iconst (v := 0) C dX1_read_22 (by decide) ?_
  refine pw_istore_n (lv2 := [some (.ref (w.2.1 2)), some (.ref (w.2.1 q1)), some (.int a2), some (.int 0)]) C dX1_read_23 rfl hN (by decide) rfl rfl ?_
  exact kX1_read_L24 C hR hN N q1 n1 a2 hL hq1 N 0 g4
