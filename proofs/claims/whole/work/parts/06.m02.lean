set_option maxRecDepth 100000 in
set_option maxHeartbeats 4000000 in
theorem kX5_knots__L4 {w : Wd} {x : Cz} (C : Ok w x cX5_knots_ RX5 1) (hR : OkI w x .int) (hN : xN x = 4) (N : Nat) (h : Hp) (a1 : Int32) (hM : LM w)  : ∀ (n : Nat) (u2 : Int32) (u3 : Int32), PW w x 4 [some (.ref (w.2.1 22)), some (.int a1), some (.int u2), some (.int u3)] [] h (Option.map (fun v => (v, h)) (fX5_knots__L4 N h a1 n u2 u3)) := by
  intro n
  induction n with
  | zero => intro u2 u3; rw [fX5_knots__L4]; exact pw_none
  | succ n ih =>
    intro u2 u3
    rw [fX5_knots__L4]
    refine pw_iload_n C dX5_knots__4 rfl rfl ?_
    refine pw_aload_n C dX5_knots__5 rfl rfl ?_
    refine pw_getr (q2 := 23) C (hM 22 _ rfl (by decide)) rfl (k := 0) (by decide) rfl fl_X5_7 dX5_knots__6 ?_
    refine pw_bipush (v := 18) C dX5_knots__9 (by decide) ?_
    refine pw_iload_n C dX5_knots__11 rfl rfl ?_
    refine pw_iadd C dX5_knots__12 ?_
    refine pm_ialdb C (hM 23 _ rfl (by decide)) dX5_knots__13 (fun v1 => ?_)
    refine pm_icmp_ge (tgt := 35) C dX5_knots__14 (by decide) (fun c4 => ?_) (fun c4 => ?_)
    · refine pw_iload_n C dX5_knots__17 rfl rfl ?_
      refine pw_aload_n C dX5_knots__18 rfl rfl ?_
      refine pw_iload_n C dX5_knots__19 rfl rfl ?_
      refine pw_iload_n C dX5_knots__20 rfl rfl ?_
      refine pm_callVp (as := [.int a1, .int u3]) (rest := [.int u2]) C dX5_knots__21 ml_X5_134 cw_X5_knot0 im_X5_knot0 sl_X5_knot0 (hM 22 _ rfl (by decide)) rfl ⟨by decide, by decide⟩ (c_X5_knot0 h a1 u3 hM) rfl rfl (Nat.le_of_ble_eq_true rfl) (fun v2 => ?_)
      refine pw_callSt (as := [.int v2]) (rest := [.int u2]) C dX5_knots__24 ml_X5_153 cw_X5_knotsOf st_X5_knotsOf ⟨by decide, by decide⟩ (c_X5_knotsOf h v2) rfl rfl (Nat.le_of_ble_eq_true rfl) ?_
      refine pw_iadd C dX5_knots__27 ?_
      refine pm_name (fun v3 => ?_)
      refine pw_istore_n (lv2 := [some (.ref (w.2.1 22)), some (.int a1), some (.int v3), some (.int u3)]) C dX5_knots__28 rfl hN (by decide) rfl rfl ?_
      refine pw_iinc (lv2 := [some (.ref (w.2.1 22)), some (.int a1), some (.int v3), some (.int (u3 + 1))]) C dX5_knots__29 rfl rfl hN (by decide) rfl rfl ?_
      refine pw_goto (tgt := 4) C dX5_knots__32 (by decide) ?_
      exact ih v3 (u3 + 1)
    · refine pw_iload_n C dX5_knots__35 rfl rfl ?_
      exact pm_iret C hR dX5_knots__36
set_option maxRecDepth 100000 in
set_option maxHeartbeats 4000000 in
theorem c_X5_knots_ {l : Launch} {w : Wd} {A : Nat → Prop} (N : Nat) (h : Hp) (a1 : Int32) (hM : LM w) : ConI l yX5_knots_ cX5_knots_ 4 .int 1 w A [.ref (w.2.1 22), .int a1] h (Option.map (fun v => (v, h)) (fX5_knots_ N h a1)) := by
  refine ConI.of (lv0 := [some (.ref (w.2.1 22)), some (.int a1), none, none]) (by decide +kernel) (Nat.le_of_ble_eq_true rfl) rfl (fun x C hR hN => ?_)
  unfold fX5_knots_
  refine pw_iconst (v := 0) C dX5_knots__0 (by decide) ?_
  refine pw_istore_n (lv2 := [some (.ref (w.2.1 22)), some (.int a1), some (.int 0), none]) C dX5_knots__1 rfl hN (by decide) rfl rfl ?_
  refine pw_iconst (v := 0) C dX5_knots__2 (by decide) ?_
  refine pw_istore_n (lv2 := [some (.ref (w.2.1 22)), some (.int a1), some (.int 0), some (.int 0)]) C dX5_knots__3 rfl hN (by decide) rfl rfl ?_
  exact kX5_knots__L4 C hR hN N h a1 hM N 0 0
set_option maxRecDepth 100000 in
set_option maxHeartbeats 4000000 in
theorem kX5_remember_J50 {w : Wd} {x : Cz} (C : Ok w x cX5_remember RX5 1) (hR : OkV w x) (hN : xN x = 2) (N : Nat) (hM : LM w)  : ∀ (h : Hp), PW w x 50 [some (.ref (w.2.1 22)), none] [] h ((fX5_remember_J50 N h)) := by
  intro h
  unfold fX5_remember_J50
  refine pw_aload_n C dX5_remember_50 rfl rfl ?_
  refine pw_getr (q2 := 23) C (hM 22 _ rfl (by decide)) rfl (k := 0) (by decide) rfl fl_X5_7 dX5_remember_51 ?_
  refine pw_iconst (v := 0) C dX5_remember_54 (by decide) ?_
  refine pw_aload_n C dX5_remember_55 rfl rfl ?_
  refine pw_getr (q2 := 24) C (hM 22 _ rfl (by decide)) rfl (k := 1) (by decide) rfl fl_X5_13 dX5_remember_56 ?_
  refine pw_sipush (v := 162) C dX5_remember_59 (by decide) ?_
  refine pw_aload_n C dX5_remember_62 rfl rfl ?_
  refine pw_geti C (hM 22 _ rfl (by decide)) rfl (k := 2) (by decide) rfl fl_X5_122 dX5_remember_63 ?_
  refine pw_imul C dX5_remember_66 ?_
  refine pw_callSvq (as := [.ref (w.2.1 23), .int 0, .ref (w.2.1 24), .int (162 * (h 22 2))]) (rest := []) C dX5_remember_67 ml_X5_118 cw_X5_copies st_X5_copies ⟨by decide, by decide⟩ (c_X5_copies N h 23 162 0 24 1296 (162 * (h 22 2)) (hM 23 _ rfl (by decide)) (hM 24 _ rfl (by decide))) rfl rfl (Nat.le_of_ble_eq_true rfl) (fun z4 => ?_)
  refine pw_aload_n C dX5_remember_70 rfl rfl ?_
  refine pw_dup C dX5_remember_71 rfl ?_
  refine pw_geti C (hM 22 _ rfl (by decide)) rfl (k := 2) (by decide) rfl fl_X5_122 dX5_remember_72 ?_
  refine pw_iconst (v := 1) C dX5_remember_75 (by decide) ?_
  refine pw_iadd C dX5_remember_76 ?_
  refine pw_puti C (hM 22 _ rfl (by decide)) rfl (k := 2) (by decide) rfl fl_X5_122 dX5_remember_77 rfl (by decide) ?_
  refine pw_nameh (fun g5 => ?_)
  exact pw_vret C hR dX5_remember_80
set_option maxRecDepth 100000 in
set_option maxHeartbeats 4000000 in
theorem kX5_remember_L11 {w : Wd} {x : Cz} (C : Ok w x cX5_remember RX5 1) (hR : OkV w x) (hN : xN x = 2) (N : Nat) (hM : LM w)  : ∀ (n : Nat) (u1 : Int32) (h : Hp), PW w x 11 [some (.ref (w.2.1 22)), some (.int u1)] [] h ((fX5_remember_L11 N n u1 h)) := by
  intro n
  induction n with
  | zero => intro u1 h; rw [fX5_remember_L11]; exact pw_none
  | succ n ih =>
    intro u1 h
    rw [fX5_remember_L11]
    refine pw_iload_n C dX5_remember_11 rfl rfl ?_
    refine pw_sipush (v := 1134) C dX5_remember_12 (by decide) ?_
    refine pw_icmp_ge (tgt := 40) C dX5_remember_15 (by decide) (fun c6 => ?_) (fun c6 => ?_)
    · refine pw_aload_n C dX5_remember_18 rfl rfl ?_
      refine pw_getr (q2 := 24) C (hM 22 _ rfl (by decide)) rfl (k := 1) (by decide) rfl fl_X5_13 dX5_remember_19 ?_
      refine pw_iload_n C dX5_remember_22 rfl rfl ?_
      refine pw_aload_n C dX5_remember_23 rfl rfl ?_
      refine pw_getr (q2 := 24) C (hM 22 _ rfl (by decide)) rfl (k := 1) (by decide) rfl fl_X5_13 dX5_remember_24 ?_
      refine pw_iload_n C dX5_remember_27 rfl rfl ?_
      refine pw_sipush (v := 162) C dX5_remember_28 (by decide) ?_
      refine pw_iadd C dX5_remember_31 ?_
      refine pw_ialdb C (hM 24 _ rfl (by decide)) dX5_remember_32 (fun v1 => ?_)
      refine pw_iast C (hM 24 _ rfl (by decide)) dX5_remember_33 ?_
      refine pw_nameh (fun g2 => ?_)
      refine pw_iinc (lv2 := [some (.ref (w.2.1 22)), some (.int (u1 + 1))]) C dX5_remember_34 rfl rfl hN (by decide) rfl rfl ?_
      refine pw_goto (tgt := 11) C dX5_remember_37 (by decide) ?_
      exact ih (u1 + 1) g2
    · refine pw_aload_n C dX5_remember_40 rfl rfl ?_
      refine pw_dup C dX5_remember_41 rfl ?_
      refine pw_geti C (hM 22 _ rfl (by decide)) rfl (k := 2) (by decide) rfl fl_X5_122 dX5_remember_42 ?_
      refine pw_iconst (v := 1) C dX5_remember_45 (by decide) ?_
      refine pw_isub C dX5_remember_46 ?_
      refine pw_puti C (hM 22 _ rfl (by decide)) rfl (k := 2) (by decide) rfl fl_X5_122 dX5_remember_47 rfl (by decide) ?_
      refine pw_nameh (fun g3 => ?_)
      exact pw_lv (kX5_remember_J50 C hR hN N hM g3) ⟨rfl, trivial⟩
set_option maxRecDepth 100000 in
set_option maxHeartbeats 4000000 in
theorem c_X5_remember {l : Launch} {w : Wd} {A : Nat → Prop} (N : Nat) (h : Hp) (hM : LM w) : ConV l yX5_remember cX5_remember 2 1 w A [.ref (w.2.1 22)] h ((fX5_remember N h)) := by
  refine ConV.of (lv0 := [some (.ref (w.2.1 22)), none]) (by decide +kernel) (Nat.le_of_ble_eq_true rfl) rfl (fun x C hR hN => ?_)
  unfold fX5_remember
  refine pw_aload_n C dX5_remember_0 rfl rfl ?_
  refine pw_geti C (hM 22 _ rfl (by decide)) rfl (k := 2) (by decide) rfl fl_X5_122 dX5_remember_1 ?_
  refine pw_bipush (v := 8) C dX5_remember_4 (by decide) ?_
  refine pw_icmp_ne (tgt := 50) C dX5_remember_6 (by decide) (fun c7 => ?_) (fun c7 => ?_)
  · refine pw_iconst (v := 0) C dX5_remember_9 (by decide) ?_
    refine pw_istore_n (lv2 := [some (.ref (w.2.1 22)), some (.int 0)]) C dX5_remember_10 rfl hN (by decide) rfl rfl ?_
    exact kX5_remember_L11 C hR hN N hM N 0 h
  · exact kX5_remember_J50 C hR hN N hM h
set_option maxRecDepth 100000 in
set_option maxHeartbeats 4000000 in
theorem kX5_workFor_L8 {w : Wd} {x : Cz} (C : Ok w x cX5_workFor RX5 1) (hR : OkI w x .int) (hN : xN x = 7) (N : Nat) (h : Hp) (a1 : Int32) (a2 : Int32) (hM : LM w)  : ∀ (n : Nat) (u3 : Int32) (u4 : Int32) (u5 : Int32), PW w x 8 [some (.ref (w.2.1 22)), some (.int a1), none, some (.int u3), some (.int u4), some (.int u5), none] [] h (Option.map (fun v => (v, h)) (fX5_workFor_L8 N h a1 a2 n u3 u4 u5)) := by
  intro n
  induction n with
  | zero => intro u3 u4 u5; rw [fX5_workFor_L8]; exact pw_none
  | succ n ih =>
    intro u3 u4 u5
    rw [fX5_workFor_L8]
    refine pw_iload C dX5_workFor_8 rfl ?_
    refine pw_aload_n C dX5_workFor_10 rfl rfl ?_
    refine pw_getr (q2 := 23) C (hM 22 _ rfl (by decide)) rfl (k := 0) (by decide) rfl fl_X5_7 dX5_workFor_11 ?_
    refine pw_bipush (v := 18) C dX5_workFor_14 (by decide) ?_
    refine pw_iload_n C dX5_workFor_16 rfl rfl ?_
    refine pw_iadd C dX5_workFor_17 ?_
    refine pm_ialdb C (hM 23 _ rfl (by decide)) dX5_workFor_18 (fun v1 => ?_)
    refine pm_icmp_ge (tgt := 82) C dX5_workFor_19 (by decide) (fun c6 => ?_) (fun c6 => ?_)
    · refine pw_iload C dX5_workFor_22 rfl ?_
      refine pw_bipush (v := 10) C dX5_workFor_24 (by decide) ?_
      refine pw_irem C dX5_workFor_26 (by decide) ?_
      refine pw_iload C dX5_workFor_27 rfl ?_
      refine pw_callSt (as := [.int (u4 - u4 / 10 * 10), .int u5]) (rest := []) C dX5_workFor_29 ml_X5_195 cw_X5_clusterFor st_X5_clusterFor ⟨by decide, by decide⟩ (c_X5_clusterFor h (u4 - u4 / 10 * 10) u5) rfl rfl (Nat.le_of_ble_eq_true rfl) ?_
      refine pm_name (fun v2 => ?_)
      refine pw_istore (lv2 := [some (.ref (w.2.1 22)), some (.int a1), none, some (.int u3), some (.int u4), some (.int u5), some (.int v2)]) C dX5_workFor_32 hN (by decide) rfl rfl ?_
      refine pw_iload C dX5_workFor_34 rfl ?_
      refine pw_bipush (v := 10) C dX5_workFor_36 (by decide) ?_
      refine pw_idiv C dX5_workFor_38 (by decide) ?_
      refine pw_istore (lv2 := [some (.ref (w.2.1 22)), some (.int a1), none, some (.int u3), some (.int (u4 / 10)), some (.int u5), some (.int v2)]) C dX5_workFor_39 hN (by decide) rfl rfl ?_
      refine pw_iload_n C dX5_workFor_41 rfl rfl ?_
      refine pw_iload C dX5_workFor_42 rfl ?_
      refine pw_aload_n C dX5_workFor_44 rfl rfl ?_
      refine pw_iload_n C dX5_workFor_45 rfl rfl ?_
      refine pw_iload C dX5_workFor_46 rfl ?_
      refine pm_callVp (as := [.int a1, .int u5]) (rest := [.int v2, .int u3]) C dX5_workFor_48 ml_X5_134 cw_X5_knot0 im_X5_knot0 sl_X5_knot0 (hM 22 _ rfl (by decide)) rfl ⟨by decide, by decide⟩ (c_X5_knot0 h a1 u5 hM) rfl rfl (Nat.le_of_ble_eq_true rfl) (fun v3 => ?_)
      refine pm_icmp_ne (tgt := 58) C dX5_workFor_51 (by decide) (fun c7 => ?_) (fun c7 => ?_)
      · refine pw_iconst (v := 0) C dX5_workFor_54 (by decide) ?_
        refine pw_goto (tgt := 74) C dX5_workFor_55 (by decide) ?_
        refine pw_iadd C dX5_workFor_74 ?_
        refine pw_istore_n (lv2 := [some (.ref (w.2.1 22)), some (.int a1), none, some (.int (u3 + 0)), some (.int (u4 / 10)), some (.int u5), some (.int v2)]) C dX5_workFor_75 rfl hN (by decide) rfl rfl ?_
        refine pw_iinc (lv2 := [some (.ref (w.2.1 22)), some (.int a1), none, some (.int (u3 + 0)), some (.int (u4 / 10)), some (.int (u5 + 1)), some (.int v2)]) C dX5_workFor_76 rfl rfl hN (by decide) rfl rfl ?_
        refine pw_goto (tgt := 8) C dX5_workFor_79 (by decide) ?_
        exact pw_lv (ih (u3 + 0) (u4 / 10) (u5 + 1)) ⟨rfl, rfl, rfl, rfl, rfl, trivial⟩
      · refine pw_iload C dX5_workFor_58 rfl ?_
        refine pw_callSt (as := [.int v2]) (rest := [.int u3]) C dX5_workFor_60 ml_X5_153 cw_X5_knotsOf st_X5_knotsOf ⟨by decide, by decide⟩ (c_X5_knotsOf h v2) rfl rfl (Nat.le_of_ble_eq_true rfl) ?_
        refine pw_aload_n C dX5_workFor_63 rfl rfl ?_
        refine pw_iload_n C dX5_workFor_64 rfl rfl ?_
        refine pw_iload C dX5_workFor_65 rfl ?_
        refine pm_callVp (as := [.int a1, .int u5]) (rest := [.int (fX5_knotsOf h v2), .int u3]) C dX5_workFor_67 ml_X5_134 cw_X5_knot0 im_X5_knot0 sl_X5_knot0 (hM 22 _ rfl (by decide)) rfl ⟨by decide, by decide⟩ (c_X5_knot0 h a1 u5 hM) rfl rfl (Nat.le_of_ble_eq_true rfl) (fun v4 => ?_)
        refine pw_callSt (as := [.int v4]) (rest := [.int (fX5_knotsOf h v2), .int u3]) C dX5_workFor_70 ml_X5_153 cw_X5_knotsOf st_X5_knotsOf ⟨by decide, by decide⟩ (c_X5_knotsOf h v4) rfl rfl (Nat.le_of_ble_eq_true rfl) ?_
        refine pw_iadd C dX5_workFor_73 ?_
        refine pw_iadd C dX5_workFor_74 ?_
        refine pm_name (fun v5 => ?_)
        refine pw_istore_n (lv2 := [some (.ref (w.2.1 22)), some (.int a1), none, some (.int v5), some (.int (u4 / 10)), some (.int u5), some (.int v2)]) C dX5_workFor_75 rfl hN (by decide) rfl rfl ?_
        refine pw_iinc (lv2 := [some (.ref (w.2.1 22)), some (.int a1), none, some (.int v5), some (.int (u4 / 10)), some (.int (u5 + 1)), some (.int v2)]) C dX5_workFor_76 rfl rfl hN (by decide) rfl rfl ?_
        refine pw_goto (tgt := 8) C dX5_workFor_79 (by decide) ?_
        exact pw_lv (ih v5 (u4 / 10) (u5 + 1)) ⟨rfl, rfl, rfl, rfl, rfl, trivial⟩
    · refine pw_iload_n C dX5_workFor_82 rfl rfl ?_
      exact pm_iret C hR dX5_workFor_83
set_option maxRecDepth 100000 in
set_option maxHeartbeats 4000000 in
theorem c_X5_workFor {l : Launch} {w : Wd} {A : Nat → Prop} (N : Nat) (h : Hp) (a1 : Int32) (a2 : Int32) (hM : LM w) : ConI l yX5_workFor cX5_workFor 7 .int 1 w A [.ref (w.2.1 22), .int a1, .int a2] h (Option.map (fun v => (v, h)) (fX5_workFor N h a1 a2)) := by
  refine ConI.of (lv0 := [some (.ref (w.2.1 22)), some (.int a1), some (.int a2), none, none, none, none]) (by decide +kernel) (Nat.le_of_ble_eq_true rfl) rfl (fun x C hR hN => ?_)
  unfold fX5_workFor
  refine pw_iconst (v := 0) C dX5_workFor_0 (by decide) ?_
  refine pw_istore_n (lv2 := [some (.ref (w.2.1 22)), some (.int a1), some (.int a2), some (.int 0), none, none, none]) C dX5_workFor_1 rfl hN (by decide) rfl rfl ?_
  refine pw_iload_n C dX5_workFor_2 rfl rfl ?_
  refine pw_istore (lv2 := [some (.ref (w.2.1 22)), some (.int a1), some (.int a2), some (.int 0), some (.int a2), none, none]) C dX5_workFor_3 hN (by decide) rfl rfl ?_
  refine pw_iconst (v := 0) C dX5_workFor_5 (by decide) ?_
  refine pw_istore (lv2 := [some (.ref (w.2.1 22)), some (.int a1), some (.int a2), some (.int 0), some (.int a2), some (.int 0), none]) C dX5_workFor_6 hN (by decide) rfl rfl ?_
  exact pw_lv (kX5_workFor_L8 C hR hN N h a1 a2 hM N 0 a2 0) ⟨rfl, rfl, rfl, rfl, rfl, trivial⟩
set_option maxRecDepth 100000 in
set_option maxHeartbeats 4000000 in
theorem c_X5_isKnot {l : Launch} {w : Wd} {A : Nat → Prop} (h : Hp) (a0 : Int32) (a1 : Int32)  : ConI l yX5_isKnot cX5_isKnot 2 .boolean 1 w A [.int a0, .int a1] h (some ((fX5_isKnot h a0 a1), h)) := by
  refine ConI.of (lv0 := [some (.int a0), some (.int a1)]) (by decide +kernel) (Nat.le_of_ble_eq_true rfl) rfl (fun x C hR hN => ?_)
  unfold fX5_isKnot
  refine pw_iload_n C dX5_isKnot_0 rfl rfl ?_
  refine pt_ite (fun e1_0 => ?_) (fun e1_0 => ?_)
  · refine pw_tsIn (tgt := 32) (off := 31) C dX5_isKnot_1 (by rw [e1_0]; decide) (by rw [e1_0]; decide) (by rw [e1_0]; decide) (by decide) ?_
    refine pw_iload_n C dX5_isKnot_32 rfl rfl ?_
    refine pt_if_ne (tgt := 40) C dX5_isKnot_33 (by decide) (fun c1 => ?_) (fun c1 => ?_)
    · refine pw_iconst (v := 1) C dX5_isKnot_36 (by decide) ?_
      refine pw_goto (tgt := 41) C dX5_isKnot_37 (by decide) ?_
      exact pt_zret' C hR dX5_isKnot_41 (by decide)
    · refine pw_iconst (v := 0) C dX5_isKnot_40 (by decide) ?_
      exact pt_zret' C hR dX5_isKnot_41 (by decide)
  · refine pt_ite (fun e1_1 => ?_) (fun e1_1 => ?_)
    · refine pw_tsIn (tgt := 42) (off := 41) C dX5_isKnot_1 (by rw [e1_1]; decide) (by rw [e1_1]; decide) (by rw [e1_1]; decide) (by decide) ?_
      refine pw_iload_n C dX5_isKnot_42 rfl rfl ?_
      refine pw_i2l C dX5_isKnot_43 ?_
      refine pw_lconst (v := 1) C dX5_isKnot_44 (by decide) ?_
      refine pw_ldc2 (C := C) cl_X5_215 dX5_isKnot_45 ?_
      refine pw_callSt (as := [.long (a1).toInt64, .long 1, .long 9]) (rest := []) C dX5_isKnot_48 ml_X5_54 cw_X5_in st_X5_in ⟨by decide, by decide⟩ (c_X5_in h (a1).toInt64 1 9) rfl rfl (Nat.le_of_ble_eq_true rfl) ?_
      exact pt_zret' C hR dX5_isKnot_51 (in01 _ _ _ _)
    · refine pt_ite (fun e1_2 => ?_) (fun e1_2 => ?_)
      · refine pw_tsIn (tgt := 52) (off := 51) C dX5_isKnot_1 (by rw [e1_2]; decide) (by rw [e1_2]; decide) (by rw [e1_2]; decide) (by decide) ?_
        refine pw_iload_n C dX5_isKnot_52 rfl rfl ?_
        refine pw_i2l C dX5_isKnot_53 ?_
        refine pw_ldc2 (C := C) cl_X5_217 dX5_isKnot_54 ?_
        refine pw_ldc2 (C := C) cl_X5_215 dX5_isKnot_57 ?_
        refine pw_callSt (as := [.long (a1).toInt64, .long 2, .long 9]) (rest := []) C dX5_isKnot_60 ml_X5_54 cw_X5_in st_X5_in ⟨by decide, by decide⟩ (c_X5_in h (a1).toInt64 2 9) rfl rfl (Nat.le_of_ble_eq_true rfl) ?_
        exact pt_zret' C hR dX5_isKnot_63 (in01 _ _ _ _)
      · refine pt_ite (fun e1_3 => ?_) (fun e1_3 => ?_)
        · refine pw_tsIn (tgt := 64) (off := 63) C dX5_isKnot_1 (by rw [e1_3]; decide) (by rw [e1_3]; decide) (by rw [e1_3]; decide) (by decide) ?_
          refine pw_iload_n C dX5_isKnot_64 rfl rfl ?_
          refine pw_iconst (v := 1) C dX5_isKnot_65 (by decide) ?_
          refine pt_icmp_ne (tgt := 73) C dX5_isKnot_66 (by decide) (fun c2 => ?_) (fun c2 => ?_)
          · refine pw_iconst (v := 1) C dX5_isKnot_69 (by decide) ?_
            refine pw_goto (tgt := 74) C dX5_isKnot_70 (by decide) ?_
            exact pt_zret' C hR dX5_isKnot_74 (by decide)
          · refine pw_iconst (v := 0) C dX5_isKnot_73 (by decide) ?_
            exact pt_zret' C hR dX5_isKnot_74 (by decide)
        · refine pw_tsOut (tgt := 75) C dX5_isKnot_1 (by have := i_neN (z := 0) (by decide) e1_0; have := i_neN (z := 1) (by decide) e1_1; have := i_neN (z := 2) (by decide) e1_2; have := i_neN (z := 3) (by decide) e1_3; omega) (by decide) ?_
          refine pw_iconst (v := 0) C dX5_isKnot_75 (by decide) ?_
          exact pt_zret' C hR dX5_isKnot_76 (by decide)
set_option maxRecDepth 100000 in
set_option maxHeartbeats 4000000 in
theorem c_X5_undo {l : Launch} {w : Wd} {A : Nat → Prop} (N : Nat) (h : Hp) (hM : LM w) : ConI l yX5_undo cX5_undo 1 .int 1 w A [.ref (w.2.1 22)] h ((fX5_undo N h)) := by
  refine ConI.of (lv0 := [some (.ref (w.2.1 22))]) (by decide +kernel) (Nat.le_of_ble_eq_true rfl) rfl (fun x C hR hN => ?_)
  unfold fX5_undo
  refine pw_aload_n C dX5_undo_0 rfl rfl ?_
  refine pw_geti C (hM 22 _ rfl (by decide)) rfl (k := 2) (by decide) rfl fl_X5_122 dX5_undo_1 ?_
  refine pw_if_ne (tgt := 10) C dX5_undo_4 (by decide) (fun c3 => ?_) (fun c3 => ?_)
  · refine pw_bipush (v := (-2)) C dX5_undo_7 (by decide) ?_
    exact pw_iret C hR dX5_undo_9
  · refine pw_aload_n C dX5_undo_10 rfl rfl ?_
    refine pw_dup C dX5_undo_11 rfl ?_
    refine pw_geti C (hM 22 _ rfl (by decide)) rfl (k := 2) (by decide) rfl fl_X5_122 dX5_undo_12 ?_
    refine pw_iconst (v := 1) C dX5_undo_15 (by decide) ?_
    refine pw_isub C dX5_undo_16 ?_
    refine pw_puti C (hM 22 _ rfl (by decide)) rfl (k := 2) (by decide) rfl fl_X5_122 dX5_undo_17 rfl (by decide) ?_
    refine pw_nameh (fun g1 => ?_)
    refine pw_aload_n C dX5_undo_20 rfl rfl ?_
    refine pw_getr (q2 := 24) C (hM 22 _ rfl (by decide)) rfl (k := 1) (by decide) rfl fl_X5_13 dX5_undo_21 ?_
    refine pw_sipush (v := 162) C dX5_undo_24 (by decide) ?_
    refine pw_aload_n C dX5_undo_27 rfl rfl ?_
    refine pw_geti C (hM 22 _ rfl (by decide)) rfl (k := 2) (by decide) rfl fl_X5_122 dX5_undo_28 ?_
    refine pw_imul C dX5_undo_31 ?_
    refine pw_aload_n C dX5_undo_32 rfl rfl ?_
    refine pw_getr (q2 := 23) C (hM 22 _ rfl (by decide)) rfl (k := 0) (by decide) rfl fl_X5_7 dX5_undo_33 ?_
    refine pw_iconst (v := 0) C dX5_undo_36 (by decide) ?_
    refine pw_callSvq (as := [.ref (w.2.1 24), .int (162 * (g1 22 2)), .ref (w.2.1 23), .int 0]) (rest := []) C dX5_undo_37 ml_X5_118 cw_X5_copies st_X5_copies ⟨by decide, by decide⟩ (c_X5_copies N g1 24 1296 (162 * (g1 22 2)) 23 162 0 (hM 24 _ rfl (by decide)) (hM 23 _ rfl (by decide))) rfl rfl (Nat.le_of_ble_eq_true rfl) (fun z2 => ?_)
    refine pw_aload_n C dX5_undo_40 rfl rfl ?_
    refine pw_geti C (hM 22 _ rfl (by decide)) rfl (k := 2) (by decide) rfl fl_X5_122 dX5_undo_41 ?_
    exact pw_iret C hR dX5_undo_44
set_option maxRecDepth 100000 in
set_option maxHeartbeats 4000000 in
theorem kX5_areAlike_L62 {w : Wd} {x : Cz} (C : Ok w x cX5_areAlike RX5 1) (hR : OkI w x .boolean) (hN : xN x = 5) (N : Nat) (h : Hp) (a1 : Int32) (a2 : Int32) (hM : LM w)  : ∀ (n : Nat) (u3 : Int32) (u4 : Int32), PW w x 62 [some (.ref (w.2.1 22)), some (.int a1), some (.int a2), some (.int u3), some (.int u4)] [] h (Option.map (fun v => (v, h)) (fX5_areAlike_L62 N h a1 a2 n u3 u4)) := by
  intro n
  induction n with
  | zero => intro u3 u4; rw [fX5_areAlike_L62]; exact pw_none
  | succ n ih =>
    intro u3 u4
    rw [fX5_areAlike_L62]
    refine pw_iload C dX5_areAlike_62 rfl ?_
    refine pw_aload_n C dX5_areAlike_64 rfl rfl ?_
    refine pw_getr (q2 := 23) C (hM 22 _ rfl (by decide)) rfl (k := 0) (by decide) rfl fl_X5_7 dX5_areAlike_65 ?_
    refine pw_bipush (v := 18) C dX5_areAlike_68 (by decide) ?_
    refine pw_iload_n C dX5_areAlike_70 rfl rfl ?_
    refine pw_iadd C dX5_areAlike_71 ?_
    refine pm_ialdb C (hM 23 _ rfl (by decide)) dX5_areAlike_72 (fun v7 => ?_)
    refine pm_icmp_ge (tgt := 109) C dX5_areAlike_73 (by decide) (fun c10 => ?_) (fun c10 => ?_)
    · refine pw_iload_n C dX5_areAlike_76 rfl rfl ?_
      refine pm_if_eq (tgt := 101) C dX5_areAlike_77 (by decide) (fun c11 => ?_) (fun c11 => ?_)
      · refine pw_iconst (v := 0) C dX5_areAlike_101 (by decide) ?_
        refine pw_istore_n (lv2 := [some (.ref (w.2.1 22)), some (.int a1), some (.int a2), some (.int 0), some (.int u4)]) C dX5_areAlike_102 rfl hN (by decide) rfl rfl ?_
        refine pw_iinc (lv2 := [some (.ref (w.2.1 22)), some (.int a1), some (.int a2), some (.int 0), some (.int (u4 + 1))]) C dX5_areAlike_103 rfl rfl hN (by decide) rfl rfl ?_
        refine pw_goto (tgt := 62) C dX5_areAlike_106 (by decide) ?_
        exact ih 0 (u4 + 1)
      · refine pw_aload_n C dX5_areAlike_80 rfl rfl ?_
        refine pw_iload_n C dX5_areAlike_81 rfl rfl ?_
        refine pw_iload C dX5_areAlike_82 rfl ?_
        refine pm_callVp (as := [.int a1, .int u4]) (rest := []) C dX5_areAlike_84 ml_X5_134 cw_X5_knot0 im_X5_knot0 sl_X5_knot0 (hM 22 _ rfl (by decide)) rfl ⟨by decide, by decide⟩ (c_X5_knot0 h a1 u4 hM) rfl rfl (Nat.le_of_ble_eq_true rfl) (fun v8 => ?_)
        refine pw_aload_n C dX5_areAlike_87 rfl rfl ?_
        refine pw_iload_n C dX5_areAlike_88 rfl rfl ?_
        refine pw_iload C dX5_areAlike_89 rfl ?_
        refine pm_callVp (as := [.int a2, .int u4]) (rest := [.int v8]) C dX5_areAlike_91 ml_X5_134 cw_X5_knot0 im_X5_knot0 sl_X5_knot0 (hM 22 _ rfl (by decide)) rfl ⟨by decide, by decide⟩ (c_X5_knot0 h a2 u4 hM) rfl rfl (Nat.le_of_ble_eq_true rfl) (fun v9 => ?_)
        refine PW.eq (apply_ite (fun z_ => Option.map (fun v => (v, h)) (fX5_areAlike_L62 N h a1 a2 n z_ (u4 + 1))) _ _ _) ?_
        refine pw_icmp_ne (tgt := 101) C dX5_areAlike_94 (by decide) (fun c12 => ?_) (fun c12 => ?_)
        · refine pw_iconst (v := 1) C dX5_areAlike_97 (by decide) ?_
          refine pw_goto (tgt := 102) C dX5_areAlike_98 (by decide) ?_
          refine pw_istore_n (lv2 := [some (.ref (w.2.1 22)), some (.int a1), some (.int a2), some (.int 1), some (.int u4)]) C dX5_areAlike_102 rfl hN (by decide) rfl rfl ?_
          refine pw_iinc (lv2 := [some (.ref (w.2.1 22)), some (.int a1), some (.int a2), some (.int 1), some (.int (u4 + 1))]) C dX5_areAlike_103 rfl rfl hN (by decide) rfl rfl ?_
          refine pw_goto (tgt := 62) C dX5_areAlike_106 (by decide) ?_
          exact ih 1 (u4 + 1)
        · refine pw_iconst (v := 0) C dX5_areAlike_101 (by decide) ?_
          refine pw_istore_n (lv2 := [some (.ref (w.2.1 22)), some (.int a1), some (.int a2), some (.int 0), some (.int u4)]) C dX5_areAlike_102 rfl hN (by decide) rfl rfl ?_
          refine pw_iinc (lv2 := [some (.ref (w.2.1 22)), some (.int a1), some (.int a2), some (.int 0), some (.int (u4 + 1))]) C dX5_areAlike_103 rfl rfl hN (by decide) rfl rfl ?_
          refine pw_goto (tgt := 62) C dX5_areAlike_106 (by decide) ?_
          exact ih 0 (u4 + 1)
    · refine pw_iload_n C dX5_areAlike_109 rfl rfl ?_
      exact pm_zret C hR dX5_areAlike_110
set_option maxRecDepth 100000 in
set_option maxHeartbeats 4000000 in
theorem c_X5_areAlike {l : Launch} {w : Wd} {A : Nat → Prop} (N : Nat) (h : Hp) (a1 : Int32) (a2 : Int32) (hM : LM w) : ConI l yX5_areAlike cX5_areAlike 5 .boolean 1 w A [.ref (w.2.1 22), .int a1, .int a2] h (Option.map (fun v => (v, h)) (fX5_areAlike N h a1 a2)) := by
  refine ConI.of (lv0 := [some (.ref (w.2.1 22)), some (.int a1), some (.int a2), none, none]) (by decide +kernel) (Nat.le_of_ble_eq_true rfl) rfl (fun x C hR hN => ?_)
  unfold fX5_areAlike
  refine pw_aload_n C dX5_areAlike_0 rfl rfl ?_
  refine pw_getr (q2 := 23) C (hM 22 _ rfl (by decide)) rfl (k := 0) (by decide) rfl fl_X5_7 dX5_areAlike_1 ?_
  refine pw_iconst (v := 2) C dX5_areAlike_4 (by decide) ?_
  refine pw_iload_n C dX5_areAlike_5 rfl rfl ?_
  refine pw_iadd C dX5_areAlike_6 ?_
  refine pm_ialdb C (hM 23 _ rfl (by decide)) dX5_areAlike_7 (fun v1 => ?_)
  refine pw_aload_n C dX5_areAlike_8 rfl rfl ?_
  refine pw_getr (q2 := 23) C (hM 22 _ rfl (by decide)) rfl (k := 0) (by decide) rfl fl_X5_7 dX5_areAlike_9 ?_
  refine pw_iconst (v := 2) C dX5_areAlike_12 (by decide) ?_
  refine pw_iload_n C dX5_areAlike_13 rfl rfl ?_
  refine pw_iadd C dX5_areAlike_14 ?_
  refine pm_ialdb C (hM 23 _ rfl (by decide)) dX5_areAlike_15 (fun v2 => ?_)
  refine pm_icmp_ne (tgt := 57) C dX5_areAlike_16 (by decide) (fun c13 => ?_) (fun c13 => ?_)
  · refine pw_aload_n C dX5_areAlike_19 rfl rfl ?_
    refine pw_getr (q2 := 23) C (hM 22 _ rfl (by decide)) rfl (k := 0) (by decide) rfl fl_X5_7 dX5_areAlike_20 ?_
    refine pw_bipush (v := 18) C dX5_areAlike_23 (by decide) ?_
    refine pw_iload_n C dX5_areAlike_25 rfl rfl ?_
    refine pw_iadd C dX5_areAlike_26 ?_
    refine pm_ialdb C (hM 23 _ rfl (by decide)) dX5_areAlike_27 (fun v3 => ?_)
    refine pw_aload_n C dX5_areAlike_28 rfl rfl ?_
    refine pw_getr (q2 := 23) C (hM 22 _ rfl (by decide)) rfl (k := 0) (by decide) rfl fl_X5_7 dX5_areAlike_29 ?_
    refine pw_bipush (v := 18) C dX5_areAlike_32 (by decide) ?_
    refine pw_iload_n C dX5_areAlike_34 rfl rfl ?_
    refine pw_iadd C dX5_areAlike_35 ?_
    refine pm_ialdb C (hM 23 _ rfl (by decide)) dX5_areAlike_36 (fun v4 => ?_)
    refine pm_icmp_ne (tgt := 57) C dX5_areAlike_37 (by decide) (fun c14 => ?_) (fun c14 => ?_)
    · refine pw_aload_n C dX5_areAlike_40 rfl rfl ?_
      refine pw_iload_n C dX5_areAlike_41 rfl rfl ?_
      refine pm_callVp (as := [.int a1]) (rest := []) C dX5_areAlike_42 ml_X5_162 cw_X5_hanging im_X5_hanging sl_X5_hanging (hM 22 _ rfl (by decide)) rfl ⟨by decide, by decide⟩ (c_X5_hanging N h a1 hM) rfl rfl (Nat.le_of_ble_eq_true rfl) (fun v5 => ?_)
      refine pw_aload_n C dX5_areAlike_45 rfl rfl ?_
      refine pw_iload_n C dX5_areAlike_46 rfl rfl ?_
      refine pm_callVp (as := [.int a2]) (rest := [.int v5]) C dX5_areAlike_47 ml_X5_162 cw_X5_hanging im_X5_hanging sl_X5_hanging (hM 22 _ rfl (by decide)) rfl ⟨by decide, by decide⟩ (c_X5_hanging N h a2 hM) rfl rfl (Nat.le_of_ble_eq_true rfl) (fun v6 => ?_)
      refine PW.eq (apply_ite (fun z_ => Option.map (fun v => (v, h)) (fX5_areAlike_L62 N h a1 a2 N z_ 0)) _ _ _) ?_
      refine pw_icmp_ne (tgt := 57) C dX5_areAlike_50 (by decide) (fun c15 => ?_) (fun c15 => ?_)
      · refine pw_iconst (v := 1) C dX5_areAlike_53 (by decide) ?_
        refine pw_goto (tgt := 58) C dX5_areAlike_54 (by decide) ?_
        refine pw_istore_n (lv2 := [some (.ref (w.2.1 22)), some (.int a1), some (.int a2), some (.int 1), none]) C dX5_areAlike_58 rfl hN (by decide) rfl rfl ?_
        refine pw_iconst (v := 0) C dX5_areAlike_59 (by decide) ?_
        refine pw_istore (lv2 := [some (.ref (w.2.1 22)), some (.int a1), some (.int a2), some (.int 1), some (.int 0)]) C dX5_areAlike_60 hN (by decide) rfl rfl ?_
        exact kX5_areAlike_L62 C hR hN N h a1 a2 hM N 1 0
      · refine pw_iconst (v := 0) C dX5_areAlike_57 (by decide) ?_
        refine pw_istore_n (lv2 := [some (.ref (w.2.1 22)), some (.int a1), some (.int a2), some (.int 0), none]) C dX5_areAlike_58 rfl hN (by decide) rfl rfl ?_
        refine pw_iconst (v := 0) C dX5_areAlike_59 (by decide) ?_
        refine pw_istore (lv2 := [some (.ref (w.2.1 22)), some (.int a1), some (.int a2), some (.int 0), some (.int 0)]) C dX5_areAlike_60 hN (by decide) rfl rfl ?_
        exact kX5_areAlike_L62 C hR hN N h a1 a2 hM N 0 0
    · refine pw_iconst (v := 0) C dX5_areAlike_57 (by decide) ?_
      refine pw_istore_n (lv2 := [some (.ref (w.2.1 22)), some (.int a1), some (.int a2), some (.int 0), none]) C dX5_areAlike_58 rfl hN (by decide) rfl rfl ?_
      refine pw_iconst (v := 0) C dX5_areAlike_59 (by decide) ?_
      refine pw_istore (lv2 := [some (.ref (w.2.1 22)), some (.int a1), some (.int a2), some (.int 0), some (.int 0)]) C dX5_areAlike_60 hN (by decide) rfl rfl ?_
      exact kX5_areAlike_L62 C hR hN N h a1 a2 hM N 0 0
  · refine pw_iconst (v := 0) C dX5_areAlike_57 (by decide) ?_
    refine pw_istore_n (lv2 := [some (.ref (w.2.1 22)), some (.int a1), some (.int a2), some (.int 0), none]) C dX5_areAlike_58 rfl hN (by decide) rfl rfl ?_
    refine pw_iconst (v := 0) C dX5_areAlike_59 (by decide) ?_
    refine pw_istore (lv2 := [some (.ref (w.2.1 22)), some (.int a1), some (.int a2), some (.int 0), some (.int 0)]) C dX5_areAlike_60 hN (by decide) rfl rfl ?_
    exact kX5_areAlike_L62 C hR hN N h a1 a2 hM N 0 0
set_option maxRecDepth 100000 in
set_option maxHeartbeats 4000000 in
theorem c_X5_keep {l : Launch} {w : Wd} {A : Nat → Prop} (N : Nat) (h : Hp) (hM : LM w) : ConI l yX5_keep cX5_keep 1 .int 1 w A [.ref (w.2.1 22)] h ((fX5_keep N h)) := by
  refine ConI.of (lv0 := [some (.ref (w.2.1 22))]) (by decide +kernel) (Nat.le_of_ble_eq_true rfl) rfl (fun x C hR hN => ?_)
  unfold fX5_keep
  refine pw_aload_n C dX5_keep_0 rfl rfl ?_
  refine pw_geti C (hM 22 _ rfl (by decide)) rfl (k := 4) (by decide) rfl fl_X5_125 dX5_keep_1 ?_
  refine pw_iconst (v := 2) C dX5_keep_4 (by decide) ?_
  refine pw_icmp_ne (tgt := 11) C dX5_keep_5 (by decide) (fun c3 => ?_) (fun c3 => ?_)
  · refine pw_bipush (v := (-3)) C dX5_keep_8 (by decide) ?_
    exact pw_iret C hR dX5_keep_10
  · refine pw_aload_n C dX5_keep_11 rfl rfl ?_
    refine pw_getr (q2 := 23) C (hM 22 _ rfl (by decide)) rfl (k := 0) (by decide) rfl fl_X5_7 dX5_keep_12 ?_
    refine pw_iconst (v := 0) C dX5_keep_15 (by decide) ?_
    refine pw_aload_n C dX5_keep_16 rfl rfl ?_
    refine pw_getr (q2 := 25) C (hM 22 _ rfl (by decide)) rfl (k := 3) (by decide) rfl fl_X5_16 dX5_keep_17 ?_
    refine pw_sipush (v := 162) C dX5_keep_20 (by decide) ?_
    refine pw_aload_n C dX5_keep_23 rfl rfl ?_
    refine pw_geti C (hM 22 _ rfl (by decide)) rfl (k := 4) (by decide) rfl fl_X5_125 dX5_keep_24 ?_
    refine pw_imul C dX5_keep_27 ?_
    refine pw_callSvq (as := [.ref (w.2.1 23), .int 0, .ref (w.2.1 25), .int (162 * (h 22 4))]) (rest := []) C dX5_keep_28 ml_X5_118 cw_X5_copies st_X5_copies ⟨by decide, by decide⟩ (c_X5_copies N h 23 162 0 25 324 (162 * (h 22 4)) (hM 23 _ rfl (by decide)) (hM 25 _ rfl (by decide))) rfl rfl (Nat.le_of_ble_eq_true rfl) (fun z1 => ?_)
    refine pw_aload_n C dX5_keep_31 rfl rfl ?_
    refine pw_dup C dX5_keep_32 rfl ?_
    refine pw_geti C (hM 22 _ rfl (by decide)) rfl (k := 4) (by decide) rfl fl_X5_125 dX5_keep_33 ?_
    refine pw_iconst (v := 1) C dX5_keep_36 (by decide) ?_
    refine pw_iadd C dX5_keep_37 ?_
    refine pw_puti C (hM 22 _ rfl (by decide)) rfl (k := 4) (by decide) rfl fl_X5_125 dX5_keep_38 rfl (by decide) ?_
    refine pw_nameh (fun g2 => ?_)
    refine pw_aload_n C dX5_keep_41 rfl rfl ?_
    refine pw_geti C (hM 22 _ rfl (by decide)) rfl (k := 4) (by decide) rfl fl_X5_125 dX5_keep_42 ?_
    exact pw_iret C hR dX5_keep_45
set_option maxRecDepth 100000 in
set_option maxHeartbeats 4000000 in
theorem c_X5_back {l : Launch} {w : Wd} {A : Nat → Prop} (N : Nat) (h : Hp) (hM : LM w) : ConI l yX5_back cX5_back 1 .int 1 w A [.ref (w.2.1 22)] h ((fX5_back N h)) := by
  refine ConI.of (lv0 := [some (.ref (w.2.1 22))]) (by decide +kernel) (Nat.le_of_ble_eq_true rfl) rfl (fun x C hR hN => ?_)
  unfold fX5_back
  refine pw_aload_n C dX5_back_0 rfl rfl ?_
  refine pw_geti C (hM 22 _ rfl (by decide)) rfl (k := 4) (by decide) rfl fl_X5_125 dX5_back_1 ?_
  refine pw_if_ne (tgt := 10) C dX5_back_4 (by decide) (fun c4 => ?_) (fun c4 => ?_)
  · refine pw_bipush (v := (-2)) C dX5_back_7 (by decide) ?_
    exact pw_iret C hR dX5_back_9
  · refine pw_aload_n C dX5_back_10 rfl rfl ?_
    refine pw_dup C dX5_back_11 rfl ?_
    refine pw_geti C (hM 22 _ rfl (by decide)) rfl (k := 4) (by decide) rfl fl_X5_125 dX5_back_12 ?_
    refine pw_iconst (v := 1) C dX5_back_15 (by decide) ?_
    refine pw_isub C dX5_back_16 ?_
    refine pw_puti C (hM 22 _ rfl (by decide)) rfl (k := 4) (by decide) rfl fl_X5_125 dX5_back_17 rfl (by decide) ?_
    refine pw_nameh (fun g1 => ?_)
    refine pw_aload_n C dX5_back_20 rfl rfl ?_
    refine pw_getr (q2 := 25) C (hM 22 _ rfl (by decide)) rfl (k := 3) (by decide) rfl fl_X5_16 dX5_back_21 ?_
    refine pw_sipush (v := 162) C dX5_back_24 (by decide) ?_
    refine pw_aload_n C dX5_back_27 rfl rfl ?_
    refine pw_geti C (hM 22 _ rfl (by decide)) rfl (k := 4) (by decide) rfl fl_X5_125 dX5_back_28 ?_
    refine pw_imul C dX5_back_31 ?_
    refine pw_aload_n C dX5_back_32 rfl rfl ?_
    refine pw_getr (q2 := 23) C (hM 22 _ rfl (by decide)) rfl (k := 0) (by decide) rfl fl_X5_7 dX5_back_33 ?_
    refine pw_iconst (v := 0) C dX5_back_36 (by decide) ?_
    refine pw_callSvq (as := [.ref (w.2.1 25), .int (162 * (g1 22 4)), .ref (w.2.1 23), .int 0]) (rest := []) C dX5_back_37 ml_X5_118 cw_X5_copies st_X5_copies ⟨by decide, by decide⟩ (c_X5_copies N g1 25 324 (162 * (g1 22 4)) 23 162 0 (hM 25 _ rfl (by decide)) (hM 23 _ rfl (by decide))) rfl rfl (Nat.le_of_ble_eq_true rfl) (fun z2 => ?_)
    refine pw_aload_n C dX5_back_40 rfl rfl ?_
    refine pw_iconst (v := 0) C dX5_back_41 (by decide) ?_
    refine pw_puti C (hM 22 _ rfl (by decide)) rfl (k := 2) (by decide) rfl fl_X5_122 dX5_back_42 rfl (by decide) ?_
    refine pw_nameh (fun g3 => ?_)
    refine pw_aload_n C dX5_back_45 rfl rfl ?_
    refine pw_geti C (hM 22 _ rfl (by decide)) rfl (k := 4) (by decide) rfl fl_X5_125 dX5_back_46 ?_
    exact pw_iret C hR dX5_back_49
set_option maxRecDepth 100000 in
set_option maxHeartbeats 4000000 in
theorem c_X0_clear {l : Launch} {w : Wd} {A : Nat → Prop} {b : Nat} (N : Nat) (h : Hp) (r : Nat) (hb : w.2.2.1[b]? = some (0, 0, [r + 2])) (hr : w.2.2.1[r]? = some (1, 179, [])) : ConV l yX0_clear cX0_clear 1 1 w A [.ref (w.2.1 b)] h ((fX0_clear N h r)) := by
  refine ConV.of (lv0 := [some (.ref (w.2.1 b))]) (by decide +kernel) (Nat.le_of_ble_eq_true rfl) rfl (fun x C hR hN => ?_)
  unfold fX0_clear
  refine pw_aload_n C dX0_clear_0 rfl rfl ?_
  refine pw_getr (q2 := r) C hb rfl (k := 0) (by decide) rfl fl_X0_11 dX0_clear_1 ?_
  refine pw_iconst (v := 0) C dX0_clear_4 (by decide) ?_
  refine pw_callSvq (as := [.ref (w.2.1 r), .int 0]) (rest := []) C dX0_clear_5 ml_X0_19 cw_J7_fill_53178 st_J7_fill_53178 ⟨by decide, by decide⟩ (c_J7_fill_53178 N h r 179 0 hr) rfl rfl (Nat.le_of_ble_eq_true rfl) (fun z1 => ?_)
  exact pw_vret C hR dX0_clear_8
set_option maxRecDepth 100000 in
set_option maxHeartbeats 4000000 in
theorem c_X0_cords {l : Launch} {w : Wd} {A : Nat → Prop} {b : Nat} (h : Hp) (r : Nat) (hb : w.2.2.1[b]? = some (0, 0, [r + 2])) (hr : w.2.2.1[r]? = some (1, 179, [])) : ConI l yX0_cords cX0_cords 1 .int 1 w A [.ref (w.2.1 b)] h (some ((fX0_cords h r), h)) := by
  refine ConI.of (lv0 := [some (.ref (w.2.1 b))]) (by decide +kernel) (Nat.le_of_ble_eq_true rfl) rfl (fun x C hR hN => ?_)
  unfold fX0_cords
  refine pw_aload_n C dX0_cords_0 rfl rfl ?_
  refine pw_getr (q2 := r) C hb rfl (k := 0) (by decide) rfl fl_X0_11 dX0_cords_1 ?_
  refine pw_sipush (v := 176) C dX0_cords_4 (by decide) ?_
  refine pw_callSNt (host := "ToldInKnots") (as := [.ref (w.2.1 r), .int 176]) (rest := []) C dX0_cords_7 (by decide +kernel) cw_X4_at st_X4_at ⟨by decide, by decide⟩ (c_X4_at h r 179 176 hr) rfl rfl (Nat.le_of_ble_eq_true rfl) ?_
  exact pt_iret C hR dX0_cords_10
set_option maxRecDepth 100000 in
set_option maxHeartbeats 4000000 in
theorem c_X0_groups {l : Launch} {w : Wd} {A : Nat → Prop} {b : Nat} (h : Hp) (r : Nat) (hb : w.2.2.1[b]? = some (0, 0, [r + 2])) (hr : w.2.2.1[r]? = some (1, 179, [])) : ConI l yX0_groups cX0_groups 1 .int 1 w A [.ref (w.2.1 b)] h (some ((fX0_groups h r), h)) := by
  refine ConI.of (lv0 := [some (.ref (w.2.1 b))]) (by decide +kernel) (Nat.le_of_ble_eq_true rfl) rfl (fun x C hR hN => ?_)
  unfold fX0_groups
  refine pw_aload_n C dX0_groups_0 rfl rfl ?_
  refine pw_getr (q2 := r) C hb rfl (k := 0) (by decide) rfl fl_X0_11 dX0_groups_1 ?_
  refine pw_sipush (v := 177) C dX0_groups_4 (by decide) ?_
  refine pw_callSNt (host := "ToldInKnots") (as := [.ref (w.2.1 r), .int 177]) (rest := []) C dX0_groups_7 (by decide +kernel) cw_X4_at st_X4_at ⟨by decide, by decide⟩ (c_X4_at h r 179 177 hr) rfl rfl (Nat.le_of_ble_eq_true rfl) ?_
  exact pt_iret C hR dX0_groups_10
set_option maxRecDepth 100000 in
set_option maxHeartbeats 4000000 in
theorem c_X0_colourOf {l : Launch} {w : Wd} {A : Nat → Prop} {b : Nat} (h : Hp) (r : Nat) (a1 : Int32) (hb : w.2.2.1[b]? = some (0, 0, [r + 2])) (hr : w.2.2.1[r]? = some (1, 179, [])) : ConI l yX0_colourOf cX0_colourOf 2 .int 1 w A [.ref (w.2.1 b), .int a1] h (some ((fX0_colourOf h r a1), h)) := by
  refine ConI.of (lv0 := [some (.ref (w.2.1 b)), some (.int a1)]) (by decide +kernel) (Nat.le_of_ble_eq_true rfl) rfl (fun x C hR hN => ?_)
  unfold fX0_colourOf
  refine pw_aload_n C dX0_colourOf_0 rfl rfl ?_
  refine pw_getr (q2 := r) C hb rfl (k := 0) (by decide) rfl fl_X0_11 dX0_colourOf_1 ?_
  refine pw_iconst (v := 0) C dX0_colourOf_4 (by decide) ?_
  refine pw_iload_n C dX0_colourOf_5 rfl rfl ?_
  refine pw_iadd C dX0_colourOf_6 ?_
  refine pw_callSNt (host := "ToldInKnots") (as := [.ref (w.2.1 r), .int (0 + a1)]) (rest := []) C dX0_colourOf_7 (by decide +kernel) cw_X4_at st_X4_at ⟨by decide, by decide⟩ (c_X4_at h r 179 (0 + a1) hr) rfl rfl (Nat.le_of_ble_eq_true rfl) ?_
  exact pt_iret C hR dX0_colourOf_10
set_option maxRecDepth 100000 in
set_option maxHeartbeats 4000000 in
theorem c_X0_setColour {l : Launch} {w : Wd} {A : Nat → Prop} {b : Nat} (h : Hp) (r : Nat) (a1 : Int32) (a2 : Int32) (hb : w.2.2.1[b]? = some (0, 0, [r + 2])) (hr : w.2.2.1[r]? = some (1, 179, [])) : ConV l yX0_setColour cX0_setColour 3 1 w A [.ref (w.2.1 b), .int a1, .int a2] h ((fX0_setColour h r a1 a2)) := by
  refine ConV.of (lv0 := [some (.ref (w.2.1 b)), some (.int a1), some (.int a2)]) (by decide +kernel) (Nat.le_of_ble_eq_true rfl) rfl (fun x C hR hN => ?_)
  unfold fX0_setColour
  refine pw_aload_n C dX0_setColour_0 rfl rfl ?_
  refine pw_getr (q2 := r) C hb rfl (k := 0) (by decide) rfl fl_X0_11 dX0_setColour_1 ?_
  refine pw_iconst (v := 0) C dX0_setColour_4 (by decide) ?_
  refine pw_iload_n C dX0_setColour_5 rfl rfl ?_
  refine pw_iadd C dX0_setColour_6 ?_
  refine pw_iload_n C dX0_setColour_7 rfl rfl ?_
  refine pw_callSNw (host := "ToldInKnots") (as := [.ref (w.2.1 r), .int (0 + a1), .int a2]) (rest := []) C dX0_setColour_8 (by decide +kernel) cw_X4_put st_X4_put ⟨by decide, by decide⟩ (c_X4_put h r 179 (0 + a1) a2 hr) rfl rfl (Nat.le_of_ble_eq_true rfl) ?_
  refine pw_nameh (fun g1 => ?_)
  exact pw_vret C hR dX0_setColour_11
set_option maxRecDepth 100000 in
set_option maxHeartbeats 4000000 in
theorem c_X0_sizeOf {l : Launch} {w : Wd} {A : Nat → Prop} {b : Nat} (h : Hp) (r : Nat) (a1 : Int32) (hb : w.2.2.1[b]? = some (0, 0, [r + 2])) (hr : w.2.2.1[r]? = some (1, 179, [])) : ConI l yX0_sizeOf cX0_sizeOf 2 .int 1 w A [.ref (w.2.1 b), .int a1] h (some ((fX0_sizeOf h r a1), h)) := by
  refine ConI.of (lv0 := [some (.ref (w.2.1 b)), some (.int a1)]) (by decide +kernel) (Nat.le_of_ble_eq_true rfl) rfl (fun x C hR hN => ?_)
  unfold fX0_sizeOf
  refine pw_aload_n C dX0_sizeOf_0 rfl rfl ?_
  refine pw_getr (q2 := r) C hb rfl (k := 0) (by decide) rfl fl_X0_11 dX0_sizeOf_1 ?_
  refine pw_bipush (v := 16) C dX0_sizeOf_4 (by decide) ?_
  refine pw_iload_n C dX0_sizeOf_6 rfl rfl ?_
  refine pw_iadd C dX0_sizeOf_7 ?_
  refine pw_callSNt (host := "ToldInKnots") (as := [.ref (w.2.1 r), .int (16 + a1)]) (rest := []) C dX0_sizeOf_8 (by decide +kernel) cw_X4_at st_X4_at ⟨by decide, by decide⟩ (c_X4_at h r 179 (16 + a1) hr) rfl rfl (Nat.le_of_ble_eq_true rfl) ?_
  exact pt_iret C hR dX0_sizeOf_11
set_option maxRecDepth 100000 in
set_option maxHeartbeats 4000000 in
theorem c_X0_codeOf {l : Launch} {w : Wd} {A : Nat → Prop} {b : Nat} (h : Hp) (r : Nat) (a1 : Int32) (a2 : Int32) (hb : w.2.2.1[b]? = some (0, 0, [r + 2])) (hr : w.2.2.1[r]? = some (1, 179, [])) : ConI l yX0_codeOf cX0_codeOf 3 .int 1 w A [.ref (w.2.1 b), .int a1, .int a2] h (some ((fX0_codeOf h r a1 a2), h)) := by
  refine ConI.of (lv0 := [some (.ref (w.2.1 b)), some (.int a1), some (.int a2)]) (by decide +kernel) (Nat.le_of_ble_eq_true rfl) rfl (fun x C hR hN => ?_)
  unfold fX0_codeOf
  refine pw_aload_n C dX0_codeOf_0 rfl rfl ?_
  refine pw_getr (q2 := r) C hb rfl (k := 0) (by decide) rfl fl_X0_11 dX0_codeOf_1 ?_
  refine pw_bipush (v := 112) C dX0_codeOf_4 (by decide) ?_
  refine pw_iconst (v := 4) C dX0_codeOf_6 (by decide) ?_
  refine pw_iload_n C dX0_codeOf_7 rfl rfl ?_
  refine pw_imul C dX0_codeOf_8 ?_
  refine pw_iadd C dX0_codeOf_9 ?_
  refine pw_iload_n C dX0_codeOf_10 rfl rfl ?_
  refine pw_iadd C dX0_codeOf_11 ?_
  refine pw_callSNt (host := "ToldInKnots") (as := [.ref (w.2.1 r), .int ((112 + (4 * a1)) + a2)]) (rest := []) C dX0_codeOf_12 (by decide +kernel) cw_X4_at st_X4_at ⟨by decide, by decide⟩ (c_X4_at h r 179 ((112 + (4 * a1)) + a2) hr) rfl rfl (Nat.le_of_ble_eq_true rfl) ?_
  exact pt_iret C hR dX0_codeOf_15
set_option maxRecDepth 100000 in
set_option maxHeartbeats 4000000 in
theorem c_X0_setCode {l : Launch} {w : Wd} {A : Nat → Prop} {b : Nat} (h : Hp) (r : Nat) (a1 : Int32) (a2 : Int32) (a3 : Int32) (hb : w.2.2.1[b]? = some (0, 0, [r + 2])) (hr : w.2.2.1[r]? = some (1, 179, [])) : ConV l yX0_setCode cX0_setCode 4 1 w A [.ref (w.2.1 b), .int a1, .int a2, .int a3] h ((fX0_setCode h r a1 a2 a3)) := by
  refine ConV.of (lv0 := [some (.ref (w.2.1 b)), some (.int a1), some (.int a2), some (.int a3)]) (by decide +kernel) (Nat.le_of_ble_eq_true rfl) rfl (fun x C hR hN => ?_)
  unfold fX0_setCode
  refine pw_aload_n C dX0_setCode_0 rfl rfl ?_
  refine pw_getr (q2 := r) C hb rfl (k := 0) (by decide) rfl fl_X0_11 dX0_setCode_1 ?_
  refine pw_bipush (v := 112) C dX0_setCode_4 (by decide) ?_
  refine pw_iconst (v := 4) C dX0_setCode_6 (by decide) ?_
  refine pw_iload_n C dX0_setCode_7 rfl rfl ?_
  refine pw_imul C dX0_setCode_8 ?_
  refine pw_iadd C dX0_setCode_9 ?_
  refine pw_iload_n C dX0_setCode_10 rfl rfl ?_
  refine pw_iadd C dX0_setCode_11 ?_
  refine pw_iload_n C dX0_setCode_12 rfl rfl ?_
  refine pw_callSNw (host := "ToldInKnots") (as := [.ref (w.2.1 r), .int ((112 + (4 * a1)) + a2), .int a3]) (rest := []) C dX0_setCode_13 (by decide +kernel) cw_X4_put st_X4_put ⟨by decide, by decide⟩ (c_X4_put h r 179 ((112 + (4 * a1)) + a2) a3 hr) rfl rfl (Nat.le_of_ble_eq_true rfl) ?_
  refine pw_nameh (fun g1 => ?_)
  exact pw_vret C hR dX0_setCode_16
set_option maxRecDepth 100000 in
set_option maxHeartbeats 4000000 in
theorem c_X0_holderOf {l : Launch} {w : Wd} {A : Nat → Prop} {b : Nat} (h : Hp) (r : Nat) (a1 : Int32) (hb : w.2.2.1[b]? = some (0, 0, [r + 2])) (hr : w.2.2.1[r]? = some (1, 179, [])) : ConI l yX0_holderOf cX0_holderOf 2 .int 1 w A [.ref (w.2.1 b), .int a1] h (some ((fX0_holderOf h r a1), h)) := by
  refine ConI.of (lv0 := [some (.ref (w.2.1 b)), some (.int a1)]) (by decide +kernel) (Nat.le_of_ble_eq_true rfl) rfl (fun x C hR hN => ?_)
  unfold fX0_holderOf
  refine pw_iload_n C dX0_holderOf_0 rfl rfl ?_
  refine pt_if_lt (tgt := 24) C dX0_holderOf_1 (by decide) (fun c1 => ?_) (fun c1 => ?_)
  · refine pw_bipush (v := (-4)) C dX0_holderOf_24 (by decide) ?_
    exact pt_iret C hR dX0_holderOf_26
  · refine pw_iload_n C dX0_holderOf_4 rfl rfl ?_
    refine pw_bipush (v := 16) C dX0_holderOf_5 (by decide) ?_
    refine pt_icmp_ge (tgt := 24) C dX0_holderOf_7 (by decide) (fun c2 => ?_) (fun c2 => ?_)
    · refine pw_aload_n C dX0_holderOf_10 rfl rfl ?_
      refine pw_getr (q2 := r) C hb rfl (k := 0) (by decide) rfl fl_X0_11 dX0_holderOf_11 ?_
      refine pw_bipush (v := 32) C dX0_holderOf_14 (by decide) ?_
      refine pw_iload_n C dX0_holderOf_16 rfl rfl ?_
      refine pw_iadd C dX0_holderOf_17 ?_
      refine pw_callSNt (host := "ToldInKnots") (as := [.ref (w.2.1 r), .int (32 + a1)]) (rest := []) C dX0_holderOf_18 (by decide +kernel) cw_X4_at st_X4_at ⟨by decide, by decide⟩ (c_X4_at h r 179 (32 + a1) hr) rfl rfl (Nat.le_of_ble_eq_true rfl) ?_
      refine pw_goto (tgt := 26) C dX0_holderOf_21 (by decide) ?_
      exact pt_iret C hR dX0_holderOf_26
    · refine pw_bipush (v := (-4)) C dX0_holderOf_24 (by decide) ?_
      exact pt_iret C hR dX0_holderOf_26
set_option maxRecDepth 100000 in
set_option maxHeartbeats 4000000 in
theorem c_X0_depthOf {l : Launch} {w : Wd} {A : Nat → Prop} {b : Nat} (h : Hp) (r : Nat) (a1 : Int32) (hb : w.2.2.1[b]? = some (0, 0, [r + 2])) (hr : w.2.2.1[r]? = some (1, 179, [])) : ConI l yX0_depthOf cX0_depthOf 2 .int 1 w A [.ref (w.2.1 b), .int a1] h (some ((fX0_depthOf h r a1), h)) := by
  refine ConI.of (lv0 := [some (.ref (w.2.1 b)), some (.int a1)]) (by decide +kernel) (Nat.le_of_ble_eq_true rfl) rfl (fun x C hR hN => ?_)
  unfold fX0_depthOf
  refine pw_aload_n C dX0_depthOf_0 rfl rfl ?_
  refine pw_getr (q2 := r) C hb rfl (k := 0) (by decide) rfl fl_X0_11 dX0_depthOf_1 ?_
  refine pw_bipush (v := 48) C dX0_depthOf_4 (by decide) ?_
  refine pw_iload_n C dX0_depthOf_6 rfl rfl ?_
  refine pw_iadd C dX0_depthOf_7 ?_
  refine pw_callSNt (host := "ToldInKnots") (as := [.ref (w.2.1 r), .int (48 + a1)]) (rest := []) C dX0_depthOf_8 (by decide +kernel) cw_X4_at st_X4_at ⟨by decide, by decide⟩ (c_X4_at h r 179 (48 + a1) hr) rfl rfl (Nat.le_of_ble_eq_true rfl) ?_
  exact pt_iret C hR dX0_depthOf_11
set_option maxRecDepth 100000 in
set_option maxHeartbeats 4000000 in
theorem c_X0_groupOf {l : Launch} {w : Wd} {A : Nat → Prop} {b : Nat} (h : Hp) (r : Nat) (a1 : Int32) (hb : w.2.2.1[b]? = some (0, 0, [r + 2])) (hr : w.2.2.1[r]? = some (1, 179, [])) : ConI l yX0_groupOf cX0_groupOf 2 .int 1 w A [.ref (w.2.1 b), .int a1] h (some ((fX0_groupOf h r a1), h)) := by
  refine ConI.of (lv0 := [some (.ref (w.2.1 b)), some (.int a1)]) (by decide +kernel) (Nat.le_of_ble_eq_true rfl) rfl (fun x C hR hN => ?_)
  unfold fX0_groupOf
  refine pw_aload_n C dX0_groupOf_0 rfl rfl ?_
  refine pw_getr (q2 := r) C hb rfl (k := 0) (by decide) rfl fl_X0_11 dX0_groupOf_1 ?_
  refine pw_bipush (v := 80) C dX0_groupOf_4 (by decide) ?_
  refine pw_iload_n C dX0_groupOf_6 rfl rfl ?_
  refine pw_iadd C dX0_groupOf_7 ?_
  refine pw_callSNt (host := "ToldInKnots") (as := [.ref (w.2.1 r), .int (80 + a1)]) (rest := []) C dX0_groupOf_8 (by decide +kernel) cw_X4_at st_X4_at ⟨by decide, by decide⟩ (c_X4_at h r 179 (80 + a1) hr) rfl rfl (Nat.le_of_ble_eq_true rfl) ?_
  exact pt_iret C hR dX0_groupOf_11
set_option maxRecDepth 100000 in
set_option maxHeartbeats 4000000 in
theorem c_X0_isTop {l : Launch} {w : Wd} {A : Nat → Prop} {b : Nat} (h : Hp) (r : Nat) (a1 : Int32) (hb : w.2.2.1[b]? = some (0, 0, [r + 2])) (hr : w.2.2.1[r]? = some (1, 179, [])) : ConI l yX0_isTop cX0_isTop 2 .boolean 1 w A [.ref (w.2.1 b), .int a1] h (some ((fX0_isTop h r a1), h)) := by
  refine ConI.of (lv0 := [some (.ref (w.2.1 b)), some (.int a1)]) (by decide +kernel) (Nat.le_of_ble_eq_true rfl) rfl (fun x C hR hN => ?_)
  unfold fX0_isTop
  refine pw_aload_n C dX0_isTop_0 rfl rfl ?_
  refine pw_getr (q2 := r) C hb rfl (k := 0) (by decide) rfl fl_X0_11 dX0_isTop_1 ?_
  refine pw_bipush (v := 64) C dX0_isTop_4 (by decide) ?_
  refine pw_iload_n C dX0_isTop_6 rfl rfl ?_
  refine pw_iadd C dX0_isTop_7 ?_
  refine pw_callSNt (host := "ToldInKnots") (as := [.ref (w.2.1 r), .int (64 + a1)]) (rest := []) C dX0_isTop_8 (by decide +kernel) cw_X4_at st_X4_at ⟨by decide, by decide⟩ (c_X4_at h r 179 (64 + a1) hr) rfl rfl (Nat.le_of_ble_eq_true rfl) ?_
  refine pw_iconst (v := 1) C dX0_isTop_11 (by decide) ?_
  refine pt_icmp_ne (tgt := 19) C dX0_isTop_12 (by decide) (fun c1 => ?_) (fun c1 => ?_)
  · refine pw_iconst (v := 1) C dX0_isTop_15 (by decide) ?_
    refine pw_goto (tgt := 20) C dX0_isTop_16 (by decide) ?_
    exact pt_zret' C hR dX0_isTop_20 (by decide)
  · refine pw_iconst (v := 0) C dX0_isTop_19 (by decide) ?_
    exact pt_zret' C hR dX0_isTop_20 (by decide)
set_option maxRecDepth 100000 in
set_option maxHeartbeats 4000000 in
theorem kX0_addCord_J162 {w : Wd} {x : Cz} {b : Nat} (C : Ok w x cX0_addCord RX0 1) (hR : OkV w x) (hN : xN x = 6) (r : Nat) (a1 : Int32) (a2 : Int32) (a3 : Int32) (a4 : Int32) (hb : w.2.2.1[b]? = some (0, 0, [r + 2])) (hr : w.2.2.1[r]? = some (1, 179, []))  : ∀ (u5 : Int32) (h : Hp), PW w x 162 [some (.ref (w.2.1 b)), none, none, none, none, some (.int u5)] [] h ((fX0_addCord_J162 r a1 a2 a3 a4 u5 h)) := by
  intro u5 h
  unfold fX0_addCord_J162
  refine pw_aload_n C dX0_addCord_162 rfl rfl ?_
  refine pw_getr (q2 := r) C hb rfl (k := 0) (by decide) rfl fl_X0_11 dX0_addCord_163 ?_
  refine pw_sipush (v := 176) C dX0_addCord_166 (by decide) ?_
  refine pw_iload C dX0_addCord_169 rfl ?_
  refine pw_iconst (v := 1) C dX0_addCord_171 (by decide) ?_
  refine pw_iadd C dX0_addCord_172 ?_
  refine pw_callSNw (host := "ToldInKnots") (as := [.ref (w.2.1 r), .int 176, .int (u5 + 1)]) (rest := []) C dX0_addCord_173 (by decide +kernel) cw_X4_put st_X4_put ⟨by decide, by decide⟩ (c_X4_put h r 179 176 (u5 + 1) hr) rfl rfl (Nat.le_of_ble_eq_true rfl) ?_
  refine pw_nameh (fun g9 => ?_)
  exact pw_vret C hR dX0_addCord_176
set_option maxRecDepth 100000 in
set_option maxHeartbeats 4000000 in
theorem kX0_addCord_J82 {w : Wd} {x : Cz} {b : Nat} (C : Ok w x cX0_addCord RX0 1) (hR : OkV w x) (hN : xN x = 6) (r : Nat) (a1 : Int32) (a2 : Int32) (a3 : Int32) (a4 : Int32) (hb : w.2.2.1[b]? = some (0, 0, [r + 2])) (hr : w.2.2.1[r]? = some (1, 179, []))  : ∀ (u5 : Int32) (t0 : Int32) (t1 : Int32) (h : Hp), PW w x 82 [some (.ref (w.2.1 b)), none, none, some (.int a3), some (.int a4), some (.int u5)] [.int t0, .int t1, .ref (w.2.1 r)] h ((fX0_addCord_J82 r a1 a2 a3 a4 u5 t0 t1 h)) := by
  intro u5 t0 t1 h
  unfold fX0_addCord_J82
  refine pw_callSNw (host := "ToldInKnots") (as := [.ref (w.2.1 r), .int t1, .int t0]) (rest := []) C dX0_addCord_82 (by decide +kernel) cw_X4_put st_X4_put ⟨by decide, by decide⟩ (c_X4_put h r 179 t1 t0 hr) rfl rfl (Nat.le_of_ble_eq_true rfl) ?_
  refine pw_nameh (fun g5 => ?_)
  refine pw_aload_n C dX0_addCord_85 rfl rfl ?_
  refine pw_getr (q2 := r) C hb rfl (k := 0) (by decide) rfl fl_X0_11 dX0_addCord_86 ?_
  refine pw_bipush (v := 80) C dX0_addCord_89 (by decide) ?_
  refine pw_iload C dX0_addCord_91 rfl ?_
  refine pw_iadd C dX0_addCord_93 ?_
  refine pw_aload_n C dX0_addCord_94 rfl rfl ?_
  refine pw_getr (q2 := r) C hb rfl (k := 0) (by decide) rfl fl_X0_11 dX0_addCord_95 ?_
  refine pw_sipush (v := 177) C dX0_addCord_98 (by decide) ?_
  refine pw_callSNt (host := "ToldInKnots") (as := [.ref (w.2.1 r), .int 177]) (rest := [.int (80 + u5), .ref (w.2.1 r)]) C dX0_addCord_101 (by decide +kernel) cw_X4_at st_X4_at ⟨by decide, by decide⟩ (c_X4_at g5 r 179 177 hr) rfl rfl (Nat.le_of_ble_eq_true rfl) ?_
  refine pw_iconst (v := 1) C dX0_addCord_104 (by decide) ?_
  refine pw_isub C dX0_addCord_105 ?_
  refine pw_callSNw (host := "ToldInKnots") (as := [.ref (w.2.1 r), .int (80 + u5), .int ((atF g5 r 179 177) - 1)]) (rest := []) C dX0_addCord_106 (by decide +kernel) cw_X4_put st_X4_put ⟨by decide, by decide⟩ (c_X4_put g5 r 179 (80 + u5) ((atF g5 r 179 177) - 1) hr) rfl rfl (Nat.le_of_ble_eq_true rfl) ?_
  refine pw_nameh (fun g6 => ?_)
  refine pw_iload_n C dX0_addCord_109 rfl rfl ?_
  refine pw_if_ne (tgt := 162) C dX0_addCord_110 (by decide) (fun c10 => ?_) (fun c10 => ?_)
  · refine pw_iload C dX0_addCord_113 rfl ?_
    refine pw_if_ne (tgt := 162) C dX0_addCord_115 (by decide) (fun c11 => ?_) (fun c11 => ?_)
    · refine pw_aload_n C dX0_addCord_118 rfl rfl ?_
      refine pw_getr (q2 := r) C hb rfl (k := 0) (by decide) rfl fl_X0_11 dX0_addCord_119 ?_
      refine pw_bipush (v := 96) C dX0_addCord_122 (by decide) ?_
      refine pw_aload_n C dX0_addCord_124 rfl rfl ?_
      refine pw_getr (q2 := r) C hb rfl (k := 0) (by decide) rfl fl_X0_11 dX0_addCord_125 ?_
      refine pw_sipush (v := 178) C dX0_addCord_128 (by decide) ?_
      refine pw_callSNt (host := "ToldInKnots") (as := [.ref (w.2.1 r), .int 178]) (rest := [.int 96, .ref (w.2.1 r)]) C dX0_addCord_131 (by decide +kernel) cw_X4_at st_X4_at ⟨by decide, by decide⟩ (c_X4_at g6 r 179 178 hr) rfl rfl (Nat.le_of_ble_eq_true rfl) ?_
      refine pw_iadd C dX0_addCord_134 ?_
      refine pw_iload C dX0_addCord_135 rfl ?_
      refine pw_callSNw (host := "ToldInKnots") (as := [.ref (w.2.1 r), .int (96 + (atF g6 r 179 178)), .int u5]) (rest := []) C dX0_addCord_137 (by decide +kernel) cw_X4_put st_X4_put ⟨by decide, by decide⟩ (c_X4_put g6 r 179 (96 + (atF g6 r 179 178)) u5 hr) rfl rfl (Nat.le_of_ble_eq_true rfl) ?_
      refine pw_nameh (fun g7 => ?_)
      refine pw_aload_n C dX0_addCord_140 rfl rfl ?_
      refine pw_getr (q2 := r) C hb rfl (k := 0) (by decide) rfl fl_X0_11 dX0_addCord_141 ?_
      refine pw_sipush (v := 178) C dX0_addCord_144 (by decide) ?_
      refine pw_aload_n C dX0_addCord_147 rfl rfl ?_
      refine pw_getr (q2 := r) C hb rfl (k := 0) (by decide) rfl fl_X0_11 dX0_addCord_148 ?_
      refine pw_sipush (v := 178) C dX0_addCord_151 (by decide) ?_
      refine pw_callSNt (host := "ToldInKnots") (as := [.ref (w.2.1 r), .int 178]) (rest := [.int 178, .ref (w.2.1 r)]) C dX0_addCord_154 (by decide +kernel) cw_X4_at st_X4_at ⟨by decide, by decide⟩ (c_X4_at g7 r 179 178 hr) rfl rfl (Nat.le_of_ble_eq_true rfl) ?_
      refine pw_iconst (v := 1) C dX0_addCord_157 (by decide) ?_
      refine pw_iadd C dX0_addCord_158 ?_
      refine pw_callSNw (host := "ToldInKnots") (as := [.ref (w.2.1 r), .int 178, .int ((atF g7 r 179 178) + 1)]) (rest := []) C dX0_addCord_159 (by decide +kernel) cw_X4_put st_X4_put ⟨by decide, by decide⟩ (c_X4_put g7 r 179 178 ((atF g7 r 179 178) + 1) hr) rfl rfl (Nat.le_of_ble_eq_true rfl) ?_
      refine pw_nameh (fun g8 => ?_)
      exact pw_lv (kX0_addCord_J162 C hR hN r a1 a2 a3 a4 hb hr u5 g8) ⟨rfl, rfl, trivial⟩
    · exact pw_lv (kX0_addCord_J162 C hR hN r a1 a2 a3 a4 hb hr u5 g6) ⟨rfl, rfl, trivial⟩
  · exact pw_lv (kX0_addCord_J162 C hR hN r a1 a2 a3 a4 hb hr u5 g6) ⟨rfl, rfl, trivial⟩
set_option maxRecDepth 100000 in
set_option maxHeartbeats 4000000 in
theorem c_X0_addCord {l : Launch} {w : Wd} {A : Nat → Prop} {b : Nat} (h : Hp) (r : Nat) (a1 : Int32) (a2 : Int32) (a3 : Int32) (a4 : Int32) (hb : w.2.2.1[b]? = some (0, 0, [r + 2])) (hr : w.2.2.1[r]? = some (1, 179, [])) : ConV l yX0_addCord cX0_addCord 6 1 w A [.ref (w.2.1 b), .int a1, .int a2, .int a3, .int a4] h ((fX0_addCord h r a1 a2 a3 a4)) := by
  refine ConV.of (lv0 := [some (.ref (w.2.1 b)), some (.int a1), some (.int a2), some (.int a3), some (.int a4), none]) (by decide +kernel) (Nat.le_of_ble_eq_true rfl) rfl (fun x C hR hN => ?_)
  unfold fX0_addCord
  refine pw_aload_n C dX0_addCord_0 rfl rfl ?_
  refine pw_getr (q2 := r) C hb rfl (k := 0) (by decide) rfl fl_X0_11 dX0_addCord_1 ?_
  refine pw_sipush (v := 176) C dX0_addCord_4 (by decide) ?_
  refine pw_callSNt (host := "ToldInKnots") (as := [.ref (w.2.1 r), .int 176]) (rest := []) C dX0_addCord_7 (by decide +kernel) cw_X4_at st_X4_at ⟨by decide, by decide⟩ (c_X4_at h r 179 176 hr) rfl rfl (Nat.le_of_ble_eq_true rfl) ?_
  refine pw_istore (lv2 := [some (.ref (w.2.1 b)), some (.int a1), some (.int a2), some (.int a3), some (.int a4), some (.int (atF h r 179 176))]) C dX0_addCord_10 hN (by decide) rfl rfl ?_
  refine pw_aload_n C dX0_addCord_12 rfl rfl ?_
  refine pw_getr (q2 := r) C hb rfl (k := 0) (by decide) rfl fl_X0_11 dX0_addCord_13 ?_
  refine pw_iconst (v := 0) C dX0_addCord_16 (by decide) ?_
  refine pw_iload C dX0_addCord_17 rfl ?_
  refine pw_iadd C dX0_addCord_19 ?_
  refine pw_iload_n C dX0_addCord_20 rfl rfl ?_
  refine pw_callSNw (host := "ToldInKnots") (as := [.ref (w.2.1 r), .int (0 + (atF h r 179 176)), .int a1]) (rest := []) C dX0_addCord_21 (by decide +kernel) cw_X4_put st_X4_put ⟨by decide, by decide⟩ (c_X4_put h r 179 (0 + (atF h r 179 176)) a1 hr) rfl rfl (Nat.le_of_ble_eq_true rfl) ?_
  refine pw_nameh (fun g1 => ?_)
  refine pw_aload_n C dX0_addCord_24 rfl rfl ?_
  refine pw_getr (q2 := r) C hb rfl (k := 0) (by decide) rfl fl_X0_11 dX0_addCord_25 ?_
  refine pw_bipush (v := 16) C dX0_addCord_28 (by decide) ?_
  refine pw_iload C dX0_addCord_30 rfl ?_
  refine pw_iadd C dX0_addCord_32 ?_
  refine pw_iconst (v := 0) C dX0_addCord_33 (by decide) ?_
  refine pw_callSNw (host := "ToldInKnots") (as := [.ref (w.2.1 r), .int (16 + (atF h r 179 176)), .int 0]) (rest := []) C dX0_addCord_34 (by decide +kernel) cw_X4_put st_X4_put ⟨by decide, by decide⟩ (c_X4_put g1 r 179 (16 + (atF h r 179 176)) 0 hr) rfl rfl (Nat.le_of_ble_eq_true rfl) ?_
  refine pw_nameh (fun g2 => ?_)
  refine pw_aload_n C dX0_addCord_37 rfl rfl ?_
  refine pw_getr (q2 := r) C hb rfl (k := 0) (by decide) rfl fl_X0_11 dX0_addCord_38 ?_
  refine pw_bipush (v := 32) C dX0_addCord_41 (by decide) ?_
  refine pw_iload C dX0_addCord_43 rfl ?_
  refine pw_iadd C dX0_addCord_45 ?_
  refine pw_iload_n C dX0_addCord_46 rfl rfl ?_
  refine pw_callSNw (host := "ToldInKnots") (as := [.ref (w.2.1 r), .int (32 + (atF h r 179 176)), .int a2]) (rest := []) C dX0_addCord_47 (by decide +kernel) cw_X4_put st_X4_put ⟨by decide, by decide⟩ (c_X4_put g2 r 179 (32 + (atF h r 179 176)) a2 hr) rfl rfl (Nat.le_of_ble_eq_true rfl) ?_
  refine pw_nameh (fun g3 => ?_)
  refine pw_aload_n C dX0_addCord_50 rfl rfl ?_
  refine pw_getr (q2 := r) C hb rfl (k := 0) (by decide) rfl fl_X0_11 dX0_addCord_51 ?_
  refine pw_bipush (v := 48) C dX0_addCord_54 (by decide) ?_
  refine pw_iload C dX0_addCord_56 rfl ?_
  refine pw_iadd C dX0_addCord_58 ?_
  refine pw_iload_n C dX0_addCord_59 rfl rfl ?_
  refine pw_callSNw (host := "ToldInKnots") (as := [.ref (w.2.1 r), .int (48 + (atF h r 179 176)), .int a3]) (rest := []) C dX0_addCord_60 (by decide +kernel) cw_X4_put st_X4_put ⟨by decide, by decide⟩ (c_X4_put g3 r 179 (48 + (atF h r 179 176)) a3 hr) rfl rfl (Nat.le_of_ble_eq_true rfl) ?_
  refine pw_nameh (fun g4 => ?_)
  refine pw_aload_n C dX0_addCord_63 rfl rfl ?_
  refine pw_getr (q2 := r) C hb rfl (k := 0) (by decide) rfl fl_X0_11 dX0_addCord_64 ?_
  refine pw_bipush (v := 64) C dX0_addCord_67 (by decide) ?_
  refine pw_iload C dX0_addCord_69 rfl ?_
  refine pw_iadd C dX0_addCord_71 ?_
  refine pw_iload C dX0_addCord_72 rfl ?_
  refine PW.eq (apply_ite (fun z_ => (fX0_addCord_J82 r a1 a2 a3 a4 (atF h r 179 176) z_ (64 + (atF h r 179 176)) g4)) _ _ _) ?_
  refine pw_if_eq (tgt := 81) C dX0_addCord_74 (by decide) (fun c12 => ?_) (fun c12 => ?_)
  · refine pw_iconst (v := 0) C dX0_addCord_81 (by decide) ?_
    exact pw_lv (kX0_addCord_J82 C hR hN r a1 a2 a3 a4 hb hr (atF h r 179 176) 0 (64 + (atF h r 179 176)) g4) ⟨rfl, rfl, rfl, rfl, trivial⟩
  · refine pw_iconst (v := 1) C dX0_addCord_77 (by decide) ?_
    refine pw_goto (tgt := 82) C dX0_addCord_78 (by decide) ?_
    exact pw_lv (kX0_addCord_J82 C hR hN r a1 a2 a3 a4 hb hr (atF h r 179 176) 1 (64 + (atF h r 179 176)) g4) ⟨rfl, rfl, rfl, rfl, trivial⟩
set_option maxRecDepth 100000 in
set_option maxHeartbeats 4000000 in
theorem kX0_addCluster_L37 {w : Wd} {x : Cz} {b : Nat} (C : Ok w x cX0_addCluster RX0 1) (hR : OkV w x) (hN : xN x = 6) (N : Nat) (r : Nat) (a1 : Int32) (hb : w.2.2.1[b]? = some (0, 0, [r + 2])) (hr : w.2.2.1[r]? = some (1, 179, []))  : ∀ (n : Nat) (u2 : Int32) (u3 : Int32) (u4 : Int32) (u5 : Int32) (h : Hp), PW w x 37 [some (.ref (w.2.1 b)), some (.int a1), some (.int u2), some (.int u3), some (.int u4), some (.int u5)] [] h ((fX0_addCluster_L37 N r a1 n u2 u3 u4 u5 h)) := by
  intro n
  induction n with
  | zero => intro u2 u3 u4 u5 h; rw [fX0_addCluster_L37]; exact pw_none
  | succ n ih =>
    intro u2 u3 u4 u5 h
    rw [fX0_addCluster_L37]
    refine pw_iload C dX0_addCluster_37 rfl ?_
    refine pw_if_le (tgt := 72) C dX0_addCluster_39 (by decide) (fun c6 => ?_) (fun c6 => ?_)
    · refine pw_aload_n C dX0_addCluster_42 rfl rfl ?_
      refine pw_getr (q2 := r) C hb rfl (k := 0) (by decide) rfl fl_X0_11 dX0_addCluster_43 ?_
      refine pw_iload_n C dX0_addCluster_46 rfl rfl ?_
      refine pw_iload C dX0_addCluster_47 rfl ?_
      refine pw_iadd C dX0_addCluster_49 ?_
      refine pw_aload_n C dX0_addCluster_50 rfl rfl ?_
      refine pw_getr (q2 := r) C hb rfl (k := 0) (by decide) rfl fl_X0_11 dX0_addCluster_51 ?_
      refine pw_iload_n C dX0_addCluster_54 rfl rfl ?_
      refine pw_iload C dX0_addCluster_55 rfl ?_
      refine pw_iadd C dX0_addCluster_57 ?_
      refine pw_iconst (v := 1) C dX0_addCluster_58 (by decide) ?_
      refine pw_isub C dX0_addCluster_59 ?_
      refine pw_callSNt (host := "ToldInKnots") (as := [.ref (w.2.1 r), .int ((u3 + u5) - 1)]) (rest := [.int (u3 + u5), .ref (w.2.1 r)]) C dX0_addCluster_60 (by decide +kernel) cw_X4_at st_X4_at ⟨by decide, by decide⟩ (c_X4_at h r 179 ((u3 + u5) - 1) hr) rfl rfl (Nat.le_of_ble_eq_true rfl) ?_
      refine pw_callSNw (host := "ToldInKnots") (as := [.ref (w.2.1 r), .int (u3 + u5), .int (atF h r 179 ((u3 + u5) - 1))]) (rest := []) C dX0_addCluster_63 (by decide +kernel) cw_X4_put st_X4_put ⟨by decide, by decide⟩ (c_X4_put h r 179 (u3 + u5) (atF h r 179 ((u3 + u5) - 1)) hr) rfl rfl (Nat.le_of_ble_eq_true rfl) ?_
      refine pw_nameh (fun g3 => ?_)
      refine pw_iinc (lv2 := [some (.ref (w.2.1 b)), some (.int a1), some (.int u2), some (.int u3), some (.int u4), some (.int (u5 + (-1)))]) C dX0_addCluster_66 rfl rfl hN (by decide) rfl rfl ?_
      refine pw_goto (tgt := 37) C dX0_addCluster_69 (by decide) ?_
      exact ih u2 u3 u4 (u5 + (-1)) g3
    · refine pw_aload_n C dX0_addCluster_72 rfl rfl ?_
      refine pw_getr (q2 := r) C hb rfl (k := 0) (by decide) rfl fl_X0_11 dX0_addCluster_73 ?_
      refine pw_iload_n C dX0_addCluster_76 rfl rfl ?_
      refine pw_iload_n C dX0_addCluster_77 rfl rfl ?_
      refine pw_callSNw (host := "ToldInKnots") (as := [.ref (w.2.1 r), .int u3, .int a1]) (rest := []) C dX0_addCluster_78 (by decide +kernel) cw_X4_put st_X4_put ⟨by decide, by decide⟩ (c_X4_put h r 179 u3 a1 hr) rfl rfl (Nat.le_of_ble_eq_true rfl) ?_
      refine pw_nameh (fun g4 => ?_)
      refine pw_aload_n C dX0_addCluster_81 rfl rfl ?_
      refine pw_getr (q2 := r) C hb rfl (k := 0) (by decide) rfl fl_X0_11 dX0_addCluster_82 ?_
      refine pw_bipush (v := 16) C dX0_addCluster_85 (by decide) ?_
      refine pw_iload_n C dX0_addCluster_87 rfl rfl ?_
      refine pw_iadd C dX0_addCluster_88 ?_
      refine pw_iload C dX0_addCluster_89 rfl ?_
      refine pw_iconst (v := 1) C dX0_addCluster_91 (by decide) ?_
      refine pw_iadd C dX0_addCluster_92 ?_
      refine pw_callSNw (host := "ToldInKnots") (as := [.ref (w.2.1 r), .int (16 + u2), .int (u4 + 1)]) (rest := []) C dX0_addCluster_93 (by decide +kernel) cw_X4_put st_X4_put ⟨by decide, by decide⟩ (c_X4_put g4 r 179 (16 + u2) (u4 + 1) hr) rfl rfl (Nat.le_of_ble_eq_true rfl) ?_
      refine pw_nameh (fun g5 => ?_)
      exact pw_vret C hR dX0_addCluster_96
set_option maxRecDepth 100000 in
set_option maxHeartbeats 4000000 in
theorem c_X0_addCluster {l : Launch} {w : Wd} {A : Nat → Prop} {b : Nat} (N : Nat) (h : Hp) (r : Nat) (a1 : Int32) (hb : w.2.2.1[b]? = some (0, 0, [r + 2])) (hr : w.2.2.1[r]? = some (1, 179, [])) : ConV l yX0_addCluster cX0_addCluster 6 1 w A [.ref (w.2.1 b), .int a1] h ((fX0_addCluster N h r a1)) := by
  refine ConV.of (lv0 := [some (.ref (w.2.1 b)), some (.int a1), none, none, none, none]) (by decide +kernel) (Nat.le_of_ble_eq_true rfl) rfl (fun x C hR hN => ?_)
  unfold fX0_addCluster
  refine pw_aload_n C dX0_addCluster_0 rfl rfl ?_
  refine pw_getr (q2 := r) C hb rfl (k := 0) (by decide) rfl fl_X0_11 dX0_addCluster_1 ?_
  refine pw_sipush (v := 176) C dX0_addCluster_4 (by decide) ?_
  refine pw_callSNt (host := "ToldInKnots") (as := [.ref (w.2.1 r), .int 176]) (rest := []) C dX0_addCluster_7 (by decide +kernel) cw_X4_at st_X4_at ⟨by decide, by decide⟩ (c_X4_at h r 179 176 hr) rfl rfl (Nat.le_of_ble_eq_true rfl) ?_
  refine pw_iconst (v := 1) C dX0_addCluster_10 (by decide) ?_
  refine pw_isub C dX0_addCluster_11 ?_
  refine pw_istore_n (lv2 := [some (.ref (w.2.1 b)), some (.int a1), some (.int ((atF h r 179 176) - 1)), none, none, none]) C dX0_addCluster_12 rfl hN (by decide) rfl rfl ?_
  refine pw_bipush (v := 112) C dX0_addCluster_13 (by decide) ?_
  refine pw_iconst (v := 4) C dX0_addCluster_15 (by decide) ?_
  refine pw_iload_n C dX0_addCluster_16 rfl rfl ?_
  refine pw_imul C dX0_addCluster_17 ?_
  refine pw_iadd C dX0_addCluster_18 ?_
  refine pw_name (fun v1 => ?_)
  refine pw_istore_n (lv2 := [some (.ref (w.2.1 b)), some (.int a1), some (.int ((atF h r 179 176) - 1)), some (.int v1), none, none]) C dX0_addCluster_19 rfl hN (by decide) rfl rfl ?_
  refine pw_aload_n C dX0_addCluster_20 rfl rfl ?_
  refine pw_getr (q2 := r) C hb rfl (k := 0) (by decide) rfl fl_X0_11 dX0_addCluster_21 ?_
  refine pw_bipush (v := 16) C dX0_addCluster_24 (by decide) ?_
  refine pw_iload_n C dX0_addCluster_26 rfl rfl ?_
  refine pw_iadd C dX0_addCluster_27 ?_
  refine pw_callSNt (host := "ToldInKnots") (as := [.ref (w.2.1 r), .int (16 + ((atF h r 179 176) - 1))]) (rest := []) C dX0_addCluster_28 (by decide +kernel) cw_X4_at st_X4_at ⟨by decide, by decide⟩ (c_X4_at h r 179 (16 + ((atF h r 179 176) - 1)) hr) rfl rfl (Nat.le_of_ble_eq_true rfl) ?_
  refine pw_name (fun v2 => ?_)
  refine pw_istore (lv2 := [some (.ref (w.2.1 b)), some (.int a1), some (.int ((atF h r 179 176) - 1)), some (.int v1), some (.int v2), none]) C dX0_addCluster_31 hN (by decide) rfl rfl ?_
  refine pw_iload C dX0_addCluster_33 rfl ?_
  refine pw_istore (lv2 := [some (.ref (w.2.1 b)), some (.int a1), some (.int ((atF h r 179 176) - 1)), some (.int v1), some (.int v2), some (.int v2)]) C dX0_addCluster_35 hN (by decide) rfl rfl ?_
  exact kX0_addCluster_L37 C hR hN N r a1 hb hr N ((atF h r 179 176) - 1) v1 v2 v2 h
set_option maxRecDepth 100000 in
set_option maxHeartbeats 4000000 in
theorem kX1_opensCord_J97 {w : Wd} {x : Cz} (C : Ok w x cX1_opensCord RX1 2) (hR : OkI w x .boolean) (hN : xN x = 3) (a1 : Int32) (hL : LX w)  : ∀ (t0 : Int32) (t1 : Int32) (t2 : Int32) (t3 : Int32) (h : Hp), PW w x 97 [some (.ref (w.2.1 2)), none, none] [.int t0, .int t1, .int t2, .int t3, .ref (w.2.1 3)] h ((fX1_opensCord_J97 a1 t0 t1 t2 t3 h)) := by
  intro t0 t1 t2 t3 h
  unfold fX1_opensCord_J97
  refine pw_callVvq (as := [.int t3, .int t2, .int t1, .int t0]) (rest := []) C dX1_opensCord_97 ml_X1_82 cw_X0_addCord im_X0_addCord sl_X0_addCord (hL 3 _ rfl) rfl ⟨by decide, by decide⟩ (c_X0_addCord h 4 t3 t2 t1 t0 (hL 3 _ rfl) (hL 4 _ rfl)) rfl rfl (Nat.le_of_ble_eq_true rfl) (fun z2 => ?_)
  refine pw_aload_n C dX1_opensCord_100 rfl rfl ?_
  refine pw_iconst (v := 2) C dX1_opensCord_101 (by decide) ?_
  refine pw_puti C (hL 2 _ rfl) rfl (k := 2) (by decide) rfl fl_X1_25 dX1_opensCord_102 rfl (by decide) ?_
  refine pw_nameh (fun g3 => ?_)
  refine pw_iconst (v := 1) C dX1_opensCord_105 (by decide) ?_
  exact pw_zret' C hR dX1_opensCord_106 (by decide)
set_option maxRecDepth 100000 in
set_option maxHeartbeats 4000000 in
theorem kX1_opensCord_J74 {w : Wd} {x : Cz} (C : Ok w x cX1_opensCord RX1 2) (hR : OkI w x .boolean) (hN : xN x = 3) (a1 : Int32) (hL : LX w)  : ∀ (t0 : Int32) (t1 : Int32) (h : Hp), PW w x 74 [some (.ref (w.2.1 2)), none, none] [.int t0, .int t1, .ref (w.2.1 3)] h ((fX1_opensCord_J74 a1 t0 t1 h)) := by
  intro t0 t1 h
  unfold fX1_opensCord_J74
  refine pw_aload_n C dX1_opensCord_74 rfl rfl ?_
  refine pw_geti C (hL 2 _ rfl) rfl (k := 3) (by decide) rfl fl_X1_29 dX1_opensCord_75 ?_
  refine pw_aload_n C dX1_opensCord_78 rfl rfl ?_
  refine pw_geti C (hL 2 _ rfl) rfl (k := 3) (by decide) rfl fl_X1_29 dX1_opensCord_79 ?_
  refine PW.eq (apply_ite (fun z_ => (fX1_opensCord_J97 a1 z_ (h 2 3) t0 t1 h)) _ _ _) ?_
  refine pw_if_ne (tgt := 96) C dX1_opensCord_82 (by decide) (fun c4 => ?_) (fun c4 => ?_)
  · refine pw_aload_n C dX1_opensCord_85 rfl rfl ?_
    refine pw_geti C (hL 2 _ rfl) rfl (k := 4) (by decide) rfl fl_X1_32 dX1_opensCord_86 ?_
    refine PW.eq (apply_ite (fun z_ => (fX1_opensCord_J97 a1 z_ (h 2 3) t0 t1 h)) _ _ _) ?_
    refine pw_if_eq (tgt := 96) C dX1_opensCord_89 (by decide) (fun c5 => ?_) (fun c5 => ?_)
    · refine pw_iconst (v := 0) C dX1_opensCord_96 (by decide) ?_
      exact kX1_opensCord_J97 C hR hN a1 hL 0 (h 2 3) t0 t1 h
    · refine pw_iconst (v := 1) C dX1_opensCord_92 (by decide) ?_
      refine pw_goto (tgt := 97) C dX1_opensCord_93 (by decide) ?_
      exact kX1_opensCord_J97 C hR hN a1 hL 1 (h 2 3) t0 t1 h
  · refine pw_iconst (v := 0) C dX1_opensCord_96 (by decide) ?_
    exact kX1_opensCord_J97 C hR hN a1 hL 0 (h 2 3) t0 t1 h
set_option maxRecDepth 100000 in
set_option maxHeartbeats 4000000 in
theorem c_X1_opensCord {l : Launch} {w : Wd} {A : Nat → Prop} (h : Hp) (a1 : Int32) (hL : LX w) : ConI l yX1_opensCord cX1_opensCord 3 .boolean 2 w A [.ref (w.2.1 2), .int a1] h ((fX1_opensCord h a1)) := by
  refine ConI.of (lv0 := [some (.ref (w.2.1 2)), some (.int a1), none]) (by decide +kernel) (Nat.le_of_ble_eq_true rfl) rfl (fun x C hR hN => ?_)
  unfold fX1_opensCord
  refine pw_iload_n C dX1_opensCord_0 rfl rfl ?_
  refine pw_bipush (v := 48) C dX1_opensCord_1 (by decide) ?_
  refine pw_isub C dX1_opensCord_3 ?_
  refine pw_istore_n (lv2 := [some (.ref (w.2.1 2)), some (.int a1), some (.int (a1 - 48))]) C dX1_opensCord_4 rfl hN (by decide) rfl rfl ?_
  refine pw_iload_n C dX1_opensCord_5 rfl rfl ?_
  refine pw_callSNt (host := "ToldInKnots") (as := [.int (a1 - 48)]) (rest := []) C dX1_opensCord_6 (by decide +kernel) cw_X4_isColour st_X4_isColour ⟨by decide, by decide⟩ (c_X4_isColour h (a1 - 48)) rfl rfl (Nat.le_of_ble_eq_true rfl) ?_
  refine pw_if_eq (tgt := 24) C dX1_opensCord_9 (by decide) (fun c6 => ?_) (fun c6 => ?_)
  · refine pw_iconst (v := 0) C dX1_opensCord_24 (by decide) ?_
    exact pw_zret' C hR dX1_opensCord_25 (by decide)
  · refine pw_aload_n C dX1_opensCord_12 rfl rfl ?_
    refine pw_getr (q2 := 3) C (hL 2 _ rfl) rfl (k := 0) (by decide) rfl fl_X1_12 dX1_opensCord_13 ?_
    refine pw_callVt (as := []) (rest := []) C dX1_opensCord_16 ml_X1_71 cw_X0_cords im_X0_cords sl_X0_cords (hL 3 _ rfl) rfl ⟨by decide, by decide⟩ (c_X0_cords h 4 (hL 3 _ rfl) (hL 4 _ rfl)) rfl rfl (Nat.le_of_ble_eq_true rfl) ?_
    refine pw_bipush (v := 16) C dX1_opensCord_19 (by decide) ?_
    refine pw_icmp_lt (tgt := 26) C dX1_opensCord_21 (by decide) (fun c7 => ?_) (fun c7 => ?_)
    · refine pw_aload_n C dX1_opensCord_26 rfl rfl ?_
      refine pw_getr (q2 := 5) C (hL 2 _ rfl) rfl (k := 1) (by decide) rfl fl_X1_18 dX1_opensCord_27 ?_
      refine pw_aload_n C dX1_opensCord_30 rfl rfl ?_
      refine pw_geti C (hL 2 _ rfl) rfl (k := 3) (by decide) rfl fl_X1_29 dX1_opensCord_31 ?_
      refine pw_aload_n C dX1_opensCord_34 rfl rfl ?_
      refine pw_getr (q2 := 3) C (hL 2 _ rfl) rfl (k := 0) (by decide) rfl fl_X1_12 dX1_opensCord_35 ?_
      refine pw_callVt (as := []) (rest := [.int (h 2 3), .ref (w.2.1 5)]) C dX1_opensCord_38 ml_X1_71 cw_X0_cords im_X0_cords sl_X0_cords (hL 3 _ rfl) rfl ⟨by decide, by decide⟩ (c_X0_cords h 4 (hL 3 _ rfl) (hL 4 _ rfl)) rfl rfl (Nat.le_of_ble_eq_true rfl) ?_
      refine pw_callSNw (host := "ToldInKnots") (as := [.ref (w.2.1 5), .int (h 2 3), .int (fX0_cords h 4)]) (rest := []) C dX1_opensCord_41 (by decide +kernel) cw_X4_put st_X4_put ⟨by decide, by decide⟩ (c_X4_put h 5 3 (h 2 3) (fX0_cords h 4) (hL 5 _ rfl)) rfl rfl (Nat.le_of_ble_eq_true rfl) ?_
      refine pw_nameh (fun g1 => ?_)
      refine pw_aload_n C dX1_opensCord_44 rfl rfl ?_
      refine pw_getr (q2 := 3) C (hL 2 _ rfl) rfl (k := 0) (by decide) rfl fl_X1_12 dX1_opensCord_45 ?_
      refine pw_iload_n C dX1_opensCord_48 rfl rfl ?_
      refine pw_aload_n C dX1_opensCord_49 rfl rfl ?_
      refine pw_geti C (hL 2 _ rfl) rfl (k := 3) (by decide) rfl fl_X1_29 dX1_opensCord_50 ?_
      refine PW.eq (apply_ite (fun z_ => (fX1_opensCord_J74 a1 z_ (a1 - 48) g1)) _ _ _) ?_
      refine pw_if_ne (tgt := 61) C dX1_opensCord_53 (by decide) (fun c8 => ?_) (fun c8 => ?_)
      · refine pw_bipush (v := (-4)) C dX1_opensCord_56 (by decide) ?_
        refine pw_goto (tgt := 74) C dX1_opensCord_58 (by decide) ?_
        exact pw_lv (kX1_opensCord_J74 C hR hN a1 hL (-4) (a1 - 48) g1) ⟨rfl, trivial⟩
      · refine pw_aload_n C dX1_opensCord_61 rfl rfl ?_
        refine pw_getr (q2 := 5) C (hL 2 _ rfl) rfl (k := 1) (by decide) rfl fl_X1_18 dX1_opensCord_62 ?_
        refine pw_aload_n C dX1_opensCord_65 rfl rfl ?_
        refine pw_geti C (hL 2 _ rfl) rfl (k := 3) (by decide) rfl fl_X1_29 dX1_opensCord_66 ?_
        refine pw_iconst (v := 1) C dX1_opensCord_69 (by decide) ?_
        refine pw_isub C dX1_opensCord_70 ?_
        refine pw_callSNt (host := "ToldInKnots") (as := [.ref (w.2.1 5), .int ((g1 2 3) - 1)]) (rest := [.int (a1 - 48), .ref (w.2.1 3)]) C dX1_opensCord_71 (by decide +kernel) cw_X4_at st_X4_at ⟨by decide, by decide⟩ (c_X4_at g1 5 3 ((g1 2 3) - 1) (hL 5 _ rfl)) rfl rfl (Nat.le_of_ble_eq_true rfl) ?_
        exact pw_lv (kX1_opensCord_J74 C hR hN a1 hL (atF g1 5 3 ((g1 2 3) - 1)) (a1 - 48) g1) ⟨rfl, trivial⟩
    · refine pw_iconst (v := 0) C dX1_opensCord_24 (by decide) ?_
      exact pw_zret' C hR dX1_opensCord_25 (by decide)
set_option maxRecDepth 100000 in
set_option maxHeartbeats 4000000 in
theorem c_X1_endsCluster {l : Launch} {w : Wd} {A : Nat → Prop} (N : Nat) (h : Hp) (a1 : Int32) (a2 : Int32) (hL : LX w) : ConI l yX1_endsCluster cX1_endsCluster 3 .boolean 2 w A [.ref (w.2.1 2), .int a1, .int a2] h ((fX1_endsCluster N h a1 a2)) := by
  refine ConI.of (lv0 := [some (.ref (w.2.1 2)), some (.int a1), some (.int a2)]) (by decide +kernel) (Nat.le_of_ble_eq_true rfl) rfl (fun x C hR hN => ?_)
  unfold fX1_endsCluster
  refine pw_iload_n C dX1_endsCluster_0 rfl rfl ?_
  refine pw_iload_n C dX1_endsCluster_1 rfl rfl ?_
  refine pw_callSNt (host := "ToldInKnots") (as := [.int a1, .int a2]) (rest := []) C dX1_endsCluster_2 (by decide +kernel) cw_X4_canCount st_X4_canCount ⟨by decide, by decide⟩ (c_X4_canCount h a1 a2) rfl rfl (Nat.le_of_ble_eq_true rfl) ?_
  refine pw_if_ne (tgt := 10) C dX1_endsCluster_5 (by decide) (fun c3 => ?_) (fun c3 => ?_)
  · refine pw_iconst (v := 0) C dX1_endsCluster_8 (by decide) ?_
    exact pw_zret' C hR dX1_endsCluster_9 (by decide)
  · refine pw_aload_n C dX1_endsCluster_10 rfl rfl ?_
    refine pw_getr (q2 := 3) C (hL 2 _ rfl) rfl (k := 0) (by decide) rfl fl_X1_12 dX1_endsCluster_11 ?_
    refine pw_bipush (v := 10) C dX1_endsCluster_14 (by decide) ?_
    refine pw_iload_n C dX1_endsCluster_16 rfl rfl ?_
    refine pw_imul C dX1_endsCluster_17 ?_
    refine pw_iload_n C dX1_endsCluster_18 rfl rfl ?_
    refine pw_iadd C dX1_endsCluster_19 ?_
    refine pw_callVvq (as := [.int ((10 * a1) + a2)]) (rest := []) C dX1_endsCluster_20 ml_X1_93 cw_X0_addCluster im_X0_addCluster sl_X0_addCluster (hL 3 _ rfl) rfl ⟨by decide, by decide⟩ (c_X0_addCluster N h 4 ((10 * a1) + a2) (hL 3 _ rfl) (hL 4 _ rfl)) rfl rfl (Nat.le_of_ble_eq_true rfl) (fun z1 => ?_)
    refine pw_aload_n C dX1_endsCluster_23 rfl rfl ?_
    refine pw_iconst (v := 5) C dX1_endsCluster_24 (by decide) ?_
    refine pw_puti C (hL 2 _ rfl) rfl (k := 2) (by decide) rfl fl_X1_25 dX1_endsCluster_25 rfl (by decide) ?_
    refine pw_nameh (fun g2 => ?_)
    refine pw_iconst (v := 1) C dX1_endsCluster_28 (by decide) ?_
    exact pw_zret' C hR dX1_endsCluster_29 (by decide)
set_option maxRecDepth 100000 in
set_option maxHeartbeats 4000000 in
theorem kX2_better_J126 {w : Wd} {x : Cz} (C : Ok w x cX2_better RX2 2) (hR : OkI w x .int) (hN : xN x = 10) (a1 : Int32) (a2 : Int32) (a3 : Int32) (a4 : Int32) (a5 : Int32) (hL : LX w)  : ∀ (t0 : Int32) (t2 : Int32) (h : Hp), PW w x 126 [none, none, none, none, none, none, none, none, none, none] [.int t0, .ref (w.2.1 12), .int t2] h ((fX2_better_J126 a1 a2 a3 a4 a5 t0 t2 h)) := by
  intro t0 t2 h
  unfold fX2_better_J126
  refine pw_callVp (as := [.int t0]) (rest := [.int t2]) C dX2_better_126 ml_X2_75 cw_X2_bitsAt im_X2_bitsAt sl_X2_bitsAt (hL 12 _ rfl) rfl ⟨by decide, by decide⟩ (c_X2_bitsAt h t0 hL) rfl rfl (Nat.le_of_ble_eq_true rfl) (fun v7 => ?_)
  refine pw_ior C dX2_better_129 ?_
  exact pw_iret C hR dX2_better_130
set_option maxRecDepth 100000 in
set_option maxHeartbeats 4000000 in
theorem kX2_better_J91 {w : Wd} {x : Cz} (C : Ok w x cX2_better RX2 2) (hR : OkI w x .int) (hN : xN x = 10) (a1 : Int32) (a2 : Int32) (a3 : Int32) (a4 : Int32) (a5 : Int32) (hL : LX w)  : ∀ (u8 : Int32) (t0 : Int32) (h : Hp), PW w x 91 [some (.ref (w.2.1 12)), some (.int a1), some (.int a2), some (.int a3), none, some (.int a5), none, none, some (.int u8), none] [.int t0] h ((fX2_better_J91 a1 a2 a3 a4 a5 u8 t0 h)) := by
  intro u8 t0 h
  unfold fX2_better_J91
  refine pw_istore (lv2 := [some (.ref (w.2.1 12)), some (.int a1), some (.int a2), some (.int a3), none, some (.int a5), none, none, some (.int u8), some (.int t0)]) C dX2_better_91 hN (by decide) rfl rfl ?_
  refine pw_iload C dX2_better_93 rfl ?_
  refine pw_aload_n C dX2_better_95 rfl rfl ?_
  refine pw_geti C (hL 12 _ rfl) rfl (k := 8) (by decide) rfl fl_X2_47 dX2_better_96 ?_
  refine pw_icmp_lt (tgt := 105) C dX2_better_99 (by decide) (fun c8 => ?_) (fun c8 => ?_)
  · refine pw_aload_n C dX2_better_105 rfl rfl ?_
    refine pw_iload C dX2_better_106 rfl ?_
    refine pw_puti C (hL 12 _ rfl) rfl (k := 8) (by decide) rfl fl_X2_47 dX2_better_108 rfl (by decide) ?_
    refine pw_nameh (fun g6 => ?_)
    refine pw_iload_n C dX2_better_111 rfl rfl ?_
    refine pw_bipush (v := 8) C dX2_better_112 (by decide) ?_
    refine pw_ishl C dX2_better_114 ?_
    refine pw_aload_n C dX2_better_115 rfl rfl ?_
    refine pw_iload C dX2_better_116 rfl ?_
    refine PW.eq (apply_ite (fun z_ => (fX2_better_J126 a1 a2 a3 a4 a5 z_ (a3 <<< (8 &&& 31)) g6)) _ _ _) ?_
    refine pw_if_eq (tgt := 125) C dX2_better_118 (by decide) (fun c9 => ?_) (fun c9 => ?_)
    · refine pw_iload_n C dX2_better_125 rfl rfl ?_
      exact pw_lv (kX2_better_J126 C hR hN a1 a2 a3 a4 a5 hL a1 (a3 <<< (8 &&& 31)) g6) trivial
    · refine pw_iload_n C dX2_better_121 rfl rfl ?_
      refine pw_goto (tgt := 126) C dX2_better_122 (by decide) ?_
      exact pw_lv (kX2_better_J126 C hR hN a1 a2 a3 a4 a5 hL a2 (a3 <<< (8 &&& 31)) g6) trivial
  · refine pw_iload C dX2_better_102 rfl ?_
    exact pw_iret C hR dX2_better_104
set_option maxRecDepth 100000 in
set_option maxHeartbeats 4000000 in
theorem kX2_better_J77 {w : Wd} {x : Cz} (C : Ok w x cX2_better RX2 2) (hR : OkI w x .int) (hN : xN x = 10) (a1 : Int32) (a2 : Int32) (a3 : Int32) (a4 : Int32) (a5 : Int32) (hL : LX w)  : ∀ (u6 : Int32) (u7 : Int32) (t0 : Int32) (h : Hp), PW w x 77 [some (.ref (w.2.1 12)), some (.int a1), some (.int a2), some (.int a3), none, some (.int a5), some (.int u6), some (.int u7), none, none] [.int t0] h ((fX2_better_J77 a1 a2 a3 a4 a5 u6 u7 t0 h)) := by
  intro u6 u7 t0 h
  unfold fX2_better_J77
  refine pw_istore (lv2 := [some (.ref (w.2.1 12)), some (.int a1), some (.int a2), some (.int a3), none, some (.int a5), some (.int u6), some (.int u7), some (.int t0), none]) C dX2_better_77 hN (by decide) rfl rfl ?_
  refine pw_iload C dX2_better_79 rfl ?_
  refine PW.eq (apply_ite (fun z_ => (fX2_better_J91 a1 a2 a3 a4 a5 t0 z_ h)) _ _ _) ?_
  refine pw_if_eq (tgt := 89) C dX2_better_81 (by decide) (fun c10 => ?_) (fun c10 => ?_)
  · refine pw_iload C dX2_better_89 rfl ?_
    exact pw_lv (kX2_better_J91 C hR hN a1 a2 a3 a4 a5 hL t0 u6 h) ⟨rfl, rfl, rfl, rfl, rfl, rfl, trivial⟩
  · refine pw_iload C dX2_better_84 rfl ?_
    refine pw_goto (tgt := 91) C dX2_better_86 (by decide) ?_
    exact pw_lv (kX2_better_J91 C hR hN a1 a2 a3 a4 a5 hL t0 u7 h) ⟨rfl, rfl, rfl, rfl, rfl, rfl, trivial⟩
set_option maxRecDepth 100000 in
set_option maxHeartbeats 4000000 in
theorem kX2_better_J43 {w : Wd} {x : Cz} (C : Ok w x cX2_better RX2 2) (hR : OkI w x .int) (hN : xN x = 10) (a1 : Int32) (a2 : Int32) (a3 : Int32) (a4 : Int32) (a5 : Int32) (hL : LX w)  : ∀ (u6 : Int32) (t0 : Int32) (h : Hp), PW w x 43 [some (.ref (w.2.1 12)), some (.int a1), some (.int a2), some (.int a3), none, some (.int a5), some (.int u6), none, none, none] [.int t0] h ((fX2_better_J43 a1 a2 a3 a4 a5 u6 t0 h)) := by
  intro u6 t0 h
  unfold fX2_better_J43
  refine pw_istore (lv2 := [some (.ref (w.2.1 12)), some (.int a1), some (.int a2), some (.int a3), none, some (.int a5), some (.int u6), some (.int t0), none, none]) C dX2_better_43 hN (by decide) rfl rfl ?_
  refine pw_iload C dX2_better_45 rfl ?_
  refine pw_iload C dX2_better_47 rfl ?_
  refine pw_icmp_lt (tgt := 72) C dX2_better_49 (by decide) (fun c11 => ?_) (fun c11 => ?_)
  · refine pw_iconst (v := 1) C dX2_better_72 (by decide) ?_
    refine pw_goto (tgt := 77) C dX2_better_73 (by decide) ?_
    exact kX2_better_J77 C hR hN a1 a2 a3 a4 a5 hL u6 t0 1 h
  · refine pw_iload C dX2_better_52 rfl ?_
    refine pw_iload C dX2_better_54 rfl ?_
    refine pw_icmp_ne (tgt := 76) C dX2_better_56 (by decide) (fun c12 => ?_) (fun c12 => ?_)
    · refine pw_aload_n C dX2_better_59 rfl rfl ?_
      refine pw_iload_n C dX2_better_60 rfl rfl ?_
      refine pw_callVp (as := [.int a2]) (rest := []) C dX2_better_61 ml_X2_75 cw_X2_bitsAt im_X2_bitsAt sl_X2_bitsAt (hL 12 _ rfl) rfl ⟨by decide, by decide⟩ (c_X2_bitsAt h a2 hL) rfl rfl (Nat.le_of_ble_eq_true rfl) (fun v4 => ?_)
      refine pw_aload_n C dX2_better_64 rfl rfl ?_
      refine pw_iload_n C dX2_better_65 rfl rfl ?_
      refine pw_callVp (as := [.int a1]) (rest := [.int v4]) C dX2_better_66 ml_X2_75 cw_X2_bitsAt im_X2_bitsAt sl_X2_bitsAt (hL 12 _ rfl) rfl ⟨by decide, by decide⟩ (c_X2_bitsAt h a1 hL) rfl rfl (Nat.le_of_ble_eq_true rfl) (fun v5 => ?_)
      refine PW.eq (apply_ite (fun z_ => (fX2_better_J77 a1 a2 a3 a4 a5 u6 t0 z_ h)) _ _ _) ?_
      refine pw_icmp_ge (tgt := 76) C dX2_better_69 (by decide) (fun c13 => ?_) (fun c13 => ?_)
      · refine pw_iconst (v := 1) C dX2_better_72 (by decide) ?_
        refine pw_goto (tgt := 77) C dX2_better_73 (by decide) ?_
        exact kX2_better_J77 C hR hN a1 a2 a3 a4 a5 hL u6 t0 1 h
      · refine pw_iconst (v := 0) C dX2_better_76 (by decide) ?_
        exact kX2_better_J77 C hR hN a1 a2 a3 a4 a5 hL u6 t0 0 h
    · refine pw_iconst (v := 0) C dX2_better_76 (by decide) ?_
      exact kX2_better_J77 C hR hN a1 a2 a3 a4 a5 hL u6 t0 0 h
set_option maxRecDepth 100000 in
set_option maxHeartbeats 4000000 in
theorem c_X2_better {l : Launch} {w : Wd} {A : Nat → Prop} (h : Hp) (a1 : Int32) (a2 : Int32) (a3 : Int32) (a4 : Int32) (a5 : Int32) (hL : LX w) : ConI l yX2_better cX2_better 10 .int 2 w A [.ref (w.2.1 12), .int a1, .int a2, .int a3, .int a4, .int a5] h ((fX2_better h a1 a2 a3 a4 a5)) := by
  refine ConI.of (lv0 := [some (.ref (w.2.1 12)), some (.int a1), some (.int a2), some (.int a3), some (.int a4), some (.int a5), none, none, none, none]) (by decide +kernel) (Nat.le_of_ble_eq_true rfl) rfl (fun x C hR hN => ?_)
  unfold fX2_better
  refine pw_iload C dX2_better_0 rfl ?_
  refine pw_iconst (v := 2) C dX2_better_2 (by decide) ?_
  refine pw_aload_n C dX2_better_3 rfl rfl ?_
  refine pw_iload_n C dX2_better_4 rfl rfl ?_
  refine pw_callVp (as := [.int a1]) (rest := [.int 2, .int a4]) C dX2_better_5 ml_X2_54 cw_X2_sumAt im_X2_sumAt sl_X2_sumAt (hL 12 _ rfl) rfl ⟨by decide, by decide⟩ (c_X2_sumAt h a1 hL) rfl rfl (Nat.le_of_ble_eq_true rfl) (fun v1 => ?_)
  refine pw_imul C dX2_better_8 ?_
  refine pw_isub C dX2_better_9 ?_
  refine pw_mabs C (by decide) ml_X2_67 (Nat.le_of_ble_eq_true rfl) dX2_better_10 ?_
  refine pw_name (fun v2 => ?_)
  refine pw_istore (lv2 := [some (.ref (w.2.1 12)), some (.int a1), some (.int a2), some (.int a3), some (.int a4), some (.int a5), some (.int v2), none, none, none]) C dX2_better_13 hN (by decide) rfl rfl ?_
  refine pw_iload_n C dX2_better_15 rfl rfl ?_
  refine pw_aload_n C dX2_better_16 rfl rfl ?_
  refine pw_geti C (hL 12 _ rfl) rfl (k := 6) (by decide) rfl fl_X2_72 dX2_better_17 ?_
  refine pw_icmp_ge (tgt := 39) C dX2_better_20 (by decide) (fun c14 => ?_) (fun c14 => ?_)
  · refine pw_iload C dX2_better_23 rfl ?_
    refine pw_iconst (v := 2) C dX2_better_25 (by decide) ?_
    refine pw_aload_n C dX2_better_26 rfl rfl ?_
    refine pw_iload_n C dX2_better_27 rfl rfl ?_
    refine pw_callVp (as := [.int a2]) (rest := [.int 2, .int a4]) C dX2_better_28 ml_X2_54 cw_X2_sumAt im_X2_sumAt sl_X2_sumAt (hL 12 _ rfl) rfl ⟨by decide, by decide⟩ (c_X2_sumAt h a2 hL) rfl rfl (Nat.le_of_ble_eq_true rfl) (fun v3 => ?_)
    refine pw_imul C dX2_better_31 ?_
    refine pw_isub C dX2_better_32 ?_
    refine pw_mabs C (by decide) ml_X2_67 (Nat.le_of_ble_eq_true rfl) dX2_better_33 ?_
    refine pw_goto (tgt := 43) C dX2_better_36 (by decide) ?_
    exact pw_lv (kX2_better_J43 C hR hN a1 a2 a3 a4 a5 hL v2 (if 0 ≤ (a4 - (2 * v3)) then (a4 - (2 * v3)) else 0 - (a4 - (2 * v3))) h) ⟨rfl, rfl, rfl, rfl, rfl, rfl, trivial⟩
  · refine pw_iload C dX2_better_39 rfl ?_
    refine pw_iconst (v := 1) C dX2_better_41 (by decide) ?_
    refine pw_iadd C dX2_better_42 ?_
    exact pw_lv (kX2_better_J43 C hR hN a1 a2 a3 a4 a5 hL v2 (v2 + 1) h) ⟨rfl, rfl, rfl, rfl, rfl, rfl, trivial⟩
