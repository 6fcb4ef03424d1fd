set_option maxRecDepth 100000 in
set_option maxHeartbeats 4000000 in
theorem kX0_moveBehind_L81 {w : Wd} {x : Cz} {b : Nat} (C : Ok w x cX0_moveBehind RX0 3) (hR : OkV w x) (hN : xN x = 7) (N : Nat) (r : Nat) (a1 : Int32) (a2 : Int32) (hb : w.2.2.1[b]? = some (0, 0, [r + 2])) (hr : w.2.2.1[r]? = some (1, 179, []))  : ∀ (n : Nat) (u5 : Int32) (h : Hp), PW w x 81 [some (.ref (w.2.1 b)), some (.int a1), some (.int a2), none, none, some (.int u5), none] [] h ((fX0_moveBehind_L81 N r a1 a2 n u5 h)) := by
  intro n
  induction n with
  | zero => intro u5 h; rw [fX0_moveBehind_L81]; exact pw_none
  | succ n ih =>
    intro u5 h
    rw [fX0_moveBehind_L81]
    refine pw_iload C dX0_moveBehind_81 rfl ?_
    refine pw_aload_n C dX0_moveBehind_83 rfl rfl ?_
    refine pw_callVt (as := []) (rest := [.int u5]) C dX0_moveBehind_84 ml_X0_29 cw_X0_cords im_X0_cords sl_X0_cords hb rfl ⟨by decide, by decide⟩ (c_X0_cords h r hb hr) rfl rfl (Nat.le_of_ble_eq_true rfl) ?_
    refine pw_icmp_ge (tgt := 119) C dX0_moveBehind_87 (by decide) (fun c4 => ?_) (fun c4 => ?_)
    · refine pw_aload_n C dX0_moveBehind_90 rfl rfl ?_
      refine pw_iload C dX0_moveBehind_91 rfl ?_
      refine pw_iload_n C dX0_moveBehind_93 rfl rfl ?_
      refine pw_callVt (as := [.int u5, .int a1]) (rest := []) C dX0_moveBehind_94 ml_X0_95 cw_X0_isFrom im_X0_isFrom sl_X0_isFrom hb rfl ⟨by decide, by decide⟩ (c_X0_isFrom h r u5 a1 hb hr) rfl rfl (Nat.le_of_ble_eq_true rfl) ?_
      refine pw_if_eq (tgt := 113) C dX0_moveBehind_97 (by decide) (fun c5 => ?_) (fun c5 => ?_)
      · refine pw_iinc (lv2 := [some (.ref (w.2.1 b)), some (.int a1), some (.int a2), none, none, some (.int (u5 + 1)), none]) C dX0_moveBehind_113 rfl rfl hN (by decide) rfl rfl ?_
        refine pw_goto (tgt := 81) C dX0_moveBehind_116 (by decide) ?_
        exact ih (u5 + 1) h
      · refine pw_aload_n C dX0_moveBehind_100 rfl rfl ?_
        refine pw_getr (q2 := r) C hb rfl (k := 0) (by decide) rfl fl_X0_11 dX0_moveBehind_101 ?_
        refine pw_bipush (v := 80) C dX0_moveBehind_104 (by decide) ?_
        refine pw_iload C dX0_moveBehind_106 rfl ?_
        refine pw_iadd C dX0_moveBehind_108 ?_
        refine pw_iload_n C dX0_moveBehind_109 rfl rfl ?_
        refine pw_callSNw (host := "ToldInKnots") (as := [.ref (w.2.1 r), .int (80 + u5), .int a2]) (rest := []) C dX0_moveBehind_110 (by decide +kernel) cw_X4_put st_X4_put ⟨by decide, by decide⟩ (c_X4_put h r 179 (80 + u5) a2 hr) rfl rfl (Nat.le_of_ble_eq_true rfl) ?_
        refine pw_nameh (fun g3 => ?_)
        refine pw_iinc (lv2 := [some (.ref (w.2.1 b)), some (.int a1), some (.int a2), none, none, some (.int (u5 + 1)), none]) C dX0_moveBehind_113 rfl rfl hN (by decide) rfl rfl ?_
        refine pw_goto (tgt := 81) C dX0_moveBehind_116 (by decide) ?_
        exact ih (u5 + 1) g3
    · exact pw_vret C hR dX0_moveBehind_119
set_option maxRecDepth 100000 in
set_option maxHeartbeats 4000000 in
theorem kX0_moveBehind_L17 {w : Wd} {x : Cz} {b : Nat} (C : Ok w x cX0_moveBehind RX0 3) (hR : OkV w x) (hN : xN x = 7) (N : Nat) (r : Nat) (a1 : Int32) (a2 : Int32) (hb : w.2.2.1[b]? = some (0, 0, [r + 2])) (hr : w.2.2.1[r]? = some (1, 179, []))  : ∀ (n : Nat) (u3 : Int32) (u4 : Int32) (u5 : Int32) (h : Hp), PW w x 17 [some (.ref (w.2.1 b)), some (.int a1), some (.int a2), some (.int u3), some (.int u4), some (.int u5), none] [] h ((fX0_moveBehind_L17 N r a1 a2 n u3 u4 u5 h)) := by
  intro n
  induction n with
  | zero => intro u3 u4 u5 h; rw [fX0_moveBehind_L17]; exact pw_none
  | succ n ih =>
    intro u3 u4 u5 h
    rw [fX0_moveBehind_L17]
    refine pw_iload C dX0_moveBehind_17 rfl ?_
    refine pw_iload C dX0_moveBehind_19 rfl ?_
    refine pw_icmp_ge (tgt := 66) C dX0_moveBehind_21 (by decide) (fun c6 => ?_) (fun c6 => ?_)
    · refine pw_aload_n C dX0_moveBehind_24 rfl rfl ?_
      refine pw_getr (q2 := r) C hb rfl (k := 0) (by decide) rfl fl_X0_11 dX0_moveBehind_25 ?_
      refine pw_bipush (v := 96) C dX0_moveBehind_28 (by decide) ?_
      refine pw_iload C dX0_moveBehind_30 rfl ?_
      refine pw_iadd C dX0_moveBehind_32 ?_
      refine pw_callSNt (host := "ToldInKnots") (as := [.ref (w.2.1 r), .int (96 + u5)]) (rest := []) C dX0_moveBehind_33 (by decide +kernel) cw_X4_at st_X4_at ⟨by decide, by decide⟩ (c_X4_at h r 179 (96 + u5) hr) rfl rfl (Nat.le_of_ble_eq_true rfl) ?_
      refine pw_istore (lv2 := [some (.ref (w.2.1 b)), some (.int a1), some (.int a2), some (.int u3), some (.int u4), some (.int u5), some (.int (atF h r 179 (96 + u5)))]) C dX0_moveBehind_36 hN (by decide) rfl rfl ?_
      refine pw_iload C dX0_moveBehind_38 rfl ?_
      refine pw_iload_n C dX0_moveBehind_40 rfl rfl ?_
      refine pw_icmp_eq (tgt := 60) C dX0_moveBehind_41 (by decide) (fun c7 => ?_) (fun c7 => ?_)
      · refine pw_iinc (lv2 := [some (.ref (w.2.1 b)), some (.int a1), some (.int a2), some (.int u3), some (.int u4), some (.int (u5 + 1)), some (.int (atF h r 179 (96 + u5)))]) C dX0_moveBehind_60 rfl rfl hN (by decide) rfl rfl ?_
        refine pw_goto (tgt := 17) C dX0_moveBehind_63 (by decide) ?_
        exact pw_lv (ih u3 u4 (u5 + 1) h) ⟨rfl, rfl, rfl, rfl, rfl, rfl, trivial⟩
      · refine pw_aload_n C dX0_moveBehind_44 rfl rfl ?_
        refine pw_getr (q2 := r) C hb rfl (k := 0) (by decide) rfl fl_X0_11 dX0_moveBehind_45 ?_
        refine pw_bipush (v := 96) C dX0_moveBehind_48 (by decide) ?_
        refine pw_iload_n C dX0_moveBehind_50 rfl rfl ?_
        refine pw_iadd C dX0_moveBehind_51 ?_
        refine pw_iload C dX0_moveBehind_52 rfl ?_
        refine pw_callSNw (host := "ToldInKnots") (as := [.ref (w.2.1 r), .int (96 + u3), .int (atF h r 179 (96 + u5))]) (rest := []) C dX0_moveBehind_54 (by decide +kernel) cw_X4_put st_X4_put ⟨by decide, by decide⟩ (c_X4_put h r 179 (96 + u3) (atF h r 179 (96 + u5)) hr) rfl rfl (Nat.le_of_ble_eq_true rfl) ?_
        refine pw_nameh (fun g1 => ?_)
        refine pw_iinc (lv2 := [some (.ref (w.2.1 b)), some (.int a1), some (.int a2), some (.int (u3 + 1)), some (.int u4), some (.int u5), some (.int (atF h r 179 (96 + u5)))]) C dX0_moveBehind_57 rfl rfl hN (by decide) rfl rfl ?_
        refine pw_iinc (lv2 := [some (.ref (w.2.1 b)), some (.int a1), some (.int a2), some (.int (u3 + 1)), some (.int u4), some (.int (u5 + 1)), some (.int (atF h r 179 (96 + u5)))]) C dX0_moveBehind_60 rfl rfl hN (by decide) rfl rfl ?_
        refine pw_goto (tgt := 17) C dX0_moveBehind_63 (by decide) ?_
        exact pw_lv (ih (u3 + 1) u4 (u5 + 1) g1) ⟨rfl, rfl, rfl, rfl, rfl, rfl, trivial⟩
    · refine pw_aload_n C dX0_moveBehind_66 rfl rfl ?_
      refine pw_getr (q2 := r) C hb rfl (k := 0) (by decide) rfl fl_X0_11 dX0_moveBehind_67 ?_
      refine pw_bipush (v := 96) C dX0_moveBehind_70 (by decide) ?_
      refine pw_iload_n C dX0_moveBehind_72 rfl rfl ?_
      refine pw_iadd C dX0_moveBehind_73 ?_
      refine pw_iload_n C dX0_moveBehind_74 rfl rfl ?_
      refine pw_callSNw (host := "ToldInKnots") (as := [.ref (w.2.1 r), .int (96 + u3), .int a1]) (rest := []) C dX0_moveBehind_75 (by decide +kernel) cw_X4_put st_X4_put ⟨by decide, by decide⟩ (c_X4_put h r 179 (96 + u3) a1 hr) rfl rfl (Nat.le_of_ble_eq_true rfl) ?_
      refine pw_nameh (fun g2 => ?_)
      refine pw_iconst (v := 0) C dX0_moveBehind_78 (by decide) ?_
      refine pw_istore (lv2 := [some (.ref (w.2.1 b)), some (.int a1), some (.int a2), some (.int u3), some (.int u4), some (.int 0), none]) C dX0_moveBehind_79 hN (by decide) rfl rfl ?_
      exact pw_lv (kX0_moveBehind_L81 C hR hN N r a1 a2 hb hr N 0 g2) ⟨rfl, rfl, rfl, rfl, trivial⟩
set_option maxRecDepth 100000 in
set_option maxHeartbeats 4000000 in
theorem c_X0_moveBehind {l : Launch} {w : Wd} {A : Nat → Prop} {b : Nat} (N : Nat) (h : Hp) (r : Nat) (a1 : Int32) (a2 : Int32) (hb : w.2.2.1[b]? = some (0, 0, [r + 2])) (hr : w.2.2.1[r]? = some (1, 179, [])) : ConV l yX0_moveBehind cX0_moveBehind 7 3 w A [.ref (w.2.1 b), .int a1, .int a2] h ((fX0_moveBehind N h r a1 a2)) := by
  refine ConV.of (lv0 := [some (.ref (w.2.1 b)), some (.int a1), some (.int a2), none, none, none, none]) (by decide +kernel) (Nat.le_of_ble_eq_true rfl) rfl (fun x C hR hN => ?_)
  unfold fX0_moveBehind
  refine pw_iconst (v := 0) C dX0_moveBehind_0 (by decide) ?_
  refine pw_istore_n (lv2 := [some (.ref (w.2.1 b)), some (.int a1), some (.int a2), some (.int 0), none, none, none]) C dX0_moveBehind_1 rfl hN (by decide) rfl rfl ?_
  refine pw_aload_n C dX0_moveBehind_2 rfl rfl ?_
  refine pw_getr (q2 := r) C hb rfl (k := 0) (by decide) rfl fl_X0_11 dX0_moveBehind_3 ?_
  refine pw_sipush (v := 178) C dX0_moveBehind_6 (by decide) ?_
  refine pw_callSNt (host := "ToldInKnots") (as := [.ref (w.2.1 r), .int 178]) (rest := []) C dX0_moveBehind_9 (by decide +kernel) cw_X4_at st_X4_at ⟨by decide, by decide⟩ (c_X4_at h r 179 178 hr) rfl rfl (Nat.le_of_ble_eq_true rfl) ?_
  refine pw_istore (lv2 := [some (.ref (w.2.1 b)), some (.int a1), some (.int a2), some (.int 0), some (.int (atF h r 179 178)), none, none]) C dX0_moveBehind_12 hN (by decide) rfl rfl ?_
  refine pw_iconst (v := 0) C dX0_moveBehind_14 (by decide) ?_
  refine pw_istore (lv2 := [some (.ref (w.2.1 b)), some (.int a1), some (.int a2), some (.int 0), some (.int (atF h r 179 178)), some (.int 0), none]) C dX0_moveBehind_15 hN (by decide) rfl rfl ?_
  exact kX0_moveBehind_L17 C hR hN N r a1 a2 hb hr N 0 (atF h r 179 178) 0 h
set_option maxRecDepth 100000 in
set_option maxHeartbeats 4000000 in
theorem kX0_wellKnotted_L4 {w : Wd} {x : Cz} {b : Nat} (C : Ok w x cX0_wellKnotted RX0 3) (hR : OkI w x .int) (hN : xN x = 3) (N : Nat) (h : Hp) (r : Nat) (hb : w.2.2.1[b]? = some (0, 0, [r + 2])) (hr : w.2.2.1[r]? = some (1, 179, []))  : ∀ (n : Nat) (u1 : Int32) (u2 : Int32), PW w x 4 [some (.ref (w.2.1 b)), some (.int u1), some (.int u2)] [] h (Option.map (fun v => (v, h)) (fX0_wellKnotted_L4 N h r n u1 u2)) := by
  intro n
  induction n with
  | zero => intro u1 u2; rw [fX0_wellKnotted_L4]; exact pw_none
  | succ n ih =>
    intro u1 u2
    rw [fX0_wellKnotted_L4]
    refine pw_iload_n C dX0_wellKnotted_4 rfl rfl ?_
    refine pw_aload_n C dX0_wellKnotted_5 rfl rfl ?_
    refine pw_callVt (as := []) (rest := [.int u2]) C dX0_wellKnotted_6 ml_X0_29 cw_X0_cords im_X0_cords sl_X0_cords hb rfl ⟨by decide, by decide⟩ (c_X0_cords h r hb hr) rfl rfl (Nat.le_of_ble_eq_true rfl) ?_
    refine pm_icmp_ge (tgt := 36) C dX0_wellKnotted_9 (by decide) (fun c2 => ?_) (fun c2 => ?_)
    · refine pw_iload_n C dX0_wellKnotted_12 rfl rfl ?_
      refine pw_aload_n C dX0_wellKnotted_13 rfl rfl ?_
      refine pw_iload_n C dX0_wellKnotted_14 rfl rfl ?_
      refine pm_callVp (as := [.int u2]) (rest := [.int u1]) C dX0_wellKnotted_15 ml_X0_62 cw_X0_valueOf im_X0_valueOf sl_X0_valueOf hb rfl ⟨by decide, by decide⟩ (c_X0_valueOf N h r u2 hb hr) rfl rfl (Nat.le_of_ble_eq_true rfl) (fun v1 => ?_)
      refine pw_bipush (v := (-4)) C dX0_wellKnotted_18 (by decide) ?_
      refine PW.eq (apply_ite (fun z_ => Option.map (fun v => (v, h)) (fX0_wellKnotted_L4 N h r n z_ (u2 + 1))) _ _ _) ?_
      refine pw_icmp_eq (tgt := 27) C dX0_wellKnotted_20 (by decide) (fun c3 => ?_) (fun c3 => ?_)
      · refine pw_iconst (v := 0) C dX0_wellKnotted_27 (by decide) ?_
        refine pw_iadd C dX0_wellKnotted_28 ?_
        refine pw_istore_n (lv2 := [some (.ref (w.2.1 b)), some (.int (u1 + 0)), some (.int u2)]) C dX0_wellKnotted_29 rfl hN (by decide) rfl rfl ?_
        refine pw_iinc (lv2 := [some (.ref (w.2.1 b)), some (.int (u1 + 0)), some (.int (u2 + 1))]) C dX0_wellKnotted_30 rfl rfl hN (by decide) rfl rfl ?_
        refine pw_goto (tgt := 4) C dX0_wellKnotted_33 (by decide) ?_
        exact ih (u1 + 0) (u2 + 1)
      · refine pw_iconst (v := 1) C dX0_wellKnotted_23 (by decide) ?_
        refine pw_goto (tgt := 28) C dX0_wellKnotted_24 (by decide) ?_
        refine pw_iadd C dX0_wellKnotted_28 ?_
        refine pw_istore_n (lv2 := [some (.ref (w.2.1 b)), some (.int (u1 + 1)), some (.int u2)]) C dX0_wellKnotted_29 rfl hN (by decide) rfl rfl ?_
        refine pw_iinc (lv2 := [some (.ref (w.2.1 b)), some (.int (u1 + 1)), some (.int (u2 + 1))]) C dX0_wellKnotted_30 rfl rfl hN (by decide) rfl rfl ?_
        refine pw_goto (tgt := 4) C dX0_wellKnotted_33 (by decide) ?_
        exact ih (u1 + 1) (u2 + 1)
    · refine pw_iload_n C dX0_wellKnotted_36 rfl rfl ?_
      exact pm_iret C hR dX0_wellKnotted_37
set_option maxRecDepth 100000 in
set_option maxHeartbeats 4000000 in
theorem c_X0_wellKnotted {l : Launch} {w : Wd} {A : Nat → Prop} {b : Nat} (N : Nat) (h : Hp) (r : Nat) (hb : w.2.2.1[b]? = some (0, 0, [r + 2])) (hr : w.2.2.1[r]? = some (1, 179, [])) : ConI l yX0_wellKnotted cX0_wellKnotted 3 .int 3 w A [.ref (w.2.1 b)] h (Option.map (fun v => (v, h)) (fX0_wellKnotted N h r)) := by
  refine ConI.of (lv0 := [some (.ref (w.2.1 b)), none, none]) (by decide +kernel) (Nat.le_of_ble_eq_true rfl) rfl (fun x C hR hN => ?_)
  unfold fX0_wellKnotted
  refine pw_iconst (v := 0) C dX0_wellKnotted_0 (by decide) ?_
  refine pw_istore_n (lv2 := [some (.ref (w.2.1 b)), some (.int 0), none]) C dX0_wellKnotted_1 rfl hN (by decide) rfl rfl ?_
  refine pw_iconst (v := 0) C dX0_wellKnotted_2 (by decide) ?_
  refine pw_istore_n (lv2 := [some (.ref (w.2.1 b)), some (.int 0), some (.int 0)]) C dX0_wellKnotted_3 rfl hN (by decide) rfl rfl ?_
  exact kX0_wellKnotted_L4 C hR hN N h r hb hr N 0 0
set_option maxRecDepth 100000 in
set_option maxHeartbeats 4000000 in
theorem kX0_allKnots_L4 {w : Wd} {x : Cz} {b : Nat} (C : Ok w x cX0_allKnots RX0 3) (hR : OkI w x .int) (hN : xN x = 3) (N : Nat) (h : Hp) (r : Nat) (hb : w.2.2.1[b]? = some (0, 0, [r + 2])) (hr : w.2.2.1[r]? = some (1, 179, []))  : ∀ (n : Nat) (u1 : Int32) (u2 : Int32), PW w x 4 [some (.ref (w.2.1 b)), some (.int u1), some (.int u2)] [] h (Option.map (fun v => (v, h)) (fX0_allKnots_L4 N h r n u1 u2)) := by
  intro n
  induction n with
  | zero => intro u1 u2; rw [fX0_allKnots_L4]; exact pw_none
  | succ n ih =>
    intro u1 u2
    rw [fX0_allKnots_L4]
    refine pw_iload_n C dX0_allKnots_4 rfl rfl ?_
    refine pw_aload_n C dX0_allKnots_5 rfl rfl ?_
    refine pw_callVt (as := []) (rest := [.int u2]) C dX0_allKnots_6 ml_X0_29 cw_X0_cords im_X0_cords sl_X0_cords hb rfl ⟨by decide, by decide⟩ (c_X0_cords h r hb hr) rfl rfl (Nat.le_of_ble_eq_true rfl) ?_
    refine pm_icmp_ge (tgt := 26) C dX0_allKnots_9 (by decide) (fun c2 => ?_) (fun c2 => ?_)
    · refine pw_iload_n C dX0_allKnots_12 rfl rfl ?_
      refine pw_aload_n C dX0_allKnots_13 rfl rfl ?_
      refine pw_iload_n C dX0_allKnots_14 rfl rfl ?_
      refine pm_callVp (as := [.int u2]) (rest := [.int u1]) C dX0_allKnots_15 ml_X0_110 cw_X0_knotsOf im_X0_knotsOf sl_X0_knotsOf hb rfl ⟨by decide, by decide⟩ (c_X0_knotsOf N h r u2 hb hr) rfl rfl (Nat.le_of_ble_eq_true rfl) (fun v1 => ?_)
      refine pw_iadd C dX0_allKnots_18 ?_
      refine pw_istore_n (lv2 := [some (.ref (w.2.1 b)), some (.int (u1 + v1)), some (.int u2)]) C dX0_allKnots_19 rfl hN (by decide) rfl rfl ?_
      refine pw_iinc (lv2 := [some (.ref (w.2.1 b)), some (.int (u1 + v1)), some (.int (u2 + 1))]) C dX0_allKnots_20 rfl rfl hN (by decide) rfl rfl ?_
      refine pw_goto (tgt := 4) C dX0_allKnots_23 (by decide) ?_
      exact ih (u1 + v1) (u2 + 1)
    · refine pw_iload_n C dX0_allKnots_26 rfl rfl ?_
      exact pm_iret C hR dX0_allKnots_27
set_option maxRecDepth 100000 in
set_option maxHeartbeats 4000000 in
theorem c_X0_allKnots {l : Launch} {w : Wd} {A : Nat → Prop} {b : Nat} (N : Nat) (h : Hp) (r : Nat) (hb : w.2.2.1[b]? = some (0, 0, [r + 2])) (hr : w.2.2.1[r]? = some (1, 179, [])) : ConI l yX0_allKnots cX0_allKnots 3 .int 3 w A [.ref (w.2.1 b)] h (Option.map (fun v => (v, h)) (fX0_allKnots N h r)) := by
  refine ConI.of (lv0 := [some (.ref (w.2.1 b)), none, none]) (by decide +kernel) (Nat.le_of_ble_eq_true rfl) rfl (fun x C hR hN => ?_)
  unfold fX0_allKnots
  refine pw_iconst (v := 0) C dX0_allKnots_0 (by decide) ?_
  refine pw_istore_n (lv2 := [some (.ref (w.2.1 b)), some (.int 0), none]) C dX0_allKnots_1 rfl hN (by decide) rfl rfl ?_
  refine pw_iconst (v := 0) C dX0_allKnots_2 (by decide) ?_
  refine pw_istore_n (lv2 := [some (.ref (w.2.1 b)), some (.int 0), some (.int 0)]) C dX0_allKnots_3 rfl hN (by decide) rfl rfl ?_
  exact kX0_allKnots_L4 C hR hN N h r hb hr N 0 0
set_option maxRecDepth 100000 in
set_option maxHeartbeats 4000000 in
theorem c_X1_takes {l : Launch} {w : Wd} {A : Nat → Prop} (N : Nat) (h : Hp) (a1 : Int32) (hL : LX w) : ConI l yX1_takes cX1_takes 2 .boolean 4 w A [.ref (w.2.1 2), .int a1] h ((fX1_takes N h a1)) := by
  refine ConI.of (lv0 := [some (.ref (w.2.1 2)), some (.int a1)]) (by decide +kernel) (Nat.le_of_ble_eq_true rfl) rfl (fun x C hR hN => ?_)
  unfold fX1_takes
  refine pw_aload_n C dX1_takes_0 rfl rfl ?_
  refine pw_geti C (hL 2 _ rfl) rfl (k := 2) (by decide) rfl fl_X1_25 dX1_takes_1 ?_
  refine pw_ite (fun e4_0 => ?_) (fun e4_0 => ?_)
  · refine pw_tsIn (tgt := 44) (off := 40) C dX1_takes_4 (by rw [e4_0]; decide) (by rw [e4_0]; decide) (by rw [e4_0]; decide) (by decide) ?_
    refine pw_iload_n C dX1_takes_44 rfl rfl ?_
    refine pw_bipush (v := 91) C dX1_takes_45 (by decide) ?_
    refine pw_icmp_ne (tgt := 61) C dX1_takes_47 (by decide) (fun c10 => ?_) (fun c10 => ?_)
    · refine pw_aload_n C dX1_takes_50 rfl rfl ?_
      refine pw_callViq (as := []) (rest := []) C dX1_takes_51 ml_X1_40 cw_X1_opensGroup im_X1_opensGroup sl_X1_opensGroup (hL 2 _ rfl) rfl ⟨by decide, by decide⟩ (c_X1_opensGroup h hL) rfl rfl (Nat.le_of_ble_eq_true rfl) (fun z9 => ?_)
      refine pw_if_eq (tgt := 61) C dX1_takes_54 (by decide) (fun c11 => ?_) (fun c11 => ?_)
      · refine pw_iconst (v := 0) C dX1_takes_61 (by decide) ?_
        exact pw_zret' C hR dX1_takes_62 (by decide)
      · refine pw_iconst (v := 1) C dX1_takes_57 (by decide) ?_
        refine pw_goto (tgt := 62) C dX1_takes_58 (by decide) ?_
        exact pw_zret' C hR dX1_takes_62 (by decide)
    · refine pw_iconst (v := 0) C dX1_takes_61 (by decide) ?_
      exact pw_zret' C hR dX1_takes_62 (by decide)
  · refine pw_ite (fun e4_1 => ?_) (fun e4_1 => ?_)
    · refine pw_tsIn (tgt := 63) (off := 59) C dX1_takes_4 (by rw [e4_1]; decide) (by rw [e4_1]; decide) (by rw [e4_1]; decide) (by decide) ?_
      refine pw_aload_n C dX1_takes_63 rfl rfl ?_
      refine pw_iload_n C dX1_takes_64 rfl rfl ?_
      refine pw_callViq (as := [.int a1]) (rest := []) C dX1_takes_65 ml_X1_44 cw_X1_opensCord im_X1_opensCord sl_X1_opensCord (hL 2 _ rfl) rfl ⟨by decide, by decide⟩ (c_X1_opensCord h a1 hL) rfl rfl (Nat.le_of_ble_eq_true rfl) (fun z8 => ?_)
      exact pw_zret C hR dX1_takes_68
    · refine pw_ite (fun e4_2 => ?_) (fun e4_2 => ?_)
      · refine pw_tsIn (tgt := 69) (off := 65) C dX1_takes_4 (by rw [e4_2]; decide) (by rw [e4_2]; decide) (by rw [e4_2]; decide) (by decide) ?_
        refine pw_aload_n C dX1_takes_69 rfl rfl ?_
        refine pw_iload_n C dX1_takes_70 rfl rfl ?_
        refine pw_callViq (as := [.int a1]) (rest := []) C dX1_takes_71 ml_X1_47 cw_X1_opensCluster im_X1_opensCluster sl_X1_opensCluster (hL 2 _ rfl) rfl ⟨by decide, by decide⟩ (c_X1_opensCluster N h a1 hL) rfl rfl (Nat.le_of_ble_eq_true rfl) (fun z7 => ?_)
        exact pw_zret C hR dX1_takes_74
      · refine pw_ite (fun e4_3 => ?_) (fun e4_3 => ?_)
        · refine pw_tsIn (tgt := 75) (off := 71) C dX1_takes_4 (by rw [e4_3]; decide) (by rw [e4_3]; decide) (by rw [e4_3]; decide) (by decide) ?_
          refine pw_aload_n C dX1_takes_75 rfl rfl ?_
          refine pw_iconst (v := 1) C dX1_takes_76 (by decide) ?_
          refine pw_iload_n C dX1_takes_77 rfl rfl ?_
          refine pw_bipush (v := 48) C dX1_takes_78 (by decide) ?_
          refine pw_isub C dX1_takes_80 ?_
          refine pw_callViq (as := [.int 1, .int (a1 - 48)]) (rest := []) C dX1_takes_81 ml_X1_50 cw_X1_endsCluster im_X1_endsCluster sl_X1_endsCluster (hL 2 _ rfl) rfl ⟨by decide, by decide⟩ (c_X1_endsCluster N h 1 (a1 - 48) hL) rfl rfl (Nat.le_of_ble_eq_true rfl) (fun z6 => ?_)
          exact pw_zret C hR dX1_takes_84
        · refine pw_ite (fun e4_4 => ?_) (fun e4_4 => ?_)
          · refine pw_tsIn (tgt := 85) (off := 81) C dX1_takes_4 (by rw [e4_4]; decide) (by rw [e4_4]; decide) (by rw [e4_4]; decide) (by decide) ?_
            refine pw_aload_n C dX1_takes_85 rfl rfl ?_
            refine pw_iconst (v := 2) C dX1_takes_86 (by decide) ?_
            refine pw_iload_n C dX1_takes_87 rfl rfl ?_
            refine pw_bipush (v := 48) C dX1_takes_88 (by decide) ?_
            refine pw_isub C dX1_takes_90 ?_
            refine pw_callViq (as := [.int 2, .int (a1 - 48)]) (rest := []) C dX1_takes_91 ml_X1_50 cw_X1_endsCluster im_X1_endsCluster sl_X1_endsCluster (hL 2 _ rfl) rfl ⟨by decide, by decide⟩ (c_X1_endsCluster N h 2 (a1 - 48) hL) rfl rfl (Nat.le_of_ble_eq_true rfl) (fun z5 => ?_)
            exact pw_zret C hR dX1_takes_94
          · refine pw_ite (fun e4_5 => ?_) (fun e4_5 => ?_)
            · refine pw_tsIn (tgt := 95) (off := 91) C dX1_takes_4 (by rw [e4_5]; decide) (by rw [e4_5]; decide) (by rw [e4_5]; decide) (by decide) ?_
              refine pw_aload_n C dX1_takes_95 rfl rfl ?_
              refine pw_iload_n C dX1_takes_96 rfl rfl ?_
              refine pw_callViq (as := [.int a1]) (rest := []) C dX1_takes_97 ml_X1_47 cw_X1_opensCluster im_X1_opensCluster sl_X1_opensCluster (hL 2 _ rfl) rfl ⟨by decide, by decide⟩ (c_X1_opensCluster N h a1 hL) rfl rfl (Nat.le_of_ble_eq_true rfl) (fun z2 => ?_)
              refine pw_if_ne (tgt := 119) C dX1_takes_100 (by decide) (fun c12 => ?_) (fun c12 => ?_)
              · refine pw_aload_n C dX1_takes_103 rfl rfl ?_
                refine pw_iload_n C dX1_takes_104 rfl rfl ?_
                refine pw_callViq (as := [.int a1]) (rest := []) C dX1_takes_105 ml_X1_54 cw_X1_opensHanging im_X1_opensHanging sl_X1_opensHanging (hL 2 _ rfl) rfl ⟨by decide, by decide⟩ (c_X1_opensHanging z2.2 a1 hL) rfl rfl (Nat.le_of_ble_eq_true rfl) (fun z3 => ?_)
                refine pw_if_ne (tgt := 119) C dX1_takes_108 (by decide) (fun c13 => ?_) (fun c13 => ?_)
                · refine pw_aload_n C dX1_takes_111 rfl rfl ?_
                  refine pw_iload_n C dX1_takes_112 rfl rfl ?_
                  refine pw_callViq (as := [.int a1]) (rest := []) C dX1_takes_113 ml_X1_57 cw_X1_comesBehindCord im_X1_comesBehindCord sl_X1_comesBehindCord (hL 2 _ rfl) rfl ⟨by decide, by decide⟩ (c_X1_comesBehindCord z3.2 a1 hL) rfl rfl (Nat.le_of_ble_eq_true rfl) (fun z4 => ?_)
                  refine pw_if_eq (tgt := 123) C dX1_takes_116 (by decide) (fun c14 => ?_) (fun c14 => ?_)
                  · refine pw_iconst (v := 0) C dX1_takes_123 (by decide) ?_
                    exact pw_zret' C hR dX1_takes_124 (by decide)
                  · refine pw_iconst (v := 1) C dX1_takes_119 (by decide) ?_
                    refine pw_goto (tgt := 124) C dX1_takes_120 (by decide) ?_
                    exact pw_zret' C hR dX1_takes_124 (by decide)
                · refine pw_iconst (v := 1) C dX1_takes_119 (by decide) ?_
                  refine pw_goto (tgt := 124) C dX1_takes_120 (by decide) ?_
                  exact pw_zret' C hR dX1_takes_124 (by decide)
              · refine pw_iconst (v := 1) C dX1_takes_119 (by decide) ?_
                refine pw_goto (tgt := 124) C dX1_takes_120 (by decide) ?_
                exact pw_zret' C hR dX1_takes_124 (by decide)
            · refine pw_tsOut (tgt := 125) C dX1_takes_4 (by have := i_neN (z := 0) (by decide) e4_0; have := i_neN (z := 1) (by decide) e4_1; have := i_neN (z := 2) (by decide) e4_2; have := i_neN (z := 3) (by decide) e4_3; have := i_neN (z := 4) (by decide) e4_4; have := i_neN (z := 5) (by decide) e4_5; omega) (by decide) ?_
              refine pw_aload_n C dX1_takes_125 rfl rfl ?_
              refine pw_iload_n C dX1_takes_126 rfl rfl ?_
              refine pw_callViq (as := [.int a1]) (rest := []) C dX1_takes_127 ml_X1_57 cw_X1_comesBehindCord im_X1_comesBehindCord sl_X1_comesBehindCord (hL 2 _ rfl) rfl ⟨by decide, by decide⟩ (c_X1_comesBehindCord h a1 hL) rfl rfl (Nat.le_of_ble_eq_true rfl) (fun z1 => ?_)
              exact pw_zret C hR dX1_takes_130
set_option maxRecDepth 100000 in
set_option maxHeartbeats 4000000 in
theorem c_X4_cord {l : Launch} {w : Wd} {A : Nat → Prop} (N : Nat) (h : Hp) (a1 : Int32) (a2 : Int32) (hL : LX w) : ConI l yX4_cord cX4_cord 3 .int 4 w A [.ref (w.2.1 0), .int a1, .int a2] h (Option.map (fun v => (v, h)) (fX4_cord N h a1 a2)) := by
  refine ConI.of (lv0 := [some (.ref (w.2.1 0)), some (.int a1), some (.int a2)]) (by decide +kernel) (Nat.le_of_ble_eq_true rfl) rfl (fun x C hR hN => ?_)
  unfold fX4_cord
  refine pw_aload_n C dX4_cord_0 rfl rfl ?_
  refine pw_getr (q2 := 6) C (hL 0 _ rfl) rfl (k := 3) (by decide) rfl fl_X4_23 dX4_cord_1 ?_
  refine pw_iload_n C dX4_cord_4 rfl rfl ?_
  refine pw_callVt (as := [.int a1]) (rest := []) C dX4_cord_5 ml_X4_94 cw_X0_hasCord im_X0_hasCord sl_X0_hasCord (hL 6 _ rfl) rfl ⟨by decide, by decide⟩ (c_X0_hasCord h 7 a1 (hL 6 _ rfl) (hL 7 _ rfl)) rfl rfl (Nat.le_of_ble_eq_true rfl) ?_
  refine pm_if_ne (tgt := 13) C dX4_cord_8 (by decide) (fun c6 => ?_) (fun c6 => ?_)
  · refine pw_iconst (v := (-1)) C dX4_cord_11 (by decide) ?_
    exact pm_iret C hR dX4_cord_12
  · refine pw_iload_n C dX4_cord_13 rfl rfl ?_
    refine pm_ite (fun e14_0 => ?_) (fun e14_0 => ?_)
    · refine pw_tsIn (tgt := 72) (off := 58) C dX4_cord_14 (by rw [e14_0]; decide) (by rw [e14_0]; decide) (by rw [e14_0]; decide) (by decide) ?_
      refine pw_aload_n C dX4_cord_72 rfl rfl ?_
      refine pw_getr (q2 := 6) C (hL 0 _ rfl) rfl (k := 3) (by decide) rfl fl_X4_23 dX4_cord_73 ?_
      refine pw_iload_n C dX4_cord_76 rfl rfl ?_
      refine pw_callVt (as := [.int a1]) (rest := []) C dX4_cord_77 ml_X4_98 cw_X0_colourOf im_X0_colourOf sl_X0_colourOf (hL 6 _ rfl) rfl ⟨by decide, by decide⟩ (c_X0_colourOf h 7 a1 (hL 6 _ rfl) (hL 7 _ rfl)) rfl rfl (Nat.le_of_ble_eq_true rfl) ?_
      exact pm_iret C hR dX4_cord_80
    · refine pm_ite (fun e14_1 => ?_) (fun e14_1 => ?_)
      · refine pw_tsIn (tgt := 81) (off := 67) C dX4_cord_14 (by rw [e14_1]; decide) (by rw [e14_1]; decide) (by rw [e14_1]; decide) (by decide) ?_
        refine pw_aload_n C dX4_cord_81 rfl rfl ?_
        refine pw_getr (q2 := 6) C (hL 0 _ rfl) rfl (k := 3) (by decide) rfl fl_X4_23 dX4_cord_82 ?_
        refine pw_iload_n C dX4_cord_85 rfl rfl ?_
        refine pw_callVt (as := [.int a1]) (rest := []) C dX4_cord_86 ml_X4_102 cw_X0_sizeOf im_X0_sizeOf sl_X0_sizeOf (hL 6 _ rfl) rfl ⟨by decide, by decide⟩ (c_X0_sizeOf h 7 a1 (hL 6 _ rfl) (hL 7 _ rfl)) rfl rfl (Nat.le_of_ble_eq_true rfl) ?_
        exact pm_iret C hR dX4_cord_89
      · refine pm_ite (fun e14_2 => ?_) (fun e14_2 => ?_)
        · refine pw_tsIn (tgt := 90) (off := 76) C dX4_cord_14 (by rw [e14_2]; decide) (by rw [e14_2]; decide) (by rw [e14_2]; decide) (by decide) ?_
          refine pw_aload_n C dX4_cord_90 rfl rfl ?_
          refine pw_getr (q2 := 6) C (hL 0 _ rfl) rfl (k := 3) (by decide) rfl fl_X4_23 dX4_cord_91 ?_
          refine pw_iload_n C dX4_cord_94 rfl rfl ?_
          refine pw_callVt (as := [.int a1]) (rest := []) C dX4_cord_95 ml_X4_105 cw_X0_holderOf im_X0_holderOf sl_X0_holderOf (hL 6 _ rfl) rfl ⟨by decide, by decide⟩ (c_X0_holderOf h 7 a1 (hL 6 _ rfl) (hL 7 _ rfl)) rfl rfl (Nat.le_of_ble_eq_true rfl) ?_
          exact pm_iret C hR dX4_cord_98
        · refine pm_ite (fun e14_3 => ?_) (fun e14_3 => ?_)
          · refine pw_tsIn (tgt := 99) (off := 85) C dX4_cord_14 (by rw [e14_3]; decide) (by rw [e14_3]; decide) (by rw [e14_3]; decide) (by decide) ?_
            refine pw_aload_n C dX4_cord_99 rfl rfl ?_
            refine pw_getr (q2 := 6) C (hL 0 _ rfl) rfl (k := 3) (by decide) rfl fl_X4_23 dX4_cord_100 ?_
            refine pw_iload_n C dX4_cord_103 rfl rfl ?_
            refine pw_callVt (as := [.int a1]) (rest := []) C dX4_cord_104 ml_X4_108 cw_X0_groupOf im_X0_groupOf sl_X0_groupOf (hL 6 _ rfl) rfl ⟨by decide, by decide⟩ (c_X0_groupOf h 7 a1 (hL 6 _ rfl) (hL 7 _ rfl)) rfl rfl (Nat.le_of_ble_eq_true rfl) ?_
            exact pm_iret C hR dX4_cord_107
          · refine pm_ite (fun e14_4 => ?_) (fun e14_4 => ?_)
            · refine pw_tsIn (tgt := 108) (off := 94) C dX4_cord_14 (by rw [e14_4]; decide) (by rw [e14_4]; decide) (by rw [e14_4]; decide) (by decide) ?_
              refine pw_aload_n C dX4_cord_108 rfl rfl ?_
              refine pw_getr (q2 := 6) C (hL 0 _ rfl) rfl (k := 3) (by decide) rfl fl_X4_23 dX4_cord_109 ?_
              refine pw_iload_n C dX4_cord_112 rfl rfl ?_
              refine pw_callVt (as := [.int a1]) (rest := []) C dX4_cord_113 ml_X4_111 cw_X0_depthOf im_X0_depthOf sl_X0_depthOf (hL 6 _ rfl) rfl ⟨by decide, by decide⟩ (c_X0_depthOf h 7 a1 (hL 6 _ rfl) (hL 7 _ rfl)) rfl rfl (Nat.le_of_ble_eq_true rfl) ?_
              exact pm_iret C hR dX4_cord_116
            · refine pm_ite (fun e14_5 => ?_) (fun e14_5 => ?_)
              · refine pw_tsIn (tgt := 117) (off := 103) C dX4_cord_14 (by rw [e14_5]; decide) (by rw [e14_5]; decide) (by rw [e14_5]; decide) (by decide) ?_
                refine pw_aload_n C dX4_cord_117 rfl rfl ?_
                refine pw_getr (q2 := 6) C (hL 0 _ rfl) rfl (k := 3) (by decide) rfl fl_X4_23 dX4_cord_118 ?_
                refine pw_iload_n C dX4_cord_121 rfl rfl ?_
                refine pm_callVp (as := [.int a1]) (rest := []) C dX4_cord_122 ml_X4_114 cw_X0_hangingFrom im_X0_hangingFrom sl_X0_hangingFrom (hL 6 _ rfl) rfl ⟨by decide, by decide⟩ (c_X0_hangingFrom N h 7 a1 (hL 6 _ rfl) (hL 7 _ rfl)) rfl rfl (Nat.le_of_ble_eq_true rfl) (fun v5 => ?_)
                exact pm_iret C hR dX4_cord_125
              · refine pm_ite (fun e14_6 => ?_) (fun e14_6 => ?_)
                · refine pw_tsIn (tgt := 126) (off := 112) C dX4_cord_14 (by rw [e14_6]; decide) (by rw [e14_6]; decide) (by rw [e14_6]; decide) (by decide) ?_
                  refine pw_aload_n C dX4_cord_126 rfl rfl ?_
                  refine pw_getr (q2 := 6) C (hL 0 _ rfl) rfl (k := 3) (by decide) rfl fl_X4_23 dX4_cord_127 ?_
                  refine pw_iload_n C dX4_cord_130 rfl rfl ?_
                  refine pw_callVt (as := [.int a1]) (rest := []) C dX4_cord_131 ml_X4_117 cw_X0_isTop im_X0_isTop sl_X0_isTop (hL 6 _ rfl) rfl ⟨by decide, by decide⟩ (c_X0_isTop h 7 a1 (hL 6 _ rfl) (hL 7 _ rfl)) rfl rfl (Nat.le_of_ble_eq_true rfl) ?_
                  refine pm_if_eq (tgt := 141) C dX4_cord_134 (by decide) (fun c7 => ?_) (fun c7 => ?_)
                  · refine pw_iconst (v := 0) C dX4_cord_141 (by decide) ?_
                    exact pm_iret C hR dX4_cord_142
                  · refine pw_iconst (v := 1) C dX4_cord_137 (by decide) ?_
                    refine pw_goto (tgt := 142) C dX4_cord_138 (by decide) ?_
                    exact pm_iret C hR dX4_cord_142
                · refine pm_ite (fun e14_7 => ?_) (fun e14_7 => ?_)
                  · refine pw_tsIn (tgt := 143) (off := 129) C dX4_cord_14 (by rw [e14_7]; decide) (by rw [e14_7]; decide) (by rw [e14_7]; decide) (by decide) ?_
                    refine pw_aload_n C dX4_cord_143 rfl rfl ?_
                    refine pw_getr (q2 := 6) C (hL 0 _ rfl) rfl (k := 3) (by decide) rfl fl_X4_23 dX4_cord_144 ?_
                    refine pw_iload_n C dX4_cord_147 rfl rfl ?_
                    refine pm_callVp (as := [.int a1]) (rest := []) C dX4_cord_148 ml_X4_120 cw_X0_valueOf im_X0_valueOf sl_X0_valueOf (hL 6 _ rfl) rfl ⟨by decide, by decide⟩ (c_X0_valueOf N h 7 a1 (hL 6 _ rfl) (hL 7 _ rfl)) rfl rfl (Nat.le_of_ble_eq_true rfl) (fun v4 => ?_)
                    exact pm_iret C hR dX4_cord_151
                  · refine pm_ite (fun e14_8 => ?_) (fun e14_8 => ?_)
                    · refine pw_tsIn (tgt := 152) (off := 138) C dX4_cord_14 (by rw [e14_8]; decide) (by rw [e14_8]; decide) (by rw [e14_8]; decide) (by decide) ?_
                      refine pw_aload_n C dX4_cord_152 rfl rfl ?_
                      refine pw_getr (q2 := 6) C (hL 0 _ rfl) rfl (k := 3) (by decide) rfl fl_X4_23 dX4_cord_153 ?_
                      refine pw_iload_n C dX4_cord_156 rfl rfl ?_
                      refine pm_callVp (as := [.int a1]) (rest := []) C dX4_cord_157 ml_X4_123 cw_X0_wholeOf im_X0_wholeOf sl_X0_wholeOf (hL 6 _ rfl) rfl ⟨by decide, by decide⟩ (c_X0_wholeOf N h 7 a1 (hL 6 _ rfl) (hL 7 _ rfl)) rfl rfl (Nat.le_of_ble_eq_true rfl) (fun v3 => ?_)
                      exact pm_iret C hR dX4_cord_160
                    · refine pm_ite (fun e14_9 => ?_) (fun e14_9 => ?_)
                      · refine pw_tsIn (tgt := 161) (off := 147) C dX4_cord_14 (by rw [e14_9]; decide) (by rw [e14_9]; decide) (by rw [e14_9]; decide) (by decide) ?_
                        refine pw_aload_n C dX4_cord_161 rfl rfl ?_
                        refine pw_getr (q2 := 6) C (hL 0 _ rfl) rfl (k := 3) (by decide) rfl fl_X4_23 dX4_cord_162 ?_
                        refine pw_iload_n C dX4_cord_165 rfl rfl ?_
                        refine pm_callVp (as := [.int a1]) (rest := []) C dX4_cord_166 ml_X4_126 cw_X0_valueFromOtherEnd im_X0_valueFromOtherEnd sl_X0_valueFromOtherEnd (hL 6 _ rfl) rfl ⟨by decide, by decide⟩ (c_X0_valueFromOtherEnd N h 7 a1 (hL 6 _ rfl) (hL 7 _ rfl)) rfl rfl (Nat.le_of_ble_eq_true rfl) (fun v2 => ?_)
                        exact pm_iret C hR dX4_cord_169
                      · refine pm_ite (fun e14_10 => ?_) (fun e14_10 => ?_)
                        · refine pw_tsIn (tgt := 170) (off := 156) C dX4_cord_14 (by rw [e14_10]; decide) (by rw [e14_10]; decide) (by rw [e14_10]; decide) (by decide) ?_
                          refine pw_aload_n C dX4_cord_170 rfl rfl ?_
                          refine pw_getr (q2 := 6) C (hL 0 _ rfl) rfl (k := 3) (by decide) rfl fl_X4_23 dX4_cord_171 ?_
                          refine pw_iload_n C dX4_cord_174 rfl rfl ?_
                          refine pm_callVp (as := [.int a1]) (rest := []) C dX4_cord_175 ml_X4_129 cw_X0_knotsOf im_X0_knotsOf sl_X0_knotsOf (hL 6 _ rfl) rfl ⟨by decide, by decide⟩ (c_X0_knotsOf N h 7 a1 (hL 6 _ rfl) (hL 7 _ rfl)) rfl rfl (Nat.le_of_ble_eq_true rfl) (fun v1 => ?_)
                          exact pm_iret C hR dX4_cord_178
                        · refine pw_tsOut (tgt := 179) C dX4_cord_14 (by have := i_neN (z := 0) (by decide) e14_0; have := i_neN (z := 1) (by decide) e14_1; have := i_neN (z := 2) (by decide) e14_2; have := i_neN (z := 3) (by decide) e14_3; have := i_neN (z := 4) (by decide) e14_4; have := i_neN (z := 5) (by decide) e14_5; have := i_neN (z := 6) (by decide) e14_6; have := i_neN (z := 7) (by decide) e14_7; have := i_neN (z := 8) (by decide) e14_8; have := i_neN (z := 9) (by decide) e14_9; have := i_neN (z := 10) (by decide) e14_10; omega) (by decide) ?_
                          refine pw_iconst (v := (-1)) C dX4_cord_179 (by decide) ?_
                          exact pm_iret C hR dX4_cord_180
set_option maxRecDepth 100000 in
set_option maxHeartbeats 4000000 in
theorem c_X4_cluster {l : Launch} {w : Wd} {A : Nat → Prop} (h : Hp) (a1 : Int32) (a2 : Int32) (hL : LX w) : ConI l yX4_cluster cX4_cluster 3 .int 4 w A [.ref (w.2.1 0), .int a1, .int a2] h (some ((fX4_cluster h a1 a2), h)) := by
  refine ConI.of (lv0 := [some (.ref (w.2.1 0)), some (.int a1), some (.int a2)]) (by decide +kernel) (Nat.le_of_ble_eq_true rfl) rfl (fun x C hR hN => ?_)
  unfold fX4_cluster
  refine pw_aload_n C dX4_cluster_0 rfl rfl ?_
  refine pw_getr (q2 := 6) C (hL 0 _ rfl) rfl (k := 3) (by decide) rfl fl_X4_23 dX4_cluster_1 ?_
  refine pw_iload_n C dX4_cluster_4 rfl rfl ?_
  refine pw_iload_n C dX4_cluster_5 rfl rfl ?_
  refine pw_callVt (as := [.int a1, .int a2]) (rest := []) C dX4_cluster_6 ml_X4_132 cw_X0_hasCluster im_X0_hasCluster sl_X0_hasCluster (hL 6 _ rfl) rfl ⟨by decide, by decide⟩ (c_X0_hasCluster h 7 a1 a2 (hL 6 _ rfl) (hL 7 _ rfl)) rfl rfl (Nat.le_of_ble_eq_true rfl) ?_
  refine pt_if_eq (tgt := 24) C dX4_cluster_9 (by decide) (fun c1 => ?_) (fun c1 => ?_)
  · refine pw_iconst (v := (-1)) C dX4_cluster_24 (by decide) ?_
    exact pt_iret C hR dX4_cluster_25
  · refine pw_aload_n C dX4_cluster_12 rfl rfl ?_
    refine pw_getr (q2 := 6) C (hL 0 _ rfl) rfl (k := 3) (by decide) rfl fl_X4_23 dX4_cluster_13 ?_
    refine pw_iload_n C dX4_cluster_16 rfl rfl ?_
    refine pw_iload_n C dX4_cluster_17 rfl rfl ?_
    refine pw_callVt (as := [.int a1, .int a2]) (rest := []) C dX4_cluster_18 ml_X4_136 cw_X0_codeOf im_X0_codeOf sl_X0_codeOf (hL 6 _ rfl) rfl ⟨by decide, by decide⟩ (c_X0_codeOf h 7 a1 a2 (hL 6 _ rfl) (hL 7 _ rfl)) rfl rfl (Nat.le_of_ble_eq_true rfl) ?_
    refine pw_goto (tgt := 25) C dX4_cluster_21 (by decide) ?_
    exact pt_iret C hR dX4_cluster_25
set_option maxRecDepth 100000 in
set_option maxHeartbeats 4000000 in
theorem c_X4_knot {l : Launch} {w : Wd} {A : Nat → Prop} (N : Nat) (h : Hp) (a1 : Int32) (a2 : Int32) (a3 : Int32) (a4 : Int32) (hL : LX w) : ConI l yX4_knot cX4_knot 5 .int 4 w A [.ref (w.2.1 0), .int a1, .int a2, .int a3, .int a4] h ((fX4_knot N h a1 a2 a3 a4)) := by
  refine ConI.of (lv0 := [some (.ref (w.2.1 0)), some (.int a1), some (.int a2), some (.int a3), some (.int a4)]) (by decide +kernel) (Nat.le_of_ble_eq_true rfl) rfl (fun x C hR hN => ?_)
  unfold fX4_knot
  refine pw_aload_n C dX4_knot_0 rfl rfl ?_
  refine pw_getr (q2 := 6) C (hL 0 _ rfl) rfl (k := 3) (by decide) rfl fl_X4_23 dX4_knot_1 ?_
  refine pw_iload_n C dX4_knot_4 rfl rfl ?_
  refine pw_iload_n C dX4_knot_5 rfl rfl ?_
  refine pw_callVt (as := [.int a1, .int a2]) (rest := []) C dX4_knot_6 ml_X4_132 cw_X0_hasCluster im_X0_hasCluster sl_X0_hasCluster (hL 6 _ rfl) rfl ⟨by decide, by decide⟩ (c_X0_hasCluster h 7 a1 a2 (hL 6 _ rfl) (hL 7 _ rfl)) rfl rfl (Nat.le_of_ble_eq_true rfl) ?_
  refine pw_if_eq (tgt := 21) C dX4_knot_9 (by decide) (fun c4 => ?_) (fun c4 => ?_)
  · refine pw_iconst (v := (-1)) C dX4_knot_21 (by decide) ?_
    exact pw_iret C hR dX4_knot_22
  · refine pw_iload_n C dX4_knot_12 rfl rfl ?_
    refine pw_iload C dX4_knot_13 rfl ?_
    refine pw_callSt (as := [.int a3, .int a4]) (rest := []) C dX4_knot_15 ml_X4_174 cw_X4_canCount st_X4_canCount ⟨by decide, by decide⟩ (c_X4_canCount h a3 a4) rfl rfl (Nat.le_of_ble_eq_true rfl) ?_
    refine pw_if_ne (tgt := 23) C dX4_knot_18 (by decide) (fun c5 => ?_) (fun c5 => ?_)
    · refine pw_iconst (v := (-1)) C dX4_knot_21 (by decide) ?_
      exact pw_iret C hR dX4_knot_22
    · refine pw_aload_n C dX4_knot_23 rfl rfl ?_
      refine pw_getr (q2 := 8) C (hL 0 _ rfl) rfl (k := 4) (by decide) rfl fl_X4_32 dX4_knot_24 ?_
      refine pw_aload_n C dX4_knot_27 rfl rfl ?_
      refine pw_getr (q2 := 6) C (hL 0 _ rfl) rfl (k := 3) (by decide) rfl fl_X4_23 dX4_knot_28 ?_
      refine pw_getrN (q2 := 7) C (hL 6 _ rfl) rfl (k := 0) (by decide) rfl "ToldInKnots" (by decide +kernel) dX4_knot_31 ?_
      refine pw_callVvq (as := [.ref (w.2.1 7)]) (rest := []) C dX4_knot_34 ml_X4_167 cw_X3_add im_X3_add sl_X3_add (hL 8 _ rfl) rfl ⟨by decide, by decide⟩ (c_X3_add N h 8 9 1432 7 179 (hL 8 _ rfl) (hL 9 _ rfl) (hL 7 _ rfl)) rfl rfl (Nat.le_of_ble_eq_true rfl) (fun z1 => ?_)
      refine pw_aload_n C dX4_knot_37 rfl rfl ?_
      refine pw_getr (q2 := 6) C (hL 0 _ rfl) rfl (k := 3) (by decide) rfl fl_X4_23 dX4_knot_38 ?_
      refine pw_iload_n C dX4_knot_41 rfl rfl ?_
      refine pw_iload_n C dX4_knot_42 rfl rfl ?_
      refine pw_bipush (v := 10) C dX4_knot_43 (by decide) ?_
      refine pw_iload_n C dX4_knot_45 rfl rfl ?_
      refine pw_imul C dX4_knot_46 ?_
      refine pw_iload C dX4_knot_47 rfl ?_
      refine pw_iadd C dX4_knot_49 ?_
      refine pw_callVvq (as := [.int a1, .int a2, .int ((10 * a3) + a4)]) (rest := []) C dX4_knot_50 ml_X4_177 cw_X0_setCode im_X0_setCode sl_X0_setCode (hL 6 _ rfl) rfl ⟨by decide, by decide⟩ (c_X0_setCode z1.2 7 a1 a2 ((10 * a3) + a4) (hL 6 _ rfl) (hL 7 _ rfl)) rfl rfl (Nat.le_of_ble_eq_true rfl) (fun z2 => ?_)
      refine pw_aload_n C dX4_knot_53 rfl rfl ?_
      refine pw_getr (q2 := 6) C (hL 0 _ rfl) rfl (k := 3) (by decide) rfl fl_X4_23 dX4_knot_54 ?_
      refine pw_iload_n C dX4_knot_57 rfl rfl ?_
      refine pw_callVp (as := [.int a1]) (rest := []) C dX4_knot_58 ml_X4_129 cw_X0_knotsOf im_X0_knotsOf sl_X0_knotsOf (hL 6 _ rfl) rfl ⟨by decide, by decide⟩ (c_X0_knotsOf N z2.2 7 a1 (hL 6 _ rfl) (hL 7 _ rfl)) rfl rfl (Nat.le_of_ble_eq_true rfl) (fun v3 => ?_)
      exact pw_iret C hR dX4_knot_61
set_option maxRecDepth 100000 in
set_option maxHeartbeats 4000000 in
theorem c_X4_hang {l : Launch} {w : Wd} {A : Nat → Prop} (N : Nat) (h : Hp) (a1 : Int32) (a2 : Int32) (hL : LX w) : ConI l yX4_hang cX4_hang 4 .int 4 w A [.ref (w.2.1 0), .int a1, .int a2] h ((fX4_hang N h a1 a2)) := by
  refine ConI.of (lv0 := [some (.ref (w.2.1 0)), some (.int a1), some (.int a2), none]) (by decide +kernel) (Nat.le_of_ble_eq_true rfl) rfl (fun x C hR hN => ?_)
  unfold fX4_hang
  refine pw_aload_n C dX4_hang_0 rfl rfl ?_
  refine pw_getr (q2 := 6) C (hL 0 _ rfl) rfl (k := 3) (by decide) rfl fl_X4_23 dX4_hang_1 ?_
  refine pw_iload_n C dX4_hang_4 rfl rfl ?_
  refine pw_callVt (as := [.int a1]) (rest := []) C dX4_hang_5 ml_X4_94 cw_X0_hasCord im_X0_hasCord sl_X0_hasCord (hL 6 _ rfl) rfl ⟨by decide, by decide⟩ (c_X0_hasCord h 7 a1 (hL 6 _ rfl) (hL 7 _ rfl)) rfl rfl (Nat.le_of_ble_eq_true rfl) ?_
  refine pw_if_eq (tgt := 22) C dX4_hang_8 (by decide) (fun c5 => ?_) (fun c5 => ?_)
  · refine pw_iconst (v := (-1)) C dX4_hang_22 (by decide) ?_
    exact pw_iret C hR dX4_hang_23
  · refine pw_aload_n C dX4_hang_11 rfl rfl ?_
    refine pw_getr (q2 := 6) C (hL 0 _ rfl) rfl (k := 3) (by decide) rfl fl_X4_23 dX4_hang_12 ?_
    refine pw_iload_n C dX4_hang_15 rfl rfl ?_
    refine pw_callVt (as := [.int a2]) (rest := []) C dX4_hang_16 ml_X4_140 cw_X0_hasGroup im_X0_hasGroup sl_X0_hasGroup (hL 6 _ rfl) rfl ⟨by decide, by decide⟩ (c_X0_hasGroup h 7 a2 (hL 6 _ rfl) (hL 7 _ rfl)) rfl rfl (Nat.le_of_ble_eq_true rfl) ?_
    refine pw_if_ne (tgt := 24) C dX4_hang_19 (by decide) (fun c6 => ?_) (fun c6 => ?_)
    · refine pw_iconst (v := (-1)) C dX4_hang_22 (by decide) ?_
      exact pw_iret C hR dX4_hang_23
    · refine pw_aload_n C dX4_hang_24 rfl rfl ?_
      refine pw_getr (q2 := 6) C (hL 0 _ rfl) rfl (k := 3) (by decide) rfl fl_X4_23 dX4_hang_25 ?_
      refine pw_iload_n C dX4_hang_28 rfl rfl ?_
      refine pw_callVt (as := [.int a1]) (rest := []) C dX4_hang_29 ml_X4_108 cw_X0_groupOf im_X0_groupOf sl_X0_groupOf (hL 6 _ rfl) rfl ⟨by decide, by decide⟩ (c_X0_groupOf h 7 a1 (hL 6 _ rfl) (hL 7 _ rfl)) rfl rfl (Nat.le_of_ble_eq_true rfl) ?_
      refine pw_istore_n (lv2 := [some (.ref (w.2.1 0)), some (.int a1), some (.int a2), some (.int (fX0_groupOf h 7 a1))]) C dX4_hang_32 rfl hN (by decide) rfl rfl ?_
      refine pw_aload_n C dX4_hang_33 rfl rfl ?_
      refine pw_getr (q2 := 6) C (hL 0 _ rfl) rfl (k := 3) (by decide) rfl fl_X4_23 dX4_hang_34 ?_
      refine pw_iload_n C dX4_hang_37 rfl rfl ?_
      refine pw_callVt (as := [.int a1]) (rest := []) C dX4_hang_38 ml_X4_187 cw_X0_isPlainPendant im_X0_isPlainPendant sl_X0_isPlainPendant (hL 6 _ rfl) rfl ⟨by decide, by decide⟩ (c_X0_isPlainPendant h 7 a1 (hL 6 _ rfl) (hL 7 _ rfl)) rfl rfl (Nat.le_of_ble_eq_true rfl) ?_
      refine pw_if_eq (tgt := 61) C dX4_hang_41 (by decide) (fun c7 => ?_) (fun c7 => ?_)
      · refine pw_bipush (v := (-2)) C dX4_hang_61 (by decide) ?_
        exact pw_iret C hR dX4_hang_63
      · refine pw_iload_n C dX4_hang_44 rfl rfl ?_
        refine pw_iload_n C dX4_hang_45 rfl rfl ?_
        refine pw_icmp_eq (tgt := 61) C dX4_hang_46 (by decide) (fun c8 => ?_) (fun c8 => ?_)
        · refine pw_bipush (v := (-2)) C dX4_hang_61 (by decide) ?_
          exact pw_iret C hR dX4_hang_63
        · refine pw_aload_n C dX4_hang_49 rfl rfl ?_
          refine pw_getr (q2 := 6) C (hL 0 _ rfl) rfl (k := 3) (by decide) rfl fl_X4_23 dX4_hang_50 ?_
          refine pw_iload_n C dX4_hang_53 rfl rfl ?_
          refine pw_callVp (as := [.int (fX0_groupOf h 7 a1)]) (rest := []) C dX4_hang_54 ml_X4_143 cw_X0_pendantsIn im_X0_pendantsIn sl_X0_pendantsIn (hL 6 _ rfl) rfl ⟨by decide, by decide⟩ (c_X0_pendantsIn N h 7 (fX0_groupOf h 7 a1) (hL 6 _ rfl) (hL 7 _ rfl)) rfl rfl (Nat.le_of_ble_eq_true rfl) (fun v1 => ?_)
          refine pw_iconst (v := 1) C dX4_hang_57 (by decide) ?_
          refine pw_icmp_gt (tgt := 64) C dX4_hang_58 (by decide) (fun c9 => ?_) (fun c9 => ?_)
          · refine pw_aload_n C dX4_hang_64 rfl rfl ?_
            refine pw_getr (q2 := 8) C (hL 0 _ rfl) rfl (k := 4) (by decide) rfl fl_X4_32 dX4_hang_65 ?_
            refine pw_aload_n C dX4_hang_68 rfl rfl ?_
            refine pw_getr (q2 := 6) C (hL 0 _ rfl) rfl (k := 3) (by decide) rfl fl_X4_23 dX4_hang_69 ?_
            refine pw_getrN (q2 := 7) C (hL 6 _ rfl) rfl (k := 0) (by decide) rfl "ToldInKnots" (by decide +kernel) dX4_hang_72 ?_
            refine pw_callVvq (as := [.ref (w.2.1 7)]) (rest := []) C dX4_hang_75 ml_X4_167 cw_X3_add im_X3_add sl_X3_add (hL 8 _ rfl) rfl ⟨by decide, by decide⟩ (c_X3_add N h 8 9 1432 7 179 (hL 8 _ rfl) (hL 9 _ rfl) (hL 7 _ rfl)) rfl rfl (Nat.le_of_ble_eq_true rfl) (fun z2 => ?_)
            refine pw_aload_n C dX4_hang_78 rfl rfl ?_
            refine pw_getr (q2 := 6) C (hL 0 _ rfl) rfl (k := 3) (by decide) rfl fl_X4_23 dX4_hang_79 ?_
            refine pw_iload_n C dX4_hang_82 rfl rfl ?_
            refine pw_iload_n C dX4_hang_83 rfl rfl ?_
            refine pw_callVvq (as := [.int a1, .int a2]) (rest := []) C dX4_hang_84 ml_X4_190 cw_X0_moveBehind im_X0_moveBehind sl_X0_moveBehind (hL 6 _ rfl) rfl ⟨by decide, by decide⟩ (c_X0_moveBehind N z2.2 7 a1 a2 (hL 6 _ rfl) (hL 7 _ rfl)) rfl rfl (Nat.le_of_ble_eq_true rfl) (fun z3 => ?_)
            refine pw_aload_n C dX4_hang_87 rfl rfl ?_
            refine pw_getr (q2 := 6) C (hL 0 _ rfl) rfl (k := 3) (by decide) rfl fl_X4_23 dX4_hang_88 ?_
            refine pw_iload_n C dX4_hang_91 rfl rfl ?_
            refine pw_callVp (as := [.int a2]) (rest := []) C dX4_hang_92 ml_X4_143 cw_X0_pendantsIn im_X0_pendantsIn sl_X0_pendantsIn (hL 6 _ rfl) rfl ⟨by decide, by decide⟩ (c_X0_pendantsIn N z3.2 7 a2 (hL 6 _ rfl) (hL 7 _ rfl)) rfl rfl (Nat.le_of_ble_eq_true rfl) (fun v4 => ?_)
            exact pw_iret C hR dX4_hang_95
          · refine pw_bipush (v := (-2)) C dX4_hang_61 (by decide) ?_
            exact pw_iret C hR dX4_hang_63
set_option maxRecDepth 100000 in
set_option maxHeartbeats 4000000 in
theorem kX4_lost_J131 {w : Wd} {x : Cz} (C : Ok w x cX4_lost RX4 4) (hR : OkI w x .int) (hN : xN x = 7) (N : Nat) (h : Hp) (a1 : Int32) (hL : LX w) (k82 : Int32 → Int32 → Int32 → Option Int32) (hk82 : ∀ (u2 : Int32) (u3 : Int32) (u4 : Int32), PW w x 82 [some (.ref (w.2.1 0)), some (.int a1), some (.int u2), some (.int u3), some (.int u4), none, none] [] h (Option.map (fun v => (v, h)) (k82 u2 u3 u4))) : ∀ (u2 : Int32) (u3 : Int32) (u4 : Int32) (t0 : Int32), PW w x 131 [some (.ref (w.2.1 0)), some (.int a1), some (.int u2), some (.int u3), some (.int u4), none, none] [.int t0] h (Option.map (fun v => (v, h)) (fX4_lost_J131 N h a1 k82 u2 u3 u4 t0)) := by
  intro u2 u3 u4 t0
  unfold fX4_lost_J131
  refine pw_istore (lv2 := [some (.ref (w.2.1 0)), some (.int a1), some (.int u2), some (.int u3), some (.int u4), some (.int t0), none]) C dX4_lost_131 hN (by decide) rfl rfl ?_
  refine pw_iload C dX4_lost_133 rfl ?_
  refine pm_if_eq (tgt := 170) C dX4_lost_135 (by decide) (fun c6 => ?_) (fun c6 => ?_)
  · refine pw_iinc (lv2 := [some (.ref (w.2.1 0)), some (.int a1), some (.int u2), some (.int u3), some (.int (u4 + 1)), some (.int t0), none]) C dX4_lost_170 rfl rfl hN (by decide) rfl rfl ?_
    refine pw_goto (tgt := 82) C dX4_lost_173 (by decide) ?_
    exact pw_lv (hk82 u2 u3 (u4 + 1)) ⟨rfl, rfl, rfl, rfl, rfl, trivial⟩
  · refine pw_iload C dX4_lost_138 rfl ?_
    refine pw_iload_n C dX4_lost_140 rfl rfl ?_
    refine pm_icmp_eq (tgt := 170) C dX4_lost_141 (by decide) (fun c7 => ?_) (fun c7 => ?_)
    · refine pw_iinc (lv2 := [some (.ref (w.2.1 0)), some (.int a1), some (.int u2), some (.int u3), some (.int (u4 + 1)), some (.int t0), none]) C dX4_lost_170 rfl rfl hN (by decide) rfl rfl ?_
      refine pw_goto (tgt := 82) C dX4_lost_173 (by decide) ?_
      exact pw_lv (hk82 u2 u3 (u4 + 1)) ⟨rfl, rfl, rfl, rfl, rfl, trivial⟩
    · refine pw_aload_n C dX4_lost_144 rfl rfl ?_
      refine pw_getr (q2 := 6) C (hL 0 _ rfl) rfl (k := 3) (by decide) rfl fl_X4_23 dX4_lost_145 ?_
      refine pw_iload C dX4_lost_148 rfl ?_
      refine pm_callVp (as := [.int u4]) (rest := []) C dX4_lost_150 ml_X4_120 cw_X0_valueOf im_X0_valueOf sl_X0_valueOf (hL 6 _ rfl) rfl ⟨by decide, by decide⟩ (c_X0_valueOf N h 7 u4 (hL 6 _ rfl) (hL 7 _ rfl)) rfl rfl (Nat.le_of_ble_eq_true rfl) (fun v5 => ?_)
      refine pw_istore (lv2 := [some (.ref (w.2.1 0)), some (.int a1), some (.int u2), some (.int u3), some (.int u4), some (.int t0), some (.int v5)]) C dX4_lost_153 hN (by decide) rfl rfl ?_
      refine pw_iload C dX4_lost_155 rfl ?_
      refine pw_bipush (v := (-4)) C dX4_lost_157 (by decide) ?_
      refine pm_icmp_ne (tgt := 165) C dX4_lost_159 (by decide) (fun c8 => ?_) (fun c8 => ?_)
      · refine pw_bipush (v := (-4)) C dX4_lost_162 (by decide) ?_
        exact pm_iret C hR dX4_lost_164
      · refine pw_iload_n C dX4_lost_165 rfl rfl ?_
        refine pw_iload C dX4_lost_166 rfl ?_
        refine pw_isub C dX4_lost_168 ?_
        refine pw_istore_n (lv2 := [some (.ref (w.2.1 0)), some (.int a1), some (.int u2), some (.int (u3 - v5)), some (.int u4), some (.int t0), some (.int v5)]) C dX4_lost_169 rfl hN (by decide) rfl rfl ?_
        refine pw_iinc (lv2 := [some (.ref (w.2.1 0)), some (.int a1), some (.int u2), some (.int (u3 - v5)), some (.int (u4 + 1)), some (.int t0), some (.int v5)]) C dX4_lost_170 rfl rfl hN (by decide) rfl rfl ?_
        refine pw_goto (tgt := 82) C dX4_lost_173 (by decide) ?_
        exact pw_lv (hk82 u2 (u3 - v5) (u4 + 1)) ⟨rfl, rfl, rfl, rfl, rfl, trivial⟩
set_option maxRecDepth 100000 in
set_option maxHeartbeats 4000000 in
theorem kX4_lost_L82 {w : Wd} {x : Cz} (C : Ok w x cX4_lost RX4 4) (hR : OkI w x .int) (hN : xN x = 7) (N : Nat) (h : Hp) (a1 : Int32) (hL : LX w)  : ∀ (n : Nat) (u2 : Int32) (u3 : Int32) (u4 : Int32), PW w x 82 [some (.ref (w.2.1 0)), some (.int a1), some (.int u2), some (.int u3), some (.int u4), none, none] [] h (Option.map (fun v => (v, h)) (fX4_lost_L82 N h a1 n u2 u3 u4)) := by
  intro n
  induction n with
  | zero => intro u2 u3 u4; rw [fX4_lost_L82]; exact pw_none
  | succ n ih =>
    intro u2 u3 u4
    rw [fX4_lost_L82]
    refine pw_iload C dX4_lost_82 rfl ?_
    refine pw_aload_n C dX4_lost_84 rfl rfl ?_
    refine pw_getr (q2 := 6) C (hL 0 _ rfl) rfl (k := 3) (by decide) rfl fl_X4_23 dX4_lost_85 ?_
    refine pw_callVt (as := []) (rest := [.int u4]) C dX4_lost_88 ml_X4_91 cw_X0_cords im_X0_cords sl_X0_cords (hL 6 _ rfl) rfl ⟨by decide, by decide⟩ (c_X0_cords h 7 (hL 6 _ rfl) (hL 7 _ rfl)) rfl rfl (Nat.le_of_ble_eq_true rfl) ?_
    refine pm_icmp_ge (tgt := 176) C dX4_lost_91 (by decide) (fun c9 => ?_) (fun c9 => ?_)
    · refine pw_aload_n C dX4_lost_94 rfl rfl ?_
      refine pw_getr (q2 := 6) C (hL 0 _ rfl) rfl (k := 3) (by decide) rfl fl_X4_23 dX4_lost_95 ?_
      refine pw_aload_n C dX4_lost_98 rfl rfl ?_
      refine pw_getr (q2 := 6) C (hL 0 _ rfl) rfl (k := 3) (by decide) rfl fl_X4_23 dX4_lost_99 ?_
      refine pw_iload C dX4_lost_102 rfl ?_
      refine pm_callVp (as := [.int u4]) (rest := [.ref (w.2.1 6)]) C dX4_lost_104 ml_X4_214 cw_X0_pendantAbove im_X0_pendantAbove sl_X0_pendantAbove (hL 6 _ rfl) rfl ⟨by decide, by decide⟩ (c_X0_pendantAbove N h 7 u4 (hL 6 _ rfl) (hL 7 _ rfl)) rfl rfl (Nat.le_of_ble_eq_true rfl) (fun v4 => ?_)
      refine pw_callVt (as := [.int v4]) (rest := []) C dX4_lost_107 ml_X4_187 cw_X0_isPlainPendant im_X0_isPlainPendant sl_X0_isPlainPendant (hL 6 _ rfl) rfl ⟨by decide, by decide⟩ (c_X0_isPlainPendant h 7 v4 (hL 6 _ rfl) (hL 7 _ rfl)) rfl rfl (Nat.le_of_ble_eq_true rfl) ?_
      refine PW.eq (apply_ite (fun z_ => Option.map (fun v => (v, h)) (fX4_lost_J131 N h a1 (fX4_lost_L82 N h a1 n) u2 u3 u4 z_)) _ _ _) ?_
      refine pw_if_eq (tgt := 130) C dX4_lost_110 (by decide) (fun c10 => ?_) (fun c10 => ?_)
      · refine pw_iconst (v := 0) C dX4_lost_130 (by decide) ?_
        exact kX4_lost_J131 C hR hN N h a1 hL (fX4_lost_L82 N h a1 n) ih u2 u3 u4 0
      · refine pw_aload_n C dX4_lost_113 rfl rfl ?_
        refine pw_getr (q2 := 6) C (hL 0 _ rfl) rfl (k := 3) (by decide) rfl fl_X4_23 dX4_lost_114 ?_
        refine pw_iload C dX4_lost_117 rfl ?_
        refine pw_callVt (as := [.int u4]) (rest := []) C dX4_lost_119 ml_X4_108 cw_X0_groupOf im_X0_groupOf sl_X0_groupOf (hL 6 _ rfl) rfl ⟨by decide, by decide⟩ (c_X0_groupOf h 7 u4 (hL 6 _ rfl) (hL 7 _ rfl)) rfl rfl (Nat.le_of_ble_eq_true rfl) ?_
        refine pw_iload_n C dX4_lost_122 rfl rfl ?_
        refine PW.eq (apply_ite (fun z_ => Option.map (fun v => (v, h)) (fX4_lost_J131 N h a1 (fX4_lost_L82 N h a1 n) u2 u3 u4 z_)) _ _ _) ?_
        refine pw_icmp_ne (tgt := 130) C dX4_lost_123 (by decide) (fun c11 => ?_) (fun c11 => ?_)
        · refine pw_iconst (v := 1) C dX4_lost_126 (by decide) ?_
          refine pw_goto (tgt := 131) C dX4_lost_127 (by decide) ?_
          exact kX4_lost_J131 C hR hN N h a1 hL (fX4_lost_L82 N h a1 n) ih u2 u3 u4 1
        · refine pw_iconst (v := 0) C dX4_lost_130 (by decide) ?_
          exact kX4_lost_J131 C hR hN N h a1 hL (fX4_lost_L82 N h a1 n) ih u2 u3 u4 0
    · refine pw_iload_n C dX4_lost_176 rfl rfl ?_
      refine pm_if_lt (tgt := 191) C dX4_lost_177 (by decide) (fun c12 => ?_) (fun c12 => ?_)
      · refine pw_bipush (v := (-4)) C dX4_lost_191 (by decide) ?_
        exact pm_iret C hR dX4_lost_193
      · refine pw_iload_n C dX4_lost_180 rfl rfl ?_
        refine pw_sipush (v := 9999) C dX4_lost_181 (by decide) ?_
        refine pm_icmp_gt (tgt := 191) C dX4_lost_184 (by decide) (fun c13 => ?_) (fun c13 => ?_)
        · refine pw_bipush (v := (-4)) C dX4_lost_191 (by decide) ?_
          exact pm_iret C hR dX4_lost_193
        · refine pw_iload_n C dX4_lost_187 rfl rfl ?_
          refine pw_goto (tgt := 193) C dX4_lost_188 (by decide) ?_
          exact pm_iret C hR dX4_lost_193
set_option maxRecDepth 100000 in
set_option maxHeartbeats 4000000 in
theorem kX4_lost_J69 {w : Wd} {x : Cz} (C : Ok w x cX4_lost RX4 4) (hR : OkI w x .int) (hN : xN x = 7) (N : Nat) (h : Hp) (a1 : Int32) (hL : LX w)  : ∀ (u2 : Int32) (t0 : Int32), PW w x 69 [some (.ref (w.2.1 0)), some (.int a1), some (.int u2), none, none, none, none] [.int t0] h (Option.map (fun v => (v, h)) (fX4_lost_J69 N h a1 u2 t0)) := by
  intro u2 t0
  unfold fX4_lost_J69
  refine pw_istore_n (lv2 := [some (.ref (w.2.1 0)), some (.int a1), some (.int u2), some (.int t0), none, none, none]) C dX4_lost_69 rfl hN (by decide) rfl rfl ?_
  refine pw_iload_n C dX4_lost_70 rfl rfl ?_
  refine pw_bipush (v := (-4)) C dX4_lost_71 (by decide) ?_
  refine pm_icmp_ne (tgt := 79) C dX4_lost_73 (by decide) (fun c14 => ?_) (fun c14 => ?_)
  · refine pw_bipush (v := (-4)) C dX4_lost_76 (by decide) ?_
    exact pm_iret C hR dX4_lost_78
  · refine pw_iconst (v := 0) C dX4_lost_79 (by decide) ?_
    refine pw_istore (lv2 := [some (.ref (w.2.1 0)), some (.int a1), some (.int u2), some (.int t0), some (.int 0), none, none]) C dX4_lost_80 hN (by decide) rfl rfl ?_
    exact kX4_lost_L82 C hR hN N h a1 hL N u2 t0 0
set_option maxRecDepth 100000 in
set_option maxHeartbeats 4000000 in
theorem c_X4_lost {l : Launch} {w : Wd} {A : Nat → Prop} (N : Nat) (h : Hp) (a1 : Int32) (hL : LX w) : ConI l yX4_lost cX4_lost 7 .int 4 w A [.ref (w.2.1 0), .int a1] h (Option.map (fun v => (v, h)) (fX4_lost N h a1)) := by
  refine ConI.of (lv0 := [some (.ref (w.2.1 0)), some (.int a1), none, none, none, none, none]) (by decide +kernel) (Nat.le_of_ble_eq_true rfl) rfl (fun x C hR hN => ?_)
  unfold fX4_lost
  refine pw_aload_n C dX4_lost_0 rfl rfl ?_
  refine pw_getr (q2 := 6) C (hL 0 _ rfl) rfl (k := 3) (by decide) rfl fl_X4_23 dX4_lost_1 ?_
  refine pw_iload_n C dX4_lost_4 rfl rfl ?_
  refine pw_callVt (as := [.int a1]) (rest := []) C dX4_lost_5 ml_X4_94 cw_X0_hasCord im_X0_hasCord sl_X0_hasCord (hL 6 _ rfl) rfl ⟨by decide, by decide⟩ (c_X0_hasCord h 7 a1 (hL 6 _ rfl) (hL 7 _ rfl)) rfl rfl (Nat.le_of_ble_eq_true rfl) ?_
  refine pm_if_ne (tgt := 13) C dX4_lost_8 (by decide) (fun c15 => ?_) (fun c15 => ?_)
  · refine pw_iconst (v := (-1)) C dX4_lost_11 (by decide) ?_
    exact pm_iret C hR dX4_lost_12
  · refine pw_aload_n C dX4_lost_13 rfl rfl ?_
    refine pw_getr (q2 := 6) C (hL 0 _ rfl) rfl (k := 3) (by decide) rfl fl_X4_23 dX4_lost_14 ?_
    refine pw_iload_n C dX4_lost_17 rfl rfl ?_
    refine pw_callVt (as := [.int a1]) (rest := []) C dX4_lost_18 ml_X4_187 cw_X0_isPlainPendant im_X0_isPlainPendant sl_X0_isPlainPendant (hL 6 _ rfl) rfl ⟨by decide, by decide⟩ (c_X0_isPlainPendant h 7 a1 (hL 6 _ rfl) (hL 7 _ rfl)) rfl rfl (Nat.le_of_ble_eq_true rfl) ?_
    refine pm_if_ne (tgt := 27) C dX4_lost_21 (by decide) (fun c16 => ?_) (fun c16 => ?_)
    · refine pw_bipush (v := (-2)) C dX4_lost_24 (by decide) ?_
      exact pm_iret C hR dX4_lost_26
    · refine pw_aload_n C dX4_lost_27 rfl rfl ?_
      refine pw_getr (q2 := 6) C (hL 0 _ rfl) rfl (k := 3) (by decide) rfl fl_X4_23 dX4_lost_28 ?_
      refine pw_iload_n C dX4_lost_31 rfl rfl ?_
      refine pw_callVt (as := [.int a1]) (rest := []) C dX4_lost_32 ml_X4_108 cw_X0_groupOf im_X0_groupOf sl_X0_groupOf (hL 6 _ rfl) rfl ⟨by decide, by decide⟩ (c_X0_groupOf h 7 a1 (hL 6 _ rfl) (hL 7 _ rfl)) rfl rfl (Nat.le_of_ble_eq_true rfl) ?_
      refine pw_istore_n (lv2 := [some (.ref (w.2.1 0)), some (.int a1), some (.int (fX0_groupOf h 7 a1)), none, none, none, none]) C dX4_lost_35 rfl hN (by decide) rfl rfl ?_
      refine pw_aload_n C dX4_lost_36 rfl rfl ?_
      refine pw_getr (q2 := 6) C (hL 0 _ rfl) rfl (k := 3) (by decide) rfl fl_X4_23 dX4_lost_37 ?_
      refine pw_iload_n C dX4_lost_40 rfl rfl ?_
      refine pm_callVp (as := [.int (fX0_groupOf h 7 a1)]) (rest := []) C dX4_lost_41 ml_X4_146 cw_X0_topOf im_X0_topOf sl_X0_topOf (hL 6 _ rfl) rfl ⟨by decide, by decide⟩ (c_X0_topOf N h 7 (fX0_groupOf h 7 a1) (hL 6 _ rfl) (hL 7 _ rfl)) rfl rfl (Nat.le_of_ble_eq_true rfl) (fun v1 => ?_)
      refine pw_bipush (v := (-4)) C dX4_lost_44 (by decide) ?_
      refine pm_icmp_ne (tgt := 54) C dX4_lost_46 (by decide) (fun c17 => ?_) (fun c17 => ?_)
      · refine pw_bipush (v := (-4)) C dX4_lost_49 (by decide) ?_
        refine pw_goto (tgt := 69) C dX4_lost_51 (by decide) ?_
        exact kX4_lost_J69 C hR hN N h a1 hL (fX0_groupOf h 7 a1) (-4)
      · refine pw_aload_n C dX4_lost_54 rfl rfl ?_
        refine pw_getr (q2 := 6) C (hL 0 _ rfl) rfl (k := 3) (by decide) rfl fl_X4_23 dX4_lost_55 ?_
        refine pw_aload_n C dX4_lost_58 rfl rfl ?_
        refine pw_getr (q2 := 6) C (hL 0 _ rfl) rfl (k := 3) (by decide) rfl fl_X4_23 dX4_lost_59 ?_
        refine pw_iload_n C dX4_lost_62 rfl rfl ?_
        refine pm_callVp (as := [.int (fX0_groupOf h 7 a1)]) (rest := [.ref (w.2.1 6)]) C dX4_lost_63 ml_X4_146 cw_X0_topOf im_X0_topOf sl_X0_topOf (hL 6 _ rfl) rfl ⟨by decide, by decide⟩ (c_X0_topOf N h 7 (fX0_groupOf h 7 a1) (hL 6 _ rfl) (hL 7 _ rfl)) rfl rfl (Nat.le_of_ble_eq_true rfl) (fun v2 => ?_)
        refine pm_callVp (as := [.int v2]) (rest := []) C dX4_lost_66 ml_X4_123 cw_X0_wholeOf im_X0_wholeOf sl_X0_wholeOf (hL 6 _ rfl) rfl ⟨by decide, by decide⟩ (c_X0_wholeOf N h 7 v2 (hL 6 _ rfl) (hL 7 _ rfl)) rfl rfl (Nat.le_of_ble_eq_true rfl) (fun v3 => ?_)
        exact kX4_lost_J69 C hR hN N h a1 hL (fX0_groupOf h 7 a1) v3
set_option maxRecDepth 100000 in
set_option maxHeartbeats 4000000 in
theorem kX4_share_J75 {w : Wd} {x : Cz} (C : Ok w x cX4_share RX4 4) (hR : OkI w x .int) (hN : xN x = 5) (N : Nat) (a1 : Int32) (a2 : Int32) (hL : LX w) (k36 : Int32 → Hp → Option Rs) (hk36 : ∀ (u3 : Int32) (h : Hp), PW w x 36 [some (.ref (w.2.1 0)), some (.int a1), some (.int a2), some (.int u3), none] [] h ((k36 u3 h))) : ∀ (u3 : Int32) (h : Hp), PW w x 75 [some (.ref (w.2.1 0)), some (.int a1), some (.int a2), some (.int u3), none] [] h ((fX4_share_J75 N a1 a2 k36 u3 h)) := by
  intro u3 h
  unfold fX4_share_J75
  refine pw_aload_n C dX4_share_75 rfl rfl ?_
  refine pw_getr (q2 := 6) C (hL 0 _ rfl) rfl (k := 3) (by decide) rfl fl_X4_23 dX4_share_76 ?_
  refine pw_iload_n C dX4_share_79 rfl rfl ?_
  refine pw_callVp (as := [.int u3]) (rest := []) C dX4_share_80 ml_X4_120 cw_X0_valueOf im_X0_valueOf sl_X0_valueOf (hL 6 _ rfl) rfl ⟨by decide, by decide⟩ (c_X0_valueOf N h 7 u3 (hL 6 _ rfl) (hL 7 _ rfl)) rfl rfl (Nat.le_of_ble_eq_true rfl) (fun v3 => ?_)
  refine pw_istore (lv2 := [some (.ref (w.2.1 0)), some (.int a1), some (.int a2), some (.int u3), some (.int v3)]) C dX4_share_83 hN (by decide) rfl rfl ?_
  refine pw_iload C dX4_share_85 rfl ?_
  refine pw_bipush (v := (-4)) C dX4_share_87 (by decide) ?_
  refine pw_icmp_ne (tgt := 95) C dX4_share_89 (by decide) (fun c5 => ?_) (fun c5 => ?_)
  · refine pw_bipush (v := (-4)) C dX4_share_92 (by decide) ?_
    exact pw_iret C hR dX4_share_94
  · refine pw_aload_n C dX4_share_95 rfl rfl ?_
    refine pw_getr (q2 := 12) C (hL 0 _ rfl) rfl (k := 6) (by decide) rfl fl_X4_42 dX4_share_96 ?_
    refine pw_iload_n C dX4_share_99 rfl rfl ?_
    refine pw_iload C dX4_share_100 rfl ?_
    refine pw_callVvq (as := [.int u3, .int v3]) (rest := []) C dX4_share_102 ml_X4_243 cw_X2_add im_X2_add sl_X2_add (hL 12 _ rfl) rfl ⟨by decide, by decide⟩ (c_X2_add h u3 v3 hL) rfl rfl (Nat.le_of_ble_eq_true rfl) (fun z4 => ?_)
    refine pw_iinc (lv2 := [some (.ref (w.2.1 0)), some (.int a1), some (.int a2), some (.int (u3 + 1)), some (.int v3)]) C dX4_share_105 rfl rfl hN (by decide) rfl rfl ?_
    refine pw_goto (tgt := 36) C dX4_share_108 (by decide) ?_
    exact pw_lv (hk36 (u3 + 1) z4.2) ⟨rfl, rfl, rfl, rfl, trivial⟩
set_option maxRecDepth 100000 in
set_option maxHeartbeats 4000000 in
theorem kX4_share_L36 {w : Wd} {x : Cz} (C : Ok w x cX4_share RX4 4) (hR : OkI w x .int) (hN : xN x = 5) (N : Nat) (a1 : Int32) (a2 : Int32) (hL : LX w)  : ∀ (n : Nat) (u3 : Int32) (h : Hp), PW w x 36 [some (.ref (w.2.1 0)), some (.int a1), some (.int a2), some (.int u3), none] [] h ((fX4_share_L36 N a1 a2 n u3 h)) := by
  intro n
  induction n with
  | zero => intro u3 h; rw [fX4_share_L36]; exact pw_none
  | succ n ih =>
    intro u3 h
    rw [fX4_share_L36]
    refine pw_iload_n C dX4_share_36 rfl rfl ?_
    refine pw_aload_n C dX4_share_37 rfl rfl ?_
    refine pw_getr (q2 := 6) C (hL 0 _ rfl) rfl (k := 3) (by decide) rfl fl_X4_23 dX4_share_38 ?_
    refine pw_callVt (as := []) (rest := [.int u3]) C dX4_share_41 ml_X4_91 cw_X0_cords im_X0_cords sl_X0_cords (hL 6 _ rfl) rfl ⟨by decide, by decide⟩ (c_X0_cords h 7 (hL 6 _ rfl) (hL 7 _ rfl)) rfl rfl (Nat.le_of_ble_eq_true rfl) ?_
    refine pw_icmp_ge (tgt := 111) C dX4_share_44 (by decide) (fun c6 => ?_) (fun c6 => ?_)
    · refine pw_aload_n C dX4_share_47 rfl rfl ?_
      refine pw_getr (q2 := 6) C (hL 0 _ rfl) rfl (k := 3) (by decide) rfl fl_X4_23 dX4_share_48 ?_
      refine pw_iload_n C dX4_share_51 rfl rfl ?_
      refine pw_callVt (as := [.int u3]) (rest := []) C dX4_share_52 ml_X4_187 cw_X0_isPlainPendant im_X0_isPlainPendant sl_X0_isPlainPendant (hL 6 _ rfl) rfl ⟨by decide, by decide⟩ (c_X0_isPlainPendant h 7 u3 (hL 6 _ rfl) (hL 7 _ rfl)) rfl rfl (Nat.le_of_ble_eq_true rfl) ?_
      refine pw_if_eq (tgt := 105) C dX4_share_55 (by decide) (fun c7 => ?_) (fun c7 => ?_)
      · refine pw_iinc (lv2 := [some (.ref (w.2.1 0)), some (.int a1), some (.int a2), some (.int (u3 + 1)), none]) C dX4_share_105 rfl rfl hN (by decide) rfl rfl ?_
        refine pw_goto (tgt := 36) C dX4_share_108 (by decide) ?_
        exact ih (u3 + 1) h
      · refine pw_iload_n C dX4_share_58 rfl rfl ?_
        refine pw_iconst (v := 5) C dX4_share_59 (by decide) ?_
        refine pw_icmp_eq (tgt := 75) C dX4_share_60 (by decide) (fun c8 => ?_) (fun c8 => ?_)
        · exact kX4_share_J75 C hR hN N a1 a2 hL (fX4_share_L36 N a1 a2 n) ih u3 h
        · refine pw_aload_n C dX4_share_63 rfl rfl ?_
          refine pw_getr (q2 := 6) C (hL 0 _ rfl) rfl (k := 3) (by decide) rfl fl_X4_23 dX4_share_64 ?_
          refine pw_iload_n C dX4_share_67 rfl rfl ?_
          refine pw_callVt (as := [.int u3]) (rest := []) C dX4_share_68 ml_X4_108 cw_X0_groupOf im_X0_groupOf sl_X0_groupOf (hL 6 _ rfl) rfl ⟨by decide, by decide⟩ (c_X0_groupOf h 7 u3 (hL 6 _ rfl) (hL 7 _ rfl)) rfl rfl (Nat.le_of_ble_eq_true rfl) ?_
          refine pw_iload_n C dX4_share_71 rfl rfl ?_
          refine pw_icmp_ne (tgt := 105) C dX4_share_72 (by decide) (fun c9 => ?_) (fun c9 => ?_)
          · exact kX4_share_J75 C hR hN N a1 a2 hL (fX4_share_L36 N a1 a2 n) ih u3 h
          · refine pw_iinc (lv2 := [some (.ref (w.2.1 0)), some (.int a1), some (.int a2), some (.int (u3 + 1)), none]) C dX4_share_105 rfl rfl hN (by decide) rfl rfl ?_
            refine pw_goto (tgt := 36) C dX4_share_108 (by decide) ?_
            exact ih (u3 + 1) h
    · refine pw_aload_n C dX4_share_111 rfl rfl ?_
      refine pw_getr (q2 := 12) C (hL 0 _ rfl) rfl (k := 6) (by decide) rfl fl_X4_42 dX4_share_112 ?_
      refine pw_callVvq (as := []) (rest := []) C dX4_share_115 ml_X4_245 cw_X2_findEvenest im_X2_findEvenest sl_X2_findEvenest (hL 12 _ rfl) rfl ⟨by decide, by decide⟩ (c_X2_findEvenest N h hL) rfl rfl (Nat.le_of_ble_eq_true rfl) (fun z2 => ?_)
      refine pw_iload_n C dX4_share_118 rfl rfl ?_
      refine pw_if_ne (tgt := 132) C dX4_share_119 (by decide) (fun c10 => ?_) (fun c10 => ?_)
      · refine pw_aload_n C dX4_share_122 rfl rfl ?_
        refine pw_getr (q2 := 12) C (hL 0 _ rfl) rfl (k := 6) (by decide) rfl fl_X4_42 dX4_share_123 ?_
        refine pw_getiN C (hL 12 _ rfl) rfl (k := 7) (by decide) rfl "ToldInKnots" (by decide +kernel) dX4_share_126 ?_
        refine pw_goto (tgt := 139) C dX4_share_129 (by decide) ?_
        exact pw_iret C hR dX4_share_139
      · refine pw_aload_n C dX4_share_132 rfl rfl ?_
        refine pw_getr (q2 := 12) C (hL 0 _ rfl) rfl (k := 6) (by decide) rfl fl_X4_42 dX4_share_133 ?_
        refine pw_getiN C (hL 12 _ rfl) rfl (k := 8) (by decide) rfl "ToldInKnots" (by decide +kernel) dX4_share_136 ?_
        exact pw_iret C hR dX4_share_139
set_option maxRecDepth 100000 in
set_option maxHeartbeats 4000000 in
theorem kX4_share_J16 {w : Wd} {x : Cz} (C : Ok w x cX4_share RX4 4) (hR : OkI w x .int) (hN : xN x = 5) (N : Nat) (a1 : Int32) (a2 : Int32) (hL : LX w)  : ∀ (h : Hp), PW w x 16 [some (.ref (w.2.1 0)), some (.int a1), some (.int a2), none, none] [] h ((fX4_share_J16 N a1 a2 h)) := by
  intro h
  unfold fX4_share_J16
  refine pw_iload_n C dX4_share_16 rfl rfl ?_
  refine pw_if_lt (tgt := 25) C dX4_share_17 (by decide) (fun c11 => ?_) (fun c11 => ?_)
  · refine pw_iconst (v := (-1)) C dX4_share_25 (by decide) ?_
    exact pw_iret C hR dX4_share_26
  · refine pw_iload_n C dX4_share_20 rfl rfl ?_
    refine pw_iconst (v := 1) C dX4_share_21 (by decide) ?_
    refine pw_icmp_le (tgt := 27) C dX4_share_22 (by decide) (fun c12 => ?_) (fun c12 => ?_)
    · refine pw_iconst (v := (-1)) C dX4_share_25 (by decide) ?_
      exact pw_iret C hR dX4_share_26
    · refine pw_aload_n C dX4_share_27 rfl rfl ?_
      refine pw_getr (q2 := 12) C (hL 0 _ rfl) rfl (k := 6) (by decide) rfl fl_X4_42 dX4_share_28 ?_
      refine pw_callVvq (as := []) (rest := []) C dX4_share_31 ml_X4_242 cw_X2_clear im_X2_clear sl_X2_clear (hL 12 _ rfl) rfl ⟨by decide, by decide⟩ (c_X2_clear h hL) rfl rfl (Nat.le_of_ble_eq_true rfl) (fun z1 => ?_)
      refine pw_iconst (v := 0) C dX4_share_34 (by decide) ?_
      refine pw_istore_n (lv2 := [some (.ref (w.2.1 0)), some (.int a1), some (.int a2), some (.int 0), none]) C dX4_share_35 rfl hN (by decide) rfl rfl ?_
      exact kX4_share_L36 C hR hN N a1 a2 hL N 0 z1.2
set_option maxRecDepth 100000 in
set_option maxHeartbeats 4000000 in
theorem c_X4_share {l : Launch} {w : Wd} {A : Nat → Prop} (N : Nat) (h : Hp) (a1 : Int32) (a2 : Int32) (hL : LX w) : ConI l yX4_share cX4_share 5 .int 4 w A [.ref (w.2.1 0), .int a1, .int a2] h ((fX4_share N h a1 a2)) := by
  refine ConI.of (lv0 := [some (.ref (w.2.1 0)), some (.int a1), some (.int a2), none, none]) (by decide +kernel) (Nat.le_of_ble_eq_true rfl) rfl (fun x C hR hN => ?_)
  unfold fX4_share
  refine pw_iload_n C dX4_share_0 rfl rfl ?_
  refine pw_iconst (v := 5) C dX4_share_1 (by decide) ?_
  refine pw_icmp_eq (tgt := 16) C dX4_share_2 (by decide) (fun c13 => ?_) (fun c13 => ?_)
  · exact kX4_share_J16 C hR hN N a1 a2 hL h
  · refine pw_aload_n C dX4_share_5 rfl rfl ?_
    refine pw_getr (q2 := 6) C (hL 0 _ rfl) rfl (k := 3) (by decide) rfl fl_X4_23 dX4_share_6 ?_
    refine pw_iload_n C dX4_share_9 rfl rfl ?_
    refine pw_callVt (as := [.int a1]) (rest := []) C dX4_share_10 ml_X4_140 cw_X0_hasGroup im_X0_hasGroup sl_X0_hasGroup (hL 6 _ rfl) rfl ⟨by decide, by decide⟩ (c_X0_hasGroup h 7 a1 (hL 6 _ rfl) (hL 7 _ rfl)) rfl rfl (Nat.le_of_ble_eq_true rfl) ?_
    refine pw_if_eq (tgt := 25) C dX4_share_13 (by decide) (fun c14 => ?_) (fun c14 => ?_)
    · refine pw_iconst (v := (-1)) C dX4_share_25 (by decide) ?_
      exact pw_iret C hR dX4_share_26
    · exact kX4_share_J16 C hR hN N a1 a2 hL h
set_option maxRecDepth 100000 in
set_option maxHeartbeats 4000000 in
theorem kX4_make_L22 {w : Wd} {x : Cz} (C : Ok w x cX4_make RX4 4) (hR : OkI w x .int) (hN : xN x = 3) (N : Nat) (a1 : Int32) (hL : LX w)  : ∀ (n : Nat) (u2 : Int32) (h : Hp), PW w x 22 [some (.ref (w.2.1 0)), some (.int a1), some (.int u2)] [] h ((fX4_make_L22 N a1 n u2 h)) := by
  intro n
  induction n with
  | zero => intro u2 h; rw [fX4_make_L22]; exact pw_none
  | succ n ih =>
    intro u2 h
    rw [fX4_make_L22]
    refine pw_iload_n C dX4_make_22 rfl rfl ?_
    refine pw_aload_n C dX4_make_23 rfl rfl ?_
    refine pw_getr (q2 := 6) C (hL 0 _ rfl) rfl (k := 3) (by decide) rfl fl_X4_23 dX4_make_24 ?_
    refine pw_callVt (as := []) (rest := [.int u2]) C dX4_make_27 ml_X4_91 cw_X0_cords im_X0_cords sl_X0_cords (hL 6 _ rfl) rfl ⟨by decide, by decide⟩ (c_X0_cords h 7 (hL 6 _ rfl) (hL 7 _ rfl)) rfl rfl (Nat.le_of_ble_eq_true rfl) ?_
    refine pw_icmp_ge (tgt := 79) C dX4_make_30 (by decide) (fun c6 => ?_) (fun c6 => ?_)
    · refine pw_aload_n C dX4_make_33 rfl rfl ?_
      refine pw_getr (q2 := 6) C (hL 0 _ rfl) rfl (k := 3) (by decide) rfl fl_X4_23 dX4_make_34 ?_
      refine pw_iload_n C dX4_make_37 rfl rfl ?_
      refine pw_callVt (as := [.int u2]) (rest := []) C dX4_make_38 ml_X4_187 cw_X0_isPlainPendant im_X0_isPlainPendant sl_X0_isPlainPendant (hL 6 _ rfl) rfl ⟨by decide, by decide⟩ (c_X0_isPlainPendant h 7 u2 (hL 6 _ rfl) (hL 7 _ rfl)) rfl rfl (Nat.le_of_ble_eq_true rfl) ?_
      refine pw_if_eq (tgt := 73) C dX4_make_41 (by decide) (fun c7 => ?_) (fun c7 => ?_)
      · refine pw_iinc (lv2 := [some (.ref (w.2.1 0)), some (.int a1), some (.int (u2 + 1))]) C dX4_make_73 rfl rfl hN (by decide) rfl rfl ?_
        refine pw_goto (tgt := 22) C dX4_make_76 (by decide) ?_
        exact ih (u2 + 1) h
      · refine pw_aload_n C dX4_make_44 rfl rfl ?_
        refine pw_getr (q2 := 6) C (hL 0 _ rfl) rfl (k := 3) (by decide) rfl fl_X4_23 dX4_make_45 ?_
        refine pw_iload_n C dX4_make_48 rfl rfl ?_
        refine pw_callVp (as := [.int u2]) (rest := []) C dX4_make_49 ml_X4_120 cw_X0_valueOf im_X0_valueOf sl_X0_valueOf (hL 6 _ rfl) rfl ⟨by decide, by decide⟩ (c_X0_valueOf N h 7 u2 (hL 6 _ rfl) (hL 7 _ rfl)) rfl rfl (Nat.le_of_ble_eq_true rfl) (fun v2 => ?_)
        refine pw_bipush (v := (-4)) C dX4_make_52 (by decide) ?_
        refine pw_icmp_eq (tgt := 73) C dX4_make_54 (by decide) (fun c8 => ?_) (fun c8 => ?_)
        · refine pw_iinc (lv2 := [some (.ref (w.2.1 0)), some (.int a1), some (.int (u2 + 1))]) C dX4_make_73 rfl rfl hN (by decide) rfl rfl ?_
          refine pw_goto (tgt := 22) C dX4_make_76 (by decide) ?_
          exact ih (u2 + 1) h
        · refine pw_aload_n C dX4_make_57 rfl rfl ?_
          refine pw_getr (q2 := 12) C (hL 0 _ rfl) rfl (k := 6) (by decide) rfl fl_X4_42 dX4_make_58 ?_
          refine pw_iload_n C dX4_make_61 rfl rfl ?_
          refine pw_aload_n C dX4_make_62 rfl rfl ?_
          refine pw_getr (q2 := 6) C (hL 0 _ rfl) rfl (k := 3) (by decide) rfl fl_X4_23 dX4_make_63 ?_
          refine pw_iload_n C dX4_make_66 rfl rfl ?_
          refine pw_callVp (as := [.int u2]) (rest := [.int u2, .ref (w.2.1 12)]) C dX4_make_67 ml_X4_120 cw_X0_valueOf im_X0_valueOf sl_X0_valueOf (hL 6 _ rfl) rfl ⟨by decide, by decide⟩ (c_X0_valueOf N h 7 u2 (hL 6 _ rfl) (hL 7 _ rfl)) rfl rfl (Nat.le_of_ble_eq_true rfl) (fun v3 => ?_)
          refine pw_callVvq (as := [.int u2, .int v3]) (rest := []) C dX4_make_70 ml_X4_243 cw_X2_add im_X2_add sl_X2_add (hL 12 _ rfl) rfl ⟨by decide, by decide⟩ (c_X2_add h u2 v3 hL) rfl rfl (Nat.le_of_ble_eq_true rfl) (fun z4 => ?_)
          refine pw_iinc (lv2 := [some (.ref (w.2.1 0)), some (.int a1), some (.int (u2 + 1))]) C dX4_make_73 rfl rfl hN (by decide) rfl rfl ?_
          refine pw_goto (tgt := 22) C dX4_make_76 (by decide) ?_
          exact ih (u2 + 1) z4.2
    · refine pw_aload_n C dX4_make_79 rfl rfl ?_
      refine pw_getr (q2 := 12) C (hL 0 _ rfl) rfl (k := 6) (by decide) rfl fl_X4_42 dX4_make_80 ?_
      refine pw_iload_n C dX4_make_83 rfl rfl ?_
      refine pw_callVvq (as := [.int a1]) (rest := []) C dX4_make_84 ml_X4_254 cw_X2_findFewest im_X2_findFewest sl_X2_findFewest (hL 12 _ rfl) rfl ⟨by decide, by decide⟩ (c_X2_findFewest N h a1 hL) rfl rfl (Nat.le_of_ble_eq_true rfl) (fun z5 => ?_)
      refine pw_aload_n C dX4_make_87 rfl rfl ?_
      refine pw_getr (q2 := 12) C (hL 0 _ rfl) rfl (k := 6) (by decide) rfl fl_X4_42 dX4_make_88 ?_
      refine pw_getiN C (hL 12 _ rfl) rfl (k := 7) (by decide) rfl "ToldInKnots" (by decide +kernel) dX4_make_91 ?_
      exact pw_iret C hR dX4_make_94
set_option maxRecDepth 100000 in
set_option maxHeartbeats 4000000 in
theorem c_X4_make {l : Launch} {w : Wd} {A : Nat → Prop} (N : Nat) (h : Hp) (a1 : Int32) (hL : LX w) : ConI l yX4_make cX4_make 3 .int 4 w A [.ref (w.2.1 0), .int a1] h ((fX4_make N h a1)) := by
  refine ConI.of (lv0 := [some (.ref (w.2.1 0)), some (.int a1), none]) (by decide +kernel) (Nat.le_of_ble_eq_true rfl) rfl (fun x C hR hN => ?_)
  unfold fX4_make
  refine pw_iload_n C dX4_make_0 rfl rfl ?_
  refine pw_if_lt (tgt := 11) C dX4_make_1 (by decide) (fun c9 => ?_) (fun c9 => ?_)
  · refine pw_iconst (v := (-1)) C dX4_make_11 (by decide) ?_
    exact pw_iret C hR dX4_make_12
  · refine pw_iload_n C dX4_make_4 rfl rfl ?_
    refine pw_sipush (v := 9999) C dX4_make_5 (by decide) ?_
    refine pw_icmp_le (tgt := 13) C dX4_make_8 (by decide) (fun c10 => ?_) (fun c10 => ?_)
    · refine pw_iconst (v := (-1)) C dX4_make_11 (by decide) ?_
      exact pw_iret C hR dX4_make_12
    · refine pw_aload_n C dX4_make_13 rfl rfl ?_
      refine pw_getr (q2 := 12) C (hL 0 _ rfl) rfl (k := 6) (by decide) rfl fl_X4_42 dX4_make_14 ?_
      refine pw_callVvq (as := []) (rest := []) C dX4_make_17 ml_X4_242 cw_X2_clear im_X2_clear sl_X2_clear (hL 12 _ rfl) rfl ⟨by decide, by decide⟩ (c_X2_clear h hL) rfl rfl (Nat.le_of_ble_eq_true rfl) (fun z1 => ?_)
      refine pw_iconst (v := 0) C dX4_make_20 (by decide) ?_
      refine pw_istore_n (lv2 := [some (.ref (w.2.1 0)), some (.int a1), some (.int 0)]) C dX4_make_21 rfl hN (by decide) rfl rfl ?_
      exact kX4_make_L22 C hR hN N a1 hL N 0 z1.2
set_option maxRecDepth 100000 in
set_option maxHeartbeats 4000000 in
theorem kX4_colours_L26 {w : Wd} {x : Cz} (C : Ok w x cX4_colours RX4 4) (hR : OkI w x .int) (hN : xN x = 6) (N : Nat) (h : Hp) (a1 : Int32) (a2 : Int32) (hL : LX w)  : ∀ (n : Nat) (u3 : Int32) (u4 : Int32) (u5 : Int32), PW w x 26 [some (.ref (w.2.1 0)), some (.int a1), some (.int a2), some (.int u3), some (.int u4), some (.int u5)] [] h (Option.map (fun v => (v, h)) (fX4_colours_L26 N h a1 a2 n u3 u4 u5)) := by
  intro n
  induction n with
  | zero => intro u3 u4 u5; rw [fX4_colours_L26]; exact pw_none
  | succ n ih =>
    intro u3 u4 u5
    rw [fX4_colours_L26]
    refine pw_iload C dX4_colours_26 rfl ?_
    refine pw_aload_n C dX4_colours_28 rfl rfl ?_
    refine pw_getr (q2 := 6) C (hL 0 _ rfl) rfl (k := 3) (by decide) rfl fl_X4_23 dX4_colours_29 ?_
    refine pw_callVt (as := []) (rest := [.int u5]) C dX4_colours_32 ml_X4_91 cw_X0_cords im_X0_cords sl_X0_cords (hL 6 _ rfl) rfl ⟨by decide, by decide⟩ (c_X0_cords h 7 (hL 6 _ rfl) (hL 7 _ rfl)) rfl rfl (Nat.le_of_ble_eq_true rfl) ?_
    refine pm_icmp_ge (tgt := 72) C dX4_colours_35 (by decide) (fun c2 => ?_) (fun c2 => ?_)
    · refine pw_aload_n C dX4_colours_38 rfl rfl ?_
      refine pw_getr (q2 := 6) C (hL 0 _ rfl) rfl (k := 3) (by decide) rfl fl_X4_23 dX4_colours_39 ?_
      refine pw_iload C dX4_colours_42 rfl ?_
      refine pw_callVt (as := [.int u5]) (rest := []) C dX4_colours_44 ml_X4_98 cw_X0_colourOf im_X0_colourOf sl_X0_colourOf (hL 6 _ rfl) rfl ⟨by decide, by decide⟩ (c_X0_colourOf h 7 u5 (hL 6 _ rfl) (hL 7 _ rfl)) rfl rfl (Nat.le_of_ble_eq_true rfl) ?_
      refine pw_iload_n C dX4_colours_47 rfl rfl ?_
      refine pm_icmp_ne (tgt := 66) C dX4_colours_48 (by decide) (fun c3 => ?_) (fun c3 => ?_)
      · refine pw_iinc (lv2 := [some (.ref (w.2.1 0)), some (.int a1), some (.int a2), some (.int u3), some (.int (u4 + 1)), some (.int u5)]) C dX4_colours_51 rfl rfl hN (by decide) rfl rfl ?_
        refine pw_iload_n C dX4_colours_54 rfl rfl ?_
        refine pw_aload_n C dX4_colours_55 rfl rfl ?_
        refine pw_getr (q2 := 6) C (hL 0 _ rfl) rfl (k := 3) (by decide) rfl fl_X4_23 dX4_colours_56 ?_
        refine pw_iload C dX4_colours_59 rfl ?_
        refine pm_callVp (as := [.int u5]) (rest := [.int u3]) C dX4_colours_61 ml_X4_257 cw_X0_told im_X0_told sl_X0_told (hL 6 _ rfl) rfl ⟨by decide, by decide⟩ (c_X0_told N h 7 u5 (hL 6 _ rfl) (hL 7 _ rfl)) rfl rfl (Nat.le_of_ble_eq_true rfl) (fun v1 => ?_)
        refine pw_iadd C dX4_colours_64 ?_
        refine pw_istore_n (lv2 := [some (.ref (w.2.1 0)), some (.int a1), some (.int a2), some (.int (u3 + v1)), some (.int (u4 + 1)), some (.int u5)]) C dX4_colours_65 rfl hN (by decide) rfl rfl ?_
        refine pw_iinc (lv2 := [some (.ref (w.2.1 0)), some (.int a1), some (.int a2), some (.int (u3 + v1)), some (.int (u4 + 1)), some (.int (u5 + 1))]) C dX4_colours_66 rfl rfl hN (by decide) rfl rfl ?_
        refine pw_goto (tgt := 26) C dX4_colours_69 (by decide) ?_
        exact ih (u3 + v1) (u4 + 1) (u5 + 1)
      · refine pw_iinc (lv2 := [some (.ref (w.2.1 0)), some (.int a1), some (.int a2), some (.int u3), some (.int u4), some (.int (u5 + 1))]) C dX4_colours_66 rfl rfl hN (by decide) rfl rfl ?_
        refine pw_goto (tgt := 26) C dX4_colours_69 (by decide) ?_
        exact ih u3 u4 (u5 + 1)
    · refine pw_iload_n C dX4_colours_72 rfl rfl ?_
      refine pm_if_ne (tgt := 80) C dX4_colours_73 (by decide) (fun c4 => ?_) (fun c4 => ?_)
      · refine pw_iload_n C dX4_colours_76 rfl rfl ?_
        refine pw_goto (tgt := 82) C dX4_colours_77 (by decide) ?_
        exact pm_iret C hR dX4_colours_82
      · refine pw_iload C dX4_colours_80 rfl ?_
        exact pm_iret C hR dX4_colours_82
set_option maxRecDepth 100000 in
set_option maxHeartbeats 4000000 in
theorem c_X4_colours {l : Launch} {w : Wd} {A : Nat → Prop} (N : Nat) (h : Hp) (a1 : Int32) (a2 : Int32) (hL : LX w) : ConI l yX4_colours cX4_colours 6 .int 4 w A [.ref (w.2.1 0), .int a1, .int a2] h (Option.map (fun v => (v, h)) (fX4_colours N h a1 a2)) := by
  refine ConI.of (lv0 := [some (.ref (w.2.1 0)), some (.int a1), some (.int a2), none, none, none]) (by decide +kernel) (Nat.le_of_ble_eq_true rfl) rfl (fun x C hR hN => ?_)
  unfold fX4_colours
  refine pw_iload_n C dX4_colours_0 rfl rfl ?_
  refine pw_callSt (as := [.int a1]) (rest := []) C dX4_colours_1 ml_X4_181 cw_X4_isColour st_X4_isColour ⟨by decide, by decide⟩ (c_X4_isColour h a1) rfl rfl (Nat.le_of_ble_eq_true rfl) ?_
  refine pm_if_eq (tgt := 16) C dX4_colours_4 (by decide) (fun c5 => ?_) (fun c5 => ?_)
  · refine pw_iconst (v := (-1)) C dX4_colours_16 (by decide) ?_
    exact pm_iret C hR dX4_colours_17
  · refine pw_iload_n C dX4_colours_7 rfl rfl ?_
    refine pm_if_lt (tgt := 16) C dX4_colours_8 (by decide) (fun c6 => ?_) (fun c6 => ?_)
    · refine pw_iconst (v := (-1)) C dX4_colours_16 (by decide) ?_
      exact pm_iret C hR dX4_colours_17
    · refine pw_iload_n C dX4_colours_11 rfl rfl ?_
      refine pw_iconst (v := 1) C dX4_colours_12 (by decide) ?_
      refine pm_icmp_le (tgt := 18) C dX4_colours_13 (by decide) (fun c7 => ?_) (fun c7 => ?_)
      · refine pw_iconst (v := (-1)) C dX4_colours_16 (by decide) ?_
        exact pm_iret C hR dX4_colours_17
      · refine pw_iconst (v := 0) C dX4_colours_18 (by decide) ?_
        refine pw_istore_n (lv2 := [some (.ref (w.2.1 0)), some (.int a1), some (.int a2), some (.int 0), none, none]) C dX4_colours_19 rfl hN (by decide) rfl rfl ?_
        refine pw_iconst (v := 0) C dX4_colours_20 (by decide) ?_
        refine pw_istore (lv2 := [some (.ref (w.2.1 0)), some (.int a1), some (.int a2), some (.int 0), some (.int 0), none]) C dX4_colours_21 hN (by decide) rfl rfl ?_
        refine pw_iconst (v := 0) C dX4_colours_23 (by decide) ?_
        refine pw_istore (lv2 := [some (.ref (w.2.1 0)), some (.int a1), some (.int a2), some (.int 0), some (.int 0), some (.int 0)]) C dX4_colours_24 hN (by decide) rfl rfl ?_
        exact kX4_colours_L26 C hR hN N h a1 a2 hL N 0 0 0
set_option maxRecDepth 100000 in
set_option maxHeartbeats 4000000 in
theorem kX4_path_L21 {w : Wd} {x : Cz} (C : Ok w x cX4_path RX4 4) (hR : OkI w x .int) (hN : xN x = 6) (N : Nat) (h : Hp) (a1 : Int32) (a2 : Int32) (hL : LX w)  : ∀ (n : Nat) (u3 : Int32) (u4 : Int32), PW w x 21 [some (.ref (w.2.1 0)), some (.int a1), some (.int a2), some (.int u3), some (.int u4), none] [] h (Option.map (fun v => (v, h)) (fX4_path_L21 N h a1 a2 n u3 u4)) := by
  intro n
  induction n with
  | zero => intro u3 u4; rw [fX4_path_L21]; exact pw_none
  | succ n ih =>
    intro u3 u4
    rw [fX4_path_L21]
    refine pw_iload C dX4_path_21 rfl ?_
    refine pw_aload_n C dX4_path_23 rfl rfl ?_
    refine pw_getr (q2 := 6) C (hL 0 _ rfl) rfl (k := 3) (by decide) rfl fl_X4_23 dX4_path_24 ?_
    refine pw_callVt (as := []) (rest := [.int u4]) C dX4_path_27 ml_X4_91 cw_X0_cords im_X0_cords sl_X0_cords (hL 6 _ rfl) rfl ⟨by decide, by decide⟩ (c_X0_cords h 7 (hL 6 _ rfl) (hL 7 _ rfl)) rfl rfl (Nat.le_of_ble_eq_true rfl) ?_
    refine pm_icmp_ge (tgt := 95) C dX4_path_30 (by decide) (fun c2 => ?_) (fun c2 => ?_)
    · refine pw_aload_n C dX4_path_33 rfl rfl ?_
      refine pw_getr (q2 := 6) C (hL 0 _ rfl) rfl (k := 3) (by decide) rfl fl_X4_23 dX4_path_34 ?_
      refine pw_iload C dX4_path_37 rfl ?_
      refine pw_callVt (as := [.int u4]) (rest := []) C dX4_path_39 ml_X4_105 cw_X0_holderOf im_X0_holderOf sl_X0_holderOf (hL 6 _ rfl) rfl ⟨by decide, by decide⟩ (c_X0_holderOf h 7 u4 (hL 6 _ rfl) (hL 7 _ rfl)) rfl rfl (Nat.le_of_ble_eq_true rfl) ?_
      refine pw_istore (lv2 := [some (.ref (w.2.1 0)), some (.int a1), some (.int a2), some (.int u3), some (.int u4), some (.int (fX0_holderOf h 7 u4))]) C dX4_path_42 hN (by decide) rfl rfl ?_
      refine pw_iload C dX4_path_44 rfl ?_
      refine pw_bipush (v := (-4)) C dX4_path_46 (by decide) ?_
      refine pm_icmp_eq (tgt := 89) C dX4_path_48 (by decide) (fun c3 => ?_) (fun c3 => ?_)
      · refine pw_iinc (lv2 := [some (.ref (w.2.1 0)), some (.int a1), some (.int a2), some (.int u3), some (.int (u4 + 1)), some (.int (fX0_holderOf h 7 u4))]) C dX4_path_89 rfl rfl hN (by decide) rfl rfl ?_
        refine pw_goto (tgt := 21) C dX4_path_92 (by decide) ?_
        exact pw_lv (ih u3 (u4 + 1)) ⟨rfl, rfl, rfl, rfl, rfl, trivial⟩
      · refine pw_aload_n C dX4_path_51 rfl rfl ?_
        refine pw_getr (q2 := 6) C (hL 0 _ rfl) rfl (k := 3) (by decide) rfl fl_X4_23 dX4_path_52 ?_
        refine pw_iload C dX4_path_55 rfl ?_
        refine pw_callVt (as := [.int (fX0_holderOf h 7 u4)]) (rest := []) C dX4_path_57 ml_X4_98 cw_X0_colourOf im_X0_colourOf sl_X0_colourOf (hL 6 _ rfl) rfl ⟨by decide, by decide⟩ (c_X0_colourOf h 7 (fX0_holderOf h 7 u4) (hL 6 _ rfl) (hL 7 _ rfl)) rfl rfl (Nat.le_of_ble_eq_true rfl) ?_
        refine pw_iload_n C dX4_path_60 rfl rfl ?_
        refine pm_icmp_ne (tgt := 89) C dX4_path_61 (by decide) (fun c4 => ?_) (fun c4 => ?_)
        · refine pw_aload_n C dX4_path_64 rfl rfl ?_
          refine pw_getr (q2 := 6) C (hL 0 _ rfl) rfl (k := 3) (by decide) rfl fl_X4_23 dX4_path_65 ?_
          refine pw_iload C dX4_path_68 rfl ?_
          refine pw_callVt (as := [.int u4]) (rest := []) C dX4_path_70 ml_X4_98 cw_X0_colourOf im_X0_colourOf sl_X0_colourOf (hL 6 _ rfl) rfl ⟨by decide, by decide⟩ (c_X0_colourOf h 7 u4 (hL 6 _ rfl) (hL 7 _ rfl)) rfl rfl (Nat.le_of_ble_eq_true rfl) ?_
          refine pw_iload_n C dX4_path_73 rfl rfl ?_
          refine pm_icmp_ne (tgt := 89) C dX4_path_74 (by decide) (fun c5 => ?_) (fun c5 => ?_)
          · refine pw_iload_n C dX4_path_77 rfl rfl ?_
            refine pw_aload_n C dX4_path_78 rfl rfl ?_
            refine pw_getr (q2 := 6) C (hL 0 _ rfl) rfl (k := 3) (by decide) rfl fl_X4_23 dX4_path_79 ?_
            refine pw_iload C dX4_path_82 rfl ?_
            refine pm_callVp (as := [.int u4]) (rest := [.int u3]) C dX4_path_84 ml_X4_257 cw_X0_told im_X0_told sl_X0_told (hL 6 _ rfl) rfl ⟨by decide, by decide⟩ (c_X0_told N h 7 u4 (hL 6 _ rfl) (hL 7 _ rfl)) rfl rfl (Nat.le_of_ble_eq_true rfl) (fun v1 => ?_)
            refine pw_iadd C dX4_path_87 ?_
            refine pw_istore_n (lv2 := [some (.ref (w.2.1 0)), some (.int a1), some (.int a2), some (.int (u3 + v1)), some (.int u4), some (.int (fX0_holderOf h 7 u4))]) C dX4_path_88 rfl hN (by decide) rfl rfl ?_
            refine pw_iinc (lv2 := [some (.ref (w.2.1 0)), some (.int a1), some (.int a2), some (.int (u3 + v1)), some (.int (u4 + 1)), some (.int (fX0_holderOf h 7 u4))]) C dX4_path_89 rfl rfl hN (by decide) rfl rfl ?_
            refine pw_goto (tgt := 21) C dX4_path_92 (by decide) ?_
            exact pw_lv (ih (u3 + v1) (u4 + 1)) ⟨rfl, rfl, rfl, rfl, rfl, trivial⟩
          · refine pw_iinc (lv2 := [some (.ref (w.2.1 0)), some (.int a1), some (.int a2), some (.int u3), some (.int (u4 + 1)), some (.int (fX0_holderOf h 7 u4))]) C dX4_path_89 rfl rfl hN (by decide) rfl rfl ?_
            refine pw_goto (tgt := 21) C dX4_path_92 (by decide) ?_
            exact pw_lv (ih u3 (u4 + 1)) ⟨rfl, rfl, rfl, rfl, rfl, trivial⟩
        · refine pw_iinc (lv2 := [some (.ref (w.2.1 0)), some (.int a1), some (.int a2), some (.int u3), some (.int (u4 + 1)), some (.int (fX0_holderOf h 7 u4))]) C dX4_path_89 rfl rfl hN (by decide) rfl rfl ?_
          refine pw_goto (tgt := 21) C dX4_path_92 (by decide) ?_
          exact pw_lv (ih u3 (u4 + 1)) ⟨rfl, rfl, rfl, rfl, rfl, trivial⟩
    · refine pw_iload_n C dX4_path_95 rfl rfl ?_
      exact pm_iret C hR dX4_path_96
set_option maxRecDepth 100000 in
set_option maxHeartbeats 4000000 in
theorem c_X4_path {l : Launch} {w : Wd} {A : Nat → Prop} (N : Nat) (h : Hp) (a1 : Int32) (a2 : Int32) (hL : LX w) : ConI l yX4_path cX4_path 6 .int 4 w A [.ref (w.2.1 0), .int a1, .int a2] h (Option.map (fun v => (v, h)) (fX4_path N h a1 a2)) := by
  refine ConI.of (lv0 := [some (.ref (w.2.1 0)), some (.int a1), some (.int a2), none, none, none]) (by decide +kernel) (Nat.le_of_ble_eq_true rfl) rfl (fun x C hR hN => ?_)
  unfold fX4_path
  refine pw_iload_n C dX4_path_0 rfl rfl ?_
  refine pw_callSt (as := [.int a1]) (rest := []) C dX4_path_1 ml_X4_181 cw_X4_isColour st_X4_isColour ⟨by decide, by decide⟩ (c_X4_isColour h a1) rfl rfl (Nat.le_of_ble_eq_true rfl) ?_
  refine pm_if_eq (tgt := 14) C dX4_path_4 (by decide) (fun c6 => ?_) (fun c6 => ?_)
  · refine pw_iconst (v := (-1)) C dX4_path_14 (by decide) ?_
    exact pm_iret C hR dX4_path_15
  · refine pw_iload_n C dX4_path_7 rfl rfl ?_
    refine pw_callSt (as := [.int a2]) (rest := []) C dX4_path_8 ml_X4_181 cw_X4_isColour st_X4_isColour ⟨by decide, by decide⟩ (c_X4_isColour h a2) rfl rfl (Nat.le_of_ble_eq_true rfl) ?_
    refine pm_if_ne (tgt := 16) C dX4_path_11 (by decide) (fun c7 => ?_) (fun c7 => ?_)
    · refine pw_iconst (v := (-1)) C dX4_path_14 (by decide) ?_
      exact pm_iret C hR dX4_path_15
    · refine pw_iconst (v := 0) C dX4_path_16 (by decide) ?_
      refine pw_istore_n (lv2 := [some (.ref (w.2.1 0)), some (.int a1), some (.int a2), some (.int 0), none, none]) C dX4_path_17 rfl hN (by decide) rfl rfl ?_
      refine pw_iconst (v := 0) C dX4_path_18 (by decide) ?_
      refine pw_istore (lv2 := [some (.ref (w.2.1 0)), some (.int a1), some (.int a2), some (.int 0), some (.int 0), none]) C dX4_path_19 hN (by decide) rfl rfl ?_
      exact kX4_path_L21 C hR hN N h a1 a2 hL N 0 0
set_option maxRecDepth 100000 in
set_option maxHeartbeats 4000000 in
theorem kX4_same_J149 {w : Wd} {x : Cz} (C : Ok w x cX4_same RX4 4) (hR : OkI w x .int) (hN : xN x = 7) (N : Nat) (h : Hp) (a1 : Int32) (a2 : Int32) (hL : LX w)  : ∀ (u4 : Int32), PW w x 149 [none, none, none, none, some (.int u4), none, none] [] h (Option.map (fun v => (v, h)) (fX4_same_J149 N h a1 a2 u4)) := by
  intro u4
  unfold fX4_same_J149
  refine pw_iload C dX4_same_149 rfl ?_
  refine pm_if_eq (tgt := 158) C dX4_same_151 (by decide) (fun c5 => ?_) (fun c5 => ?_)
  · refine pw_iconst (v := 0) C dX4_same_158 (by decide) ?_
    exact pm_iret C hR dX4_same_159
  · refine pw_iconst (v := 1) C dX4_same_154 (by decide) ?_
    refine pw_goto (tgt := 159) C dX4_same_155 (by decide) ?_
    exact pm_iret C hR dX4_same_159
set_option maxRecDepth 100000 in
set_option maxHeartbeats 4000000 in
theorem kX4_same_L79 {w : Wd} {x : Cz} (C : Ok w x cX4_same RX4 4) (hR : OkI w x .int) (hN : xN x = 7) (N : Nat) (h : Hp) (a1 : Int32) (a2 : Int32) (hL : LX w)  : ∀ (n : Nat) (u3 : Int32) (u4 : Int32) (u5 : Int32) (u6 : Int32), PW w x 79 [some (.ref (w.2.1 0)), some (.int a1), some (.int a2), some (.int u3), some (.int u4), some (.int u5), some (.int u6)] [] h (Option.map (fun v => (v, h)) (fX4_same_L79 N h a1 a2 n u3 u4 u5 u6)) := by
  intro n
  induction n with
  | zero => intro u3 u4 u5 u6; rw [fX4_same_L79]; exact pw_none
  | succ n ih =>
    intro u3 u4 u5 u6
    rw [fX4_same_L79]
    refine pw_iload C dX4_same_79 rfl ?_
    refine pm_if_eq (tgt := 149) C dX4_same_81 (by decide) (fun c6 => ?_) (fun c6 => ?_)
    · exact pw_lv (kX4_same_J149 C hR hN N h a1 a2 hL u4) ⟨rfl, trivial⟩
    · refine pw_iload C dX4_same_84 rfl ?_
      refine pw_iload_n C dX4_same_86 rfl rfl ?_
      refine pm_icmp_ge (tgt := 149) C dX4_same_87 (by decide) (fun c7 => ?_) (fun c7 => ?_)
      · refine pw_aload_n C dX4_same_90 rfl rfl ?_
        refine pw_getr (q2 := 6) C (hL 0 _ rfl) rfl (k := 3) (by decide) rfl fl_X4_23 dX4_same_91 ?_
        refine pw_iload_n C dX4_same_94 rfl rfl ?_
        refine pw_iload C dX4_same_95 rfl ?_
        refine pw_iadd C dX4_same_97 ?_
        refine pw_iload_n C dX4_same_98 rfl rfl ?_
        refine pw_iload C dX4_same_99 rfl ?_
        refine pw_iadd C dX4_same_101 ?_
        refine pm_callVp (as := [.int (a1 + u6), .int (a2 + u6)]) (rest := []) C dX4_same_102 ml_X4_263 cw_X0_looksLike im_X0_looksLike sl_X0_looksLike (hL 6 _ rfl) rfl ⟨by decide, by decide⟩ (c_X0_looksLike N h 7 (a1 + u6) (a2 + u6) (hL 6 _ rfl) (hL 7 _ rfl)) rfl rfl (Nat.le_of_ble_eq_true rfl) (fun v4 => ?_)
        refine PW.eq (apply_ite (fun z_ => Option.map (fun v => (v, h)) (fX4_same_L79 N h a1 a2 n u3 z_ u5 (u6 + 1))) _ _ _) ?_
        refine pw_if_eq (tgt := 140) C dX4_same_105 (by decide) (fun c8 => ?_) (fun c8 => ?_)
        · refine pw_iconst (v := 0) C dX4_same_140 (by decide) ?_
          refine pw_istore (lv2 := [some (.ref (w.2.1 0)), some (.int a1), some (.int a2), some (.int u3), some (.int 0), some (.int u5), some (.int u6)]) C dX4_same_141 hN (by decide) rfl rfl ?_
          refine pw_iinc (lv2 := [some (.ref (w.2.1 0)), some (.int a1), some (.int a2), some (.int u3), some (.int 0), some (.int u5), some (.int (u6 + 1))]) C dX4_same_143 rfl rfl hN (by decide) rfl rfl ?_
          refine pw_goto (tgt := 79) C dX4_same_146 (by decide) ?_
          exact ih u3 0 u5 (u6 + 1)
        · refine pw_aload_n C dX4_same_108 rfl rfl ?_
          refine pw_getr (q2 := 6) C (hL 0 _ rfl) rfl (k := 3) (by decide) rfl fl_X4_23 dX4_same_109 ?_
          refine pw_iload_n C dX4_same_112 rfl rfl ?_
          refine pw_iload C dX4_same_113 rfl ?_
          refine pw_iadd C dX4_same_115 ?_
          refine pw_callVt (as := [.int (a2 + u6)]) (rest := []) C dX4_same_116 ml_X4_111 cw_X0_depthOf im_X0_depthOf sl_X0_depthOf (hL 6 _ rfl) rfl ⟨by decide, by decide⟩ (c_X0_depthOf h 7 (a2 + u6) (hL 6 _ rfl) (hL 7 _ rfl)) rfl rfl (Nat.le_of_ble_eq_true rfl) ?_
          refine pw_aload_n C dX4_same_119 rfl rfl ?_
          refine pw_getr (q2 := 6) C (hL 0 _ rfl) rfl (k := 3) (by decide) rfl fl_X4_23 dX4_same_120 ?_
          refine pw_iload_n C dX4_same_123 rfl rfl ?_
          refine pw_iload C dX4_same_124 rfl ?_
          refine pw_iadd C dX4_same_126 ?_
          refine pw_callVt (as := [.int (a1 + u6)]) (rest := [.int (fX0_depthOf h 7 (a2 + u6))]) C dX4_same_127 ml_X4_111 cw_X0_depthOf im_X0_depthOf sl_X0_depthOf (hL 6 _ rfl) rfl ⟨by decide, by decide⟩ (c_X0_depthOf h 7 (a1 + u6) (hL 6 _ rfl) (hL 7 _ rfl)) rfl rfl (Nat.le_of_ble_eq_true rfl) ?_
          refine pw_isub C dX4_same_130 ?_
          refine pw_iload C dX4_same_131 rfl ?_
          refine PW.eq (apply_ite (fun z_ => Option.map (fun v => (v, h)) (fX4_same_L79 N h a1 a2 n u3 z_ u5 (u6 + 1))) _ _ _) ?_
          refine pw_icmp_ne (tgt := 140) C dX4_same_133 (by decide) (fun c9 => ?_) (fun c9 => ?_)
          · refine pw_iconst (v := 1) C dX4_same_136 (by decide) ?_
            refine pw_goto (tgt := 141) C dX4_same_137 (by decide) ?_
            refine pw_istore (lv2 := [some (.ref (w.2.1 0)), some (.int a1), some (.int a2), some (.int u3), some (.int 1), some (.int u5), some (.int u6)]) C dX4_same_141 hN (by decide) rfl rfl ?_
            refine pw_iinc (lv2 := [some (.ref (w.2.1 0)), some (.int a1), some (.int a2), some (.int u3), some (.int 1), some (.int u5), some (.int (u6 + 1))]) C dX4_same_143 rfl rfl hN (by decide) rfl rfl ?_
            refine pw_goto (tgt := 79) C dX4_same_146 (by decide) ?_
            exact ih u3 1 u5 (u6 + 1)
          · refine pw_iconst (v := 0) C dX4_same_140 (by decide) ?_
            refine pw_istore (lv2 := [some (.ref (w.2.1 0)), some (.int a1), some (.int a2), some (.int u3), some (.int 0), some (.int u5), some (.int u6)]) C dX4_same_141 hN (by decide) rfl rfl ?_
            refine pw_iinc (lv2 := [some (.ref (w.2.1 0)), some (.int a1), some (.int a2), some (.int u3), some (.int 0), some (.int u5), some (.int (u6 + 1))]) C dX4_same_143 rfl rfl hN (by decide) rfl rfl ?_
            refine pw_goto (tgt := 79) C dX4_same_146 (by decide) ?_
            exact ih u3 0 u5 (u6 + 1)
      · exact pw_lv (kX4_same_J149 C hR hN N h a1 a2 hL u4) ⟨rfl, trivial⟩
set_option maxRecDepth 100000 in
set_option maxHeartbeats 4000000 in
theorem kX4_same_J55 {w : Wd} {x : Cz} (C : Ok w x cX4_same RX4 4) (hR : OkI w x .int) (hN : xN x = 7) (N : Nat) (h : Hp) (a1 : Int32) (a2 : Int32) (hL : LX w)  : ∀ (u3 : Int32) (t0 : Int32), PW w x 55 [some (.ref (w.2.1 0)), some (.int a1), some (.int a2), some (.int u3), none, none, none] [.int t0] h (Option.map (fun v => (v, h)) (fX4_same_J55 N h a1 a2 u3 t0)) := by
  intro u3 t0
  unfold fX4_same_J55
  refine pw_istore (lv2 := [some (.ref (w.2.1 0)), some (.int a1), some (.int a2), some (.int u3), some (.int t0), none, none]) C dX4_same_55 hN (by decide) rfl rfl ?_
  refine pw_aload_n C dX4_same_57 rfl rfl ?_
  refine pw_getr (q2 := 6) C (hL 0 _ rfl) rfl (k := 3) (by decide) rfl fl_X4_23 dX4_same_58 ?_
  refine pw_iload_n C dX4_same_61 rfl rfl ?_
  refine pw_callVt (as := [.int a2]) (rest := []) C dX4_same_62 ml_X4_111 cw_X0_depthOf im_X0_depthOf sl_X0_depthOf (hL 6 _ rfl) rfl ⟨by decide, by decide⟩ (c_X0_depthOf h 7 a2 (hL 6 _ rfl) (hL 7 _ rfl)) rfl rfl (Nat.le_of_ble_eq_true rfl) ?_
  refine pw_aload_n C dX4_same_65 rfl rfl ?_
  refine pw_getr (q2 := 6) C (hL 0 _ rfl) rfl (k := 3) (by decide) rfl fl_X4_23 dX4_same_66 ?_
  refine pw_iload_n C dX4_same_69 rfl rfl ?_
  refine pw_callVt (as := [.int a1]) (rest := [.int (fX0_depthOf h 7 a2)]) C dX4_same_70 ml_X4_111 cw_X0_depthOf im_X0_depthOf sl_X0_depthOf (hL 6 _ rfl) rfl ⟨by decide, by decide⟩ (c_X0_depthOf h 7 a1 (hL 6 _ rfl) (hL 7 _ rfl)) rfl rfl (Nat.le_of_ble_eq_true rfl) ?_
  refine pw_isub C dX4_same_73 ?_
  refine pm_name (fun v3 => ?_)
  refine pw_istore (lv2 := [some (.ref (w.2.1 0)), some (.int a1), some (.int a2), some (.int u3), some (.int t0), some (.int v3), none]) C dX4_same_74 hN (by decide) rfl rfl ?_
  refine pw_iconst (v := 0) C dX4_same_76 (by decide) ?_
  refine pw_istore (lv2 := [some (.ref (w.2.1 0)), some (.int a1), some (.int a2), some (.int u3), some (.int t0), some (.int v3), some (.int 0)]) C dX4_same_77 hN (by decide) rfl rfl ?_
  exact kX4_same_L79 C hR hN N h a1 a2 hL N u3 t0 v3 0
set_option maxRecDepth 100000 in
set_option maxHeartbeats 4000000 in
theorem c_X4_same {l : Launch} {w : Wd} {A : Nat → Prop} (N : Nat) (h : Hp) (a1 : Int32) (a2 : Int32) (hL : LX w) : ConI l yX4_same cX4_same 7 .int 4 w A [.ref (w.2.1 0), .int a1, .int a2] h (Option.map (fun v => (v, h)) (fX4_same N h a1 a2)) := by
  refine ConI.of (lv0 := [some (.ref (w.2.1 0)), some (.int a1), some (.int a2), none, none, none, none]) (by decide +kernel) (Nat.le_of_ble_eq_true rfl) rfl (fun x C hR hN => ?_)
  unfold fX4_same
  refine pw_aload_n C dX4_same_0 rfl rfl ?_
  refine pw_getr (q2 := 6) C (hL 0 _ rfl) rfl (k := 3) (by decide) rfl fl_X4_23 dX4_same_1 ?_
  refine pw_iload_n C dX4_same_4 rfl rfl ?_
  refine pw_callVt (as := [.int a1]) (rest := []) C dX4_same_5 ml_X4_94 cw_X0_hasCord im_X0_hasCord sl_X0_hasCord (hL 6 _ rfl) rfl ⟨by decide, by decide⟩ (c_X0_hasCord h 7 a1 (hL 6 _ rfl) (hL 7 _ rfl)) rfl rfl (Nat.le_of_ble_eq_true rfl) ?_
  refine pm_if_eq (tgt := 27) C dX4_same_8 (by decide) (fun c10 => ?_) (fun c10 => ?_)
  · refine pw_iconst (v := (-1)) C dX4_same_27 (by decide) ?_
    exact pm_iret C hR dX4_same_28
  · refine pw_aload_n C dX4_same_11 rfl rfl ?_
    refine pw_getr (q2 := 6) C (hL 0 _ rfl) rfl (k := 3) (by decide) rfl fl_X4_23 dX4_same_12 ?_
    refine pw_iload_n C dX4_same_15 rfl rfl ?_
    refine pw_callVt (as := [.int a2]) (rest := []) C dX4_same_16 ml_X4_94 cw_X0_hasCord im_X0_hasCord sl_X0_hasCord (hL 6 _ rfl) rfl ⟨by decide, by decide⟩ (c_X0_hasCord h 7 a2 (hL 6 _ rfl) (hL 7 _ rfl)) rfl rfl (Nat.le_of_ble_eq_true rfl) ?_
    refine pm_if_eq (tgt := 27) C dX4_same_19 (by decide) (fun c11 => ?_) (fun c11 => ?_)
    · refine pw_iconst (v := (-1)) C dX4_same_27 (by decide) ?_
      exact pm_iret C hR dX4_same_28
    · refine pw_iload_n C dX4_same_22 rfl rfl ?_
      refine pw_iload_n C dX4_same_23 rfl rfl ?_
      refine pm_icmp_ne (tgt := 29) C dX4_same_24 (by decide) (fun c12 => ?_) (fun c12 => ?_)
      · refine pw_iconst (v := (-1)) C dX4_same_27 (by decide) ?_
        exact pm_iret C hR dX4_same_28
      · refine pw_aload_n C dX4_same_29 rfl rfl ?_
        refine pw_getr (q2 := 6) C (hL 0 _ rfl) rfl (k := 3) (by decide) rfl fl_X4_23 dX4_same_30 ?_
        refine pw_iload_n C dX4_same_33 rfl rfl ?_
        refine pm_callVp (as := [.int a1]) (rest := []) C dX4_same_34 ml_X4_260 cw_X0_cordsFrom im_X0_cordsFrom sl_X0_cordsFrom (hL 6 _ rfl) rfl ⟨by decide, by decide⟩ (c_X0_cordsFrom N h 7 a1 (hL 6 _ rfl) (hL 7 _ rfl)) rfl rfl (Nat.le_of_ble_eq_true rfl) (fun v1 => ?_)
        refine pw_istore_n (lv2 := [some (.ref (w.2.1 0)), some (.int a1), some (.int a2), some (.int v1), none, none, none]) C dX4_same_37 rfl hN (by decide) rfl rfl ?_
        refine pw_iload_n C dX4_same_38 rfl rfl ?_
        refine pw_aload_n C dX4_same_39 rfl rfl ?_
        refine pw_getr (q2 := 6) C (hL 0 _ rfl) rfl (k := 3) (by decide) rfl fl_X4_23 dX4_same_40 ?_
        refine pw_iload_n C dX4_same_43 rfl rfl ?_
        refine pm_callVp (as := [.int a2]) (rest := [.int v1]) C dX4_same_44 ml_X4_260 cw_X0_cordsFrom im_X0_cordsFrom sl_X0_cordsFrom (hL 6 _ rfl) rfl ⟨by decide, by decide⟩ (c_X0_cordsFrom N h 7 a2 (hL 6 _ rfl) (hL 7 _ rfl)) rfl rfl (Nat.le_of_ble_eq_true rfl) (fun v2 => ?_)
        refine PW.eq (apply_ite (fun z_ => Option.map (fun v => (v, h)) (fX4_same_J55 N h a1 a2 v1 z_)) _ _ _) ?_
        refine pw_icmp_ne (tgt := 54) C dX4_same_47 (by decide) (fun c13 => ?_) (fun c13 => ?_)
        · refine pw_iconst (v := 1) C dX4_same_50 (by decide) ?_
          refine pw_goto (tgt := 55) C dX4_same_51 (by decide) ?_
          exact kX4_same_J55 C hR hN N h a1 a2 hL v1 1
        · refine pw_iconst (v := 0) C dX4_same_54 (by decide) ?_
          exact kX4_same_J55 C hR hN N h a1 a2 hL v1 0
