set_option maxRecDepth 100000 in
set_option maxHeartbeats 4000000 in
theorem c_X0_becomeAs {l : Launch} {w : Wd} {A : Nat → Prop} {b : Nat} (h : Hp) (r : Nat) (q1 n1 : Nat) (hb : w.2.2.1[b]? = some (0, 0, [r + 2])) (hr : w.2.2.1[r]? = some (1, 179, [])) (hq1 : w.2.2.1[q1]? = some (1, n1, [])) : ConV l yX0_becomeAs cX0_becomeAs 2 2 w A [.ref (w.2.1 b), .ref (w.2.1 q1)] h ((fX0_becomeAs h r q1 n1)) := by
  refine ConV.of (lv0 := [some (.ref (w.2.1 b)), some (.ref (w.2.1 q1))]) (by decide +kernel) (Nat.le_of_ble_eq_true rfl) rfl (fun x C hR hN => ?_)
  unfold fX0_becomeAs
  refine pw_aload_n C dX0_becomeAs_0 rfl rfl ?_
  refine pw_iconst (v := 0) C dX0_becomeAs_1 (by decide) ?_
  refine pw_aload_n C dX0_becomeAs_2 rfl rfl ?_
  refine pw_getr (q2 := r) C hb rfl (k := 0) (by decide) rfl fl_X0_11 dX0_becomeAs_3 ?_
  refine pw_iconst (v := 0) C dX0_becomeAs_6 (by decide) ?_
  refine pw_callSNvq (host := "ToldInKnots") (as := [.ref (w.2.1 q1), .int 0, .ref (w.2.1 r), .int 0]) (rest := []) C dX0_becomeAs_7 (by decide +kernel) cw_X4_copyRow st_X4_copyRow ⟨by decide, by decide⟩ (c_X4_copyRow h q1 n1 0 r 179 0 hq1 hr) rfl rfl (Nat.le_of_ble_eq_true rfl) (fun z1 => ?_)
  exact pw_vret C hR dX0_becomeAs_10
set_option maxRecDepth 100000 in
set_option maxHeartbeats 4000000 in
theorem c_X0_hasCord {l : Launch} {w : Wd} {A : Nat → Prop} {b : Nat} (h : Hp) (r : Nat) (a1 : Int32) (hb : w.2.2.1[b]? = some (0, 0, [r + 2])) (hr : w.2.2.1[r]? = some (1, 179, [])) : ConI l yX0_hasCord cX0_hasCord 2 .boolean 2 w A [.ref (w.2.1 b), .int a1] h (some ((fX0_hasCord h r a1), h)) := by
  refine ConI.of (lv0 := [some (.ref (w.2.1 b)), some (.int a1)]) (by decide +kernel) (Nat.le_of_ble_eq_true rfl) rfl (fun x C hR hN => ?_)
  unfold fX0_hasCord
  refine pw_iload_n C dX0_hasCord_0 rfl rfl ?_
  refine pt_if_lt (tgt := 16) C dX0_hasCord_1 (by decide) (fun c1 => ?_) (fun c1 => ?_)
  · refine pw_iconst (v := 0) C dX0_hasCord_16 (by decide) ?_
    exact pt_zret' C hR dX0_hasCord_17 (by decide)
  · refine pw_iload_n C dX0_hasCord_4 rfl rfl ?_
    refine pw_aload_n C dX0_hasCord_5 rfl rfl ?_
    refine pw_callVt (as := []) (rest := [.int a1]) C dX0_hasCord_6 ml_X0_29 cw_X0_cords im_X0_cords sl_X0_cords hb rfl ⟨by decide, by decide⟩ (c_X0_cords h r hb hr) rfl rfl (Nat.le_of_ble_eq_true rfl) ?_
    refine pt_icmp_ge (tgt := 16) C dX0_hasCord_9 (by decide) (fun c2 => ?_) (fun c2 => ?_)
    · refine pw_iconst (v := 1) C dX0_hasCord_12 (by decide) ?_
      refine pw_goto (tgt := 17) C dX0_hasCord_13 (by decide) ?_
      exact pt_zret' C hR dX0_hasCord_17 (by decide)
    · refine pw_iconst (v := 0) C dX0_hasCord_16 (by decide) ?_
      exact pt_zret' C hR dX0_hasCord_17 (by decide)
set_option maxRecDepth 100000 in
set_option maxHeartbeats 4000000 in
theorem c_X0_hasGroup {l : Launch} {w : Wd} {A : Nat → Prop} {b : Nat} (h : Hp) (r : Nat) (a1 : Int32) (hb : w.2.2.1[b]? = some (0, 0, [r + 2])) (hr : w.2.2.1[r]? = some (1, 179, [])) : ConI l yX0_hasGroup cX0_hasGroup 2 .boolean 2 w A [.ref (w.2.1 b), .int a1] h (some ((fX0_hasGroup h r a1), h)) := by
  refine ConI.of (lv0 := [some (.ref (w.2.1 b)), some (.int a1)]) (by decide +kernel) (Nat.le_of_ble_eq_true rfl) rfl (fun x C hR hN => ?_)
  unfold fX0_hasGroup
  refine pw_iload_n C dX0_hasGroup_0 rfl rfl ?_
  refine pt_if_lt (tgt := 16) C dX0_hasGroup_1 (by decide) (fun c1 => ?_) (fun c1 => ?_)
  · refine pw_iconst (v := 0) C dX0_hasGroup_16 (by decide) ?_
    exact pt_zret' C hR dX0_hasGroup_17 (by decide)
  · refine pw_iload_n C dX0_hasGroup_4 rfl rfl ?_
    refine pw_aload_n C dX0_hasGroup_5 rfl rfl ?_
    refine pw_callVt (as := []) (rest := [.int a1]) C dX0_hasGroup_6 ml_X0_41 cw_X0_groups im_X0_groups sl_X0_groups hb rfl ⟨by decide, by decide⟩ (c_X0_groups h r hb hr) rfl rfl (Nat.le_of_ble_eq_true rfl) ?_
    refine pt_icmp_ge (tgt := 16) C dX0_hasGroup_9 (by decide) (fun c2 => ?_) (fun c2 => ?_)
    · refine pw_iconst (v := 1) C dX0_hasGroup_12 (by decide) ?_
      refine pw_goto (tgt := 17) C dX0_hasGroup_13 (by decide) ?_
      exact pt_zret' C hR dX0_hasGroup_17 (by decide)
    · refine pw_iconst (v := 0) C dX0_hasGroup_16 (by decide) ?_
      exact pt_zret' C hR dX0_hasGroup_17 (by decide)
set_option maxRecDepth 100000 in
set_option maxHeartbeats 4000000 in
theorem kX0_valueOf_L4 {w : Wd} {x : Cz} {b : Nat} (C : Ok w x cX0_valueOf RX0 2) (hR : OkI w x .int) (hN : xN x = 5) (N : Nat) (h : Hp) (r : Nat) (a1 : Int32) (hb : w.2.2.1[b]? = some (0, 0, [r + 2])) (hr : w.2.2.1[r]? = some (1, 179, []))  : ∀ (n : Nat) (u2 : Int32) (u3 : Int32), PW w x 4 [some (.ref (w.2.1 b)), some (.int a1), some (.int u2), some (.int u3), none] [] h (Option.map (fun v => (v, h)) (fX0_valueOf_L4 N h r a1 n u2 u3)) := by
  intro n
  induction n with
  | zero => intro u2 u3; rw [fX0_valueOf_L4]; exact pw_none
  | succ n ih =>
    intro u2 u3
    rw [fX0_valueOf_L4]
    refine pw_iload_n C dX0_valueOf_4 rfl rfl ?_
    refine pw_aload_n C dX0_valueOf_5 rfl rfl ?_
    refine pw_iload_n C dX0_valueOf_6 rfl rfl ?_
    refine pw_callVt (as := [.int a1]) (rest := [.int u3]) C dX0_valueOf_7 ml_X0_37 cw_X0_sizeOf im_X0_sizeOf sl_X0_sizeOf hb rfl ⟨by decide, by decide⟩ (c_X0_sizeOf h r a1 hb hr) rfl rfl (Nat.le_of_ble_eq_true rfl) ?_
    refine pm_icmp_ge (tgt := 52) C dX0_valueOf_10 (by decide) (fun c2 => ?_) (fun c2 => ?_)
    · refine pw_aload_n C dX0_valueOf_13 rfl rfl ?_
      refine pw_iload_n C dX0_valueOf_14 rfl rfl ?_
      refine pw_iload_n C dX0_valueOf_15 rfl rfl ?_
      refine pw_callVt (as := [.int a1, .int u3]) (rest := []) C dX0_valueOf_16 ml_X0_48 cw_X0_codeOf im_X0_codeOf sl_X0_codeOf hb rfl ⟨by decide, by decide⟩ (c_X0_codeOf h r a1 u3 hb hr) rfl rfl (Nat.le_of_ble_eq_true rfl) ?_
      refine pw_istore (lv2 := [some (.ref (w.2.1 b)), some (.int a1), some (.int u2), some (.int u3), some (.int (fX0_codeOf h r a1 u3))]) C dX0_valueOf_19 hN (by decide) rfl rfl ?_
      refine pw_iload C dX0_valueOf_21 rfl ?_
      refine pw_iload_n C dX0_valueOf_23 rfl rfl ?_
      refine pw_callSNt (host := "ToldInKnots") (as := [.int (fX0_codeOf h r a1 u3), .int u3]) (rest := []) C dX0_valueOf_24 (by decide +kernel) cw_X4_isWellPlaced st_X4_isWellPlaced ⟨by decide, by decide⟩ (c_X4_isWellPlaced h (fX0_codeOf h r a1 u3) u3) rfl rfl (Nat.le_of_ble_eq_true rfl) ?_
      refine pm_if_ne (tgt := 33) C dX0_valueOf_27 (by decide) (fun c3 => ?_) (fun c3 => ?_)
      · refine pw_bipush (v := (-4)) C dX0_valueOf_30 (by decide) ?_
        exact pm_iret C hR dX0_valueOf_32
      · refine pw_iload_n C dX0_valueOf_33 rfl rfl ?_
        refine pw_iload C dX0_valueOf_34 rfl ?_
        refine pw_callSNt (host := "ToldInKnots") (as := [.int (fX0_codeOf h r a1 u3)]) (rest := [.int u2]) C dX0_valueOf_36 (by decide +kernel) cw_X4_countOf st_X4_countOf ⟨by decide, by decide⟩ (c_X4_countOf h (fX0_codeOf h r a1 u3)) rfl rfl (Nat.le_of_ble_eq_true rfl) ?_
        refine pw_iload_n C dX0_valueOf_39 rfl rfl ?_
        refine pw_callSNt (host := "ToldInKnots") (as := [.int u3]) (rest := [.int (fX4_countOf h (fX0_codeOf h r a1 u3)), .int u2]) C dX0_valueOf_40 (by decide +kernel) cw_X4_tens st_X4_tens ⟨by decide, by decide⟩ (c_X4_tens h u3) rfl rfl (Nat.le_of_ble_eq_true rfl) ?_
        refine pw_imul C dX0_valueOf_43 ?_
        refine pw_iadd C dX0_valueOf_44 ?_
        refine pm_name (fun v1 => ?_)
        refine pw_istore_n (lv2 := [some (.ref (w.2.1 b)), some (.int a1), some (.int v1), some (.int u3), some (.int (fX0_codeOf h r a1 u3))]) C dX0_valueOf_45 rfl hN (by decide) rfl rfl ?_
        refine pw_iinc (lv2 := [some (.ref (w.2.1 b)), some (.int a1), some (.int v1), some (.int (u3 + 1)), some (.int (fX0_codeOf h r a1 u3))]) C dX0_valueOf_46 rfl rfl hN (by decide) rfl rfl ?_
        refine pw_goto (tgt := 4) C dX0_valueOf_49 (by decide) ?_
        exact pw_lv (ih v1 (u3 + 1)) ⟨rfl, rfl, rfl, rfl, trivial⟩
    · refine pw_iload_n C dX0_valueOf_52 rfl rfl ?_
      exact pm_iret C hR dX0_valueOf_53
set_option maxRecDepth 100000 in
set_option maxHeartbeats 4000000 in
theorem c_X0_valueOf {l : Launch} {w : Wd} {A : Nat → Prop} {b : Nat} (N : Nat) (h : Hp) (r : Nat) (a1 : Int32) (hb : w.2.2.1[b]? = some (0, 0, [r + 2])) (hr : w.2.2.1[r]? = some (1, 179, [])) : ConI l yX0_valueOf cX0_valueOf 5 .int 2 w A [.ref (w.2.1 b), .int a1] h (Option.map (fun v => (v, h)) (fX0_valueOf N h r a1)) := by
  refine ConI.of (lv0 := [some (.ref (w.2.1 b)), some (.int a1), none, none, none]) (by decide +kernel) (Nat.le_of_ble_eq_true rfl) rfl (fun x C hR hN => ?_)
  unfold fX0_valueOf
  refine pw_iconst (v := 0) C dX0_valueOf_0 (by decide) ?_
  refine pw_istore_n (lv2 := [some (.ref (w.2.1 b)), some (.int a1), some (.int 0), none, none]) C dX0_valueOf_1 rfl hN (by decide) rfl rfl ?_
  refine pw_iconst (v := 0) C dX0_valueOf_2 (by decide) ?_
  refine pw_istore_n (lv2 := [some (.ref (w.2.1 b)), some (.int a1), some (.int 0), some (.int 0), none]) C dX0_valueOf_3 rfl hN (by decide) rfl rfl ?_
  exact kX0_valueOf_L4 C hR hN N h r a1 hb hr N 0 0
set_option maxRecDepth 100000 in
set_option maxHeartbeats 4000000 in
theorem kX0_valueFromOtherEnd_L11 {w : Wd} {x : Cz} {b : Nat} (C : Ok w x cX0_valueFromOtherEnd RX0 2) (hR : OkI w x .int) (hN : xN x = 6) (N : Nat) (h : Hp) (r : Nat) (a1 : Int32) (hb : w.2.2.1[b]? = some (0, 0, [r + 2])) (hr : w.2.2.1[r]? = some (1, 179, []))  : ∀ (n : Nat) (u2 : Int32) (u3 : Int32) (u4 : Int32), PW w x 11 [some (.ref (w.2.1 b)), some (.int a1), some (.int u2), some (.int u3), some (.int u4), none] [] h (Option.map (fun v => (v, h)) (fX0_valueFromOtherEnd_L11 N h r a1 n u2 u3 u4)) := by
  intro n
  induction n with
  | zero => intro u2 u3 u4; rw [fX0_valueFromOtherEnd_L11]; exact pw_none
  | succ n ih =>
    intro u2 u3 u4
    rw [fX0_valueFromOtherEnd_L11]
    refine pw_iload C dX0_valueFromOtherEnd_11 rfl ?_
    refine pw_iload_n C dX0_valueFromOtherEnd_13 rfl rfl ?_
    refine pm_icmp_ge (tgt := 63) C dX0_valueFromOtherEnd_14 (by decide) (fun c3 => ?_) (fun c3 => ?_)
    · refine pw_aload_n C dX0_valueFromOtherEnd_17 rfl rfl ?_
      refine pw_iload_n C dX0_valueFromOtherEnd_18 rfl rfl ?_
      refine pw_iload_n C dX0_valueFromOtherEnd_19 rfl rfl ?_
      refine pw_iconst (v := 1) C dX0_valueFromOtherEnd_20 (by decide) ?_
      refine pw_isub C dX0_valueFromOtherEnd_21 ?_
      refine pw_iload C dX0_valueFromOtherEnd_22 rfl ?_
      refine pw_isub C dX0_valueFromOtherEnd_24 ?_
      refine pw_callVt (as := [.int a1, .int ((u3 - 1) - u4)]) (rest := []) C dX0_valueFromOtherEnd_25 ml_X0_48 cw_X0_codeOf im_X0_codeOf sl_X0_codeOf hb rfl ⟨by decide, by decide⟩ (c_X0_codeOf h r a1 ((u3 - 1) - u4) hb hr) rfl rfl (Nat.le_of_ble_eq_true rfl) ?_
      refine pm_name (fun v1 => ?_)
      refine pw_istore (lv2 := [some (.ref (w.2.1 b)), some (.int a1), some (.int u2), some (.int u3), some (.int u4), some (.int v1)]) C dX0_valueFromOtherEnd_28 hN (by decide) rfl rfl ?_
      refine pw_iload C dX0_valueFromOtherEnd_30 rfl ?_
      refine pw_iload C dX0_valueFromOtherEnd_32 rfl ?_
      refine pw_callSNt (host := "ToldInKnots") (as := [.int v1, .int u4]) (rest := []) C dX0_valueFromOtherEnd_34 (by decide +kernel) cw_X4_isWellPlaced st_X4_isWellPlaced ⟨by decide, by decide⟩ (c_X4_isWellPlaced h v1 u4) rfl rfl (Nat.le_of_ble_eq_true rfl) ?_
      refine pm_if_ne (tgt := 43) C dX0_valueFromOtherEnd_37 (by decide) (fun c4 => ?_) (fun c4 => ?_)
      · refine pw_bipush (v := (-4)) C dX0_valueFromOtherEnd_40 (by decide) ?_
        exact pm_iret C hR dX0_valueFromOtherEnd_42
      · refine pw_iload_n C dX0_valueFromOtherEnd_43 rfl rfl ?_
        refine pw_iload C dX0_valueFromOtherEnd_44 rfl ?_
        refine pw_callSNt (host := "ToldInKnots") (as := [.int v1]) (rest := [.int u2]) C dX0_valueFromOtherEnd_46 (by decide +kernel) cw_X4_countOf st_X4_countOf ⟨by decide, by decide⟩ (c_X4_countOf h v1) rfl rfl (Nat.le_of_ble_eq_true rfl) ?_
        refine pw_iload C dX0_valueFromOtherEnd_49 rfl ?_
        refine pw_callSNt (host := "ToldInKnots") (as := [.int u4]) (rest := [.int (fX4_countOf h v1), .int u2]) C dX0_valueFromOtherEnd_51 (by decide +kernel) cw_X4_tens st_X4_tens ⟨by decide, by decide⟩ (c_X4_tens h u4) rfl rfl (Nat.le_of_ble_eq_true rfl) ?_
        refine pw_imul C dX0_valueFromOtherEnd_54 ?_
        refine pw_iadd C dX0_valueFromOtherEnd_55 ?_
        refine pm_name (fun v2 => ?_)
        refine pw_istore_n (lv2 := [some (.ref (w.2.1 b)), some (.int a1), some (.int v2), some (.int u3), some (.int u4), some (.int v1)]) C dX0_valueFromOtherEnd_56 rfl hN (by decide) rfl rfl ?_
        refine pw_iinc (lv2 := [some (.ref (w.2.1 b)), some (.int a1), some (.int v2), some (.int u3), some (.int (u4 + 1)), some (.int v1)]) C dX0_valueFromOtherEnd_57 rfl rfl hN (by decide) rfl rfl ?_
        refine pw_goto (tgt := 11) C dX0_valueFromOtherEnd_60 (by decide) ?_
        exact pw_lv (ih v2 u3 (u4 + 1)) ⟨rfl, rfl, rfl, rfl, rfl, trivial⟩
    · refine pw_iload_n C dX0_valueFromOtherEnd_63 rfl rfl ?_
      exact pm_iret C hR dX0_valueFromOtherEnd_64
set_option maxRecDepth 100000 in
set_option maxHeartbeats 4000000 in
theorem c_X0_valueFromOtherEnd {l : Launch} {w : Wd} {A : Nat → Prop} {b : Nat} (N : Nat) (h : Hp) (r : Nat) (a1 : Int32) (hb : w.2.2.1[b]? = some (0, 0, [r + 2])) (hr : w.2.2.1[r]? = some (1, 179, [])) : ConI l yX0_valueFromOtherEnd cX0_valueFromOtherEnd 6 .int 2 w A [.ref (w.2.1 b), .int a1] h (Option.map (fun v => (v, h)) (fX0_valueFromOtherEnd N h r a1)) := by
  refine ConI.of (lv0 := [some (.ref (w.2.1 b)), some (.int a1), none, none, none, none]) (by decide +kernel) (Nat.le_of_ble_eq_true rfl) rfl (fun x C hR hN => ?_)
  unfold fX0_valueFromOtherEnd
  refine pw_iconst (v := 0) C dX0_valueFromOtherEnd_0 (by decide) ?_
  refine pw_istore_n (lv2 := [some (.ref (w.2.1 b)), some (.int a1), some (.int 0), none, none, none]) C dX0_valueFromOtherEnd_1 rfl hN (by decide) rfl rfl ?_
  refine pw_aload_n C dX0_valueFromOtherEnd_2 rfl rfl ?_
  refine pw_iload_n C dX0_valueFromOtherEnd_3 rfl rfl ?_
  refine pw_callVt (as := [.int a1]) (rest := []) C dX0_valueFromOtherEnd_4 ml_X0_37 cw_X0_sizeOf im_X0_sizeOf sl_X0_sizeOf hb rfl ⟨by decide, by decide⟩ (c_X0_sizeOf h r a1 hb hr) rfl rfl (Nat.le_of_ble_eq_true rfl) ?_
  refine pw_istore_n (lv2 := [some (.ref (w.2.1 b)), some (.int a1), some (.int 0), some (.int (fX0_sizeOf h r a1)), none, none]) C dX0_valueFromOtherEnd_7 rfl hN (by decide) rfl rfl ?_
  refine pw_iconst (v := 0) C dX0_valueFromOtherEnd_8 (by decide) ?_
  refine pw_istore (lv2 := [some (.ref (w.2.1 b)), some (.int a1), some (.int 0), some (.int (fX0_sizeOf h r a1)), some (.int 0), none]) C dX0_valueFromOtherEnd_9 hN (by decide) rfl rfl ?_
  exact kX0_valueFromOtherEnd_L11 C hR hN N h r a1 hb hr N 0 (fX0_sizeOf h r a1) 0
set_option maxRecDepth 100000 in
set_option maxHeartbeats 4000000 in
theorem c_X0_mostOn {l : Launch} {w : Wd} {A : Nat → Prop} {b : Nat} (h : Hp) (r : Nat) (a1 : Int32) (hb : w.2.2.1[b]? = some (0, 0, [r + 2])) (hr : w.2.2.1[r]? = some (1, 179, [])) : ConI l yX0_mostOn cX0_mostOn 2 .int 2 w A [.ref (w.2.1 b), .int a1] h (some ((fX0_mostOn h r a1), h)) := by
  refine ConI.of (lv0 := [some (.ref (w.2.1 b)), some (.int a1)]) (by decide +kernel) (Nat.le_of_ble_eq_true rfl) rfl (fun x C hR hN => ?_)
  unfold fX0_mostOn
  refine pw_aload_n C dX0_mostOn_0 rfl rfl ?_
  refine pw_iload_n C dX0_mostOn_1 rfl rfl ?_
  refine pw_callVt (as := [.int a1]) (rest := []) C dX0_mostOn_2 ml_X0_37 cw_X0_sizeOf im_X0_sizeOf sl_X0_sizeOf hb rfl ⟨by decide, by decide⟩ (c_X0_sizeOf h r a1 hb hr) rfl rfl (Nat.le_of_ble_eq_true rfl) ?_
  refine pw_callSNt (host := "ToldInKnots") (as := [.int (fX0_sizeOf h r a1)]) (rest := []) C dX0_mostOn_5 (by decide +kernel) cw_X4_tens st_X4_tens ⟨by decide, by decide⟩ (c_X4_tens h (fX0_sizeOf h r a1)) rfl rfl (Nat.le_of_ble_eq_true rfl) ?_
  refine pw_iconst (v := 1) C dX0_mostOn_8 (by decide) ?_
  refine pw_isub C dX0_mostOn_9 ?_
  exact pt_iret C hR dX0_mostOn_10
set_option maxRecDepth 100000 in
set_option maxHeartbeats 4000000 in
theorem kX0_knotsOf_L4 {w : Wd} {x : Cz} {b : Nat} (C : Ok w x cX0_knotsOf RX0 2) (hR : OkI w x .int) (hN : xN x = 4) (N : Nat) (h : Hp) (r : Nat) (a1 : Int32) (hb : w.2.2.1[b]? = some (0, 0, [r + 2])) (hr : w.2.2.1[r]? = some (1, 179, []))  : ∀ (n : Nat) (u2 : Int32) (u3 : Int32), PW w x 4 [some (.ref (w.2.1 b)), some (.int a1), some (.int u2), some (.int u3)] [] h (Option.map (fun v => (v, h)) (fX0_knotsOf_L4 N h r a1 n u2 u3)) := by
  intro n
  induction n with
  | zero => intro u2 u3; rw [fX0_knotsOf_L4]; exact pw_none
  | succ n ih =>
    intro u2 u3
    rw [fX0_knotsOf_L4]
    refine pw_iload_n C dX0_knotsOf_4 rfl rfl ?_
    refine pw_aload_n C dX0_knotsOf_5 rfl rfl ?_
    refine pw_iload_n C dX0_knotsOf_6 rfl rfl ?_
    refine pw_callVt (as := [.int a1]) (rest := [.int u3]) C dX0_knotsOf_7 ml_X0_37 cw_X0_sizeOf im_X0_sizeOf sl_X0_sizeOf hb rfl ⟨by decide, by decide⟩ (c_X0_sizeOf h r a1 hb hr) rfl rfl (Nat.le_of_ble_eq_true rfl) ?_
    refine pm_icmp_ge (tgt := 31) C dX0_knotsOf_10 (by decide) (fun c2 => ?_) (fun c2 => ?_)
    · refine pw_iload_n C dX0_knotsOf_13 rfl rfl ?_
      refine pw_aload_n C dX0_knotsOf_14 rfl rfl ?_
      refine pw_iload_n C dX0_knotsOf_15 rfl rfl ?_
      refine pw_iload_n C dX0_knotsOf_16 rfl rfl ?_
      refine pw_callVt (as := [.int a1, .int u3]) (rest := [.int u2]) C dX0_knotsOf_17 ml_X0_48 cw_X0_codeOf im_X0_codeOf sl_X0_codeOf hb rfl ⟨by decide, by decide⟩ (c_X0_codeOf h r a1 u3 hb hr) rfl rfl (Nat.le_of_ble_eq_true rfl) ?_
      refine pw_callSNt (host := "ToldInKnots") (as := [.int (fX0_codeOf h r a1 u3)]) (rest := [.int u2]) C dX0_knotsOf_20 (by decide +kernel) cw_X4_knotsIn st_X4_knotsIn ⟨by decide, by decide⟩ (c_X4_knotsIn h (fX0_codeOf h r a1 u3)) rfl rfl (Nat.le_of_ble_eq_true rfl) ?_
      refine pw_iadd C dX0_knotsOf_23 ?_
      refine pm_name (fun v1 => ?_)
      refine pw_istore_n (lv2 := [some (.ref (w.2.1 b)), some (.int a1), some (.int v1), some (.int u3)]) C dX0_knotsOf_24 rfl hN (by decide) rfl rfl ?_
      refine pw_iinc (lv2 := [some (.ref (w.2.1 b)), some (.int a1), some (.int v1), some (.int (u3 + 1))]) C dX0_knotsOf_25 rfl rfl hN (by decide) rfl rfl ?_
      refine pw_goto (tgt := 4) C dX0_knotsOf_28 (by decide) ?_
      exact ih v1 (u3 + 1)
    · refine pw_iload_n C dX0_knotsOf_31 rfl rfl ?_
      exact pm_iret C hR dX0_knotsOf_32
set_option maxRecDepth 100000 in
set_option maxHeartbeats 4000000 in
theorem c_X0_knotsOf {l : Launch} {w : Wd} {A : Nat → Prop} {b : Nat} (N : Nat) (h : Hp) (r : Nat) (a1 : Int32) (hb : w.2.2.1[b]? = some (0, 0, [r + 2])) (hr : w.2.2.1[r]? = some (1, 179, [])) : ConI l yX0_knotsOf cX0_knotsOf 4 .int 2 w A [.ref (w.2.1 b), .int a1] h (Option.map (fun v => (v, h)) (fX0_knotsOf N h r a1)) := by
  refine ConI.of (lv0 := [some (.ref (w.2.1 b)), some (.int a1), none, none]) (by decide +kernel) (Nat.le_of_ble_eq_true rfl) rfl (fun x C hR hN => ?_)
  unfold fX0_knotsOf
  refine pw_iconst (v := 0) C dX0_knotsOf_0 (by decide) ?_
  refine pw_istore_n (lv2 := [some (.ref (w.2.1 b)), some (.int a1), some (.int 0), none]) C dX0_knotsOf_1 rfl hN (by decide) rfl rfl ?_
  refine pw_iconst (v := 0) C dX0_knotsOf_2 (by decide) ?_
  refine pw_istore_n (lv2 := [some (.ref (w.2.1 b)), some (.int a1), some (.int 0), some (.int 0)]) C dX0_knotsOf_3 rfl hN (by decide) rfl rfl ?_
  exact kX0_knotsOf_L4 C hR hN N h r a1 hb hr N 0 0
set_option maxRecDepth 100000 in
set_option maxHeartbeats 4000000 in
theorem kX0_workToTell_J62 {w : Wd} {x : Cz} {b : Nat} (C : Ok w x cX0_workToTell RX0 2) (hR : OkI w x .int) (hN : xN x = 8) (N : Nat) (h : Hp) (r : Nat) (a1 : Int32) (a2 : Int32) (hb : w.2.2.1[b]? = some (0, 0, [r + 2])) (hr : w.2.2.1[r]? = some (1, 179, [])) (k8 : Int32 → Int32 → Int32 → Option Int32) (hk8 : ∀ (u3 : Int32) (u4 : Int32) (u5 : Int32), PW w x 8 [some (.ref (w.2.1 b)), some (.int a1), none, some (.int u3), some (.int u4), some (.int u5), none, none] [] h (Option.map (fun v => (v, h)) (k8 u3 u4 u5))) : ∀ (u4 : Int32) (u5 : Int32) (t0 : Int32) (t1 : Int32), PW w x 62 [some (.ref (w.2.1 b)), some (.int a1), none, none, some (.int u4), some (.int u5), none, none] [.int t0, .int t1] h (Option.map (fun v => (v, h)) (fX0_workToTell_J62 N h r a1 a2 k8 u4 u5 t0 t1)) := by
  intro u4 u5 t0 t1
  unfold fX0_workToTell_J62
  refine pw_iadd C dX0_workToTell_62 ?_
  refine pw_istore_n (lv2 := [some (.ref (w.2.1 b)), some (.int a1), none, some (.int (t1 + t0)), some (.int u4), some (.int u5), none, none]) C dX0_workToTell_63 rfl hN (by decide) rfl rfl ?_
  refine pw_iload C dX0_workToTell_64 rfl ?_
  refine pw_bipush (v := 10) C dX0_workToTell_66 (by decide) ?_
  refine pw_idiv C dX0_workToTell_68 (by decide) ?_
  refine pw_istore (lv2 := [some (.ref (w.2.1 b)), some (.int a1), none, some (.int (t1 + t0)), some (.int (u4 / 10)), some (.int u5), none, none]) C dX0_workToTell_69 hN (by decide) rfl rfl ?_
  refine pw_iinc (lv2 := [some (.ref (w.2.1 b)), some (.int a1), none, some (.int (t1 + t0)), some (.int (u4 / 10)), some (.int (u5 + 1)), none, none]) C dX0_workToTell_71 rfl rfl hN (by decide) rfl rfl ?_
  refine pw_goto (tgt := 8) C dX0_workToTell_74 (by decide) ?_
  exact hk8 (t1 + t0) (u4 / 10) (u5 + 1)
set_option maxRecDepth 100000 in
set_option maxHeartbeats 4000000 in
theorem kX0_workToTell_L8 {w : Wd} {x : Cz} {b : Nat} (C : Ok w x cX0_workToTell RX0 2) (hR : OkI w x .int) (hN : xN x = 8) (N : Nat) (h : Hp) (r : Nat) (a1 : Int32) (a2 : Int32) (hb : w.2.2.1[b]? = some (0, 0, [r + 2])) (hr : w.2.2.1[r]? = some (1, 179, []))  : ∀ (n : Nat) (u3 : Int32) (u4 : Int32) (u5 : Int32), PW w x 8 [some (.ref (w.2.1 b)), some (.int a1), none, some (.int u3), some (.int u4), some (.int u5), none, none] [] h (Option.map (fun v => (v, h)) (fX0_workToTell_L8 N h r a1 a2 n u3 u4 u5)) := by
  intro n
  induction n with
  | zero => intro u3 u4 u5; rw [fX0_workToTell_L8]; exact pw_none
  | succ n ih =>
    intro u3 u4 u5
    rw [fX0_workToTell_L8]
    refine pw_iload C dX0_workToTell_8 rfl ?_
    refine pw_aload_n C dX0_workToTell_10 rfl rfl ?_
    refine pw_iload_n C dX0_workToTell_11 rfl rfl ?_
    refine pw_callVt (as := [.int a1]) (rest := [.int u5]) C dX0_workToTell_12 ml_X0_37 cw_X0_sizeOf im_X0_sizeOf sl_X0_sizeOf hb rfl ⟨by decide, by decide⟩ (c_X0_sizeOf h r a1 hb hr) rfl rfl (Nat.le_of_ble_eq_true rfl) ?_
    refine pm_icmp_ge (tgt := 77) C dX0_workToTell_15 (by decide) (fun c2 => ?_) (fun c2 => ?_)
    · refine pw_aload_n C dX0_workToTell_18 rfl rfl ?_
      refine pw_iload_n C dX0_workToTell_19 rfl rfl ?_
      refine pw_iload C dX0_workToTell_20 rfl ?_
      refine pw_callVt (as := [.int a1, .int u5]) (rest := []) C dX0_workToTell_22 ml_X0_48 cw_X0_codeOf im_X0_codeOf sl_X0_codeOf hb rfl ⟨by decide, by decide⟩ (c_X0_codeOf h r a1 u5 hb hr) rfl rfl (Nat.le_of_ble_eq_true rfl) ?_
      refine pw_istore (lv2 := [some (.ref (w.2.1 b)), some (.int a1), none, some (.int u3), some (.int u4), some (.int u5), some (.int (fX0_codeOf h r a1 u5)), none]) C dX0_workToTell_25 hN (by decide) rfl rfl ?_
      refine pw_iload C dX0_workToTell_27 rfl ?_
      refine pw_bipush (v := 10) C dX0_workToTell_29 (by decide) ?_
      refine pw_irem C dX0_workToTell_31 (by decide) ?_
      refine pw_iload C dX0_workToTell_32 rfl ?_
      refine pw_callSNt (host := "ToldInKnots") (as := [.int (u4 - u4 / 10 * 10), .int u5]) (rest := []) C dX0_workToTell_34 (by decide +kernel) cw_X4_codeToTell st_X4_codeToTell ⟨by decide, by decide⟩ (c_X4_codeToTell h (u4 - u4 / 10 * 10) u5) rfl rfl (Nat.le_of_ble_eq_true rfl) ?_
      refine pm_name (fun v1 => ?_)
      refine pw_istore (lv2 := [some (.ref (w.2.1 b)), some (.int a1), none, some (.int u3), some (.int u4), some (.int u5), some (.int (fX0_codeOf h r a1 u5)), some (.int v1)]) C dX0_workToTell_37 hN (by decide) rfl rfl ?_
      refine pw_iload_n C dX0_workToTell_39 rfl rfl ?_
      refine pw_iload C dX0_workToTell_40 rfl ?_
      refine pw_iload C dX0_workToTell_42 rfl ?_
      refine PW.eq (apply_ite (fun z_ => Option.map (fun v => (v, h)) (fX0_workToTell_J62 N h r a1 a2 (fX0_workToTell_L8 N h r a1 a2 n) u4 u5 z_ u3)) _ _ _) ?_
      refine pw_icmp_ne (tgt := 51) C dX0_workToTell_44 (by decide) (fun c3 => ?_) (fun c3 => ?_)
      · refine pw_iconst (v := 0) C dX0_workToTell_47 (by decide) ?_
        refine pw_goto (tgt := 62) C dX0_workToTell_48 (by decide) ?_
        exact pw_lv (kX0_workToTell_J62 C hR hN N h r a1 a2 hb hr (fX0_workToTell_L8 N h r a1 a2 n) ih u4 u5 0 u3) ⟨rfl, rfl, rfl, rfl, trivial⟩
      · refine pw_iload C dX0_workToTell_51 rfl ?_
        refine pw_callSNt (host := "ToldInKnots") (as := [.int (fX0_codeOf h r a1 u5)]) (rest := [.int u3]) C dX0_workToTell_53 (by decide +kernel) cw_X4_knotsIn st_X4_knotsIn ⟨by decide, by decide⟩ (c_X4_knotsIn h (fX0_codeOf h r a1 u5)) rfl rfl (Nat.le_of_ble_eq_true rfl) ?_
        refine pw_iload C dX0_workToTell_56 rfl ?_
        refine pw_callSNt (host := "ToldInKnots") (as := [.int v1]) (rest := [.int (fX4_knotsIn h (fX0_codeOf h r a1 u5)), .int u3]) C dX0_workToTell_58 (by decide +kernel) cw_X4_knotsIn st_X4_knotsIn ⟨by decide, by decide⟩ (c_X4_knotsIn h v1) rfl rfl (Nat.le_of_ble_eq_true rfl) ?_
        refine pw_iadd C dX0_workToTell_61 ?_
        exact pw_lv (kX0_workToTell_J62 C hR hN N h r a1 a2 hb hr (fX0_workToTell_L8 N h r a1 a2 n) ih u4 u5 ((fX4_knotsIn h (fX0_codeOf h r a1 u5)) + (fX4_knotsIn h v1)) u3) ⟨rfl, rfl, rfl, rfl, trivial⟩
    · refine pw_iload_n C dX0_workToTell_77 rfl rfl ?_
      exact pm_iret C hR dX0_workToTell_78
set_option maxRecDepth 100000 in
set_option maxHeartbeats 4000000 in
theorem c_X0_workToTell {l : Launch} {w : Wd} {A : Nat → Prop} {b : Nat} (N : Nat) (h : Hp) (r : Nat) (a1 : Int32) (a2 : Int32) (hb : w.2.2.1[b]? = some (0, 0, [r + 2])) (hr : w.2.2.1[r]? = some (1, 179, [])) : ConI l yX0_workToTell cX0_workToTell 8 .int 2 w A [.ref (w.2.1 b), .int a1, .int a2] h (Option.map (fun v => (v, h)) (fX0_workToTell N h r a1 a2)) := by
  refine ConI.of (lv0 := [some (.ref (w.2.1 b)), some (.int a1), some (.int a2), none, none, none, none, none]) (by decide +kernel) (Nat.le_of_ble_eq_true rfl) rfl (fun x C hR hN => ?_)
  unfold fX0_workToTell
  refine pw_iconst (v := 0) C dX0_workToTell_0 (by decide) ?_
  refine pw_istore_n (lv2 := [some (.ref (w.2.1 b)), some (.int a1), some (.int a2), some (.int 0), none, none, none, none]) C dX0_workToTell_1 rfl hN (by decide) rfl rfl ?_
  refine pw_iload_n C dX0_workToTell_2 rfl rfl ?_
  refine pw_istore (lv2 := [some (.ref (w.2.1 b)), some (.int a1), some (.int a2), some (.int 0), some (.int a2), none, none, none]) C dX0_workToTell_3 hN (by decide) rfl rfl ?_
  refine pw_iconst (v := 0) C dX0_workToTell_5 (by decide) ?_
  refine pw_istore (lv2 := [some (.ref (w.2.1 b)), some (.int a1), some (.int a2), some (.int 0), some (.int a2), some (.int 0), none, none]) C dX0_workToTell_6 hN (by decide) rfl rfl ?_
  exact pw_lv (kX0_workToTell_L8 C hR hN N h r a1 a2 hb hr N 0 a2 0) ⟨rfl, rfl, rfl, rfl, rfl, trivial⟩
set_option maxRecDepth 100000 in
set_option maxHeartbeats 4000000 in
theorem kX0_tell_L5 {w : Wd} {x : Cz} {b : Nat} (C : Ok w x cX0_tell RX0 2) (hR : OkV w x) (hN : xN x = 5) (N : Nat) (r : Nat) (a1 : Int32) (a2 : Int32) (hb : w.2.2.1[b]? = some (0, 0, [r + 2])) (hr : w.2.2.1[r]? = some (1, 179, []))  : ∀ (n : Nat) (u3 : Int32) (u4 : Int32) (h : Hp), PW w x 5 [some (.ref (w.2.1 b)), some (.int a1), none, some (.int u3), some (.int u4)] [] h ((fX0_tell_L5 N r a1 a2 n u3 u4 h)) := by
  intro n
  induction n with
  | zero => intro u3 u4 h; rw [fX0_tell_L5]; exact pw_none
  | succ n ih =>
    intro u3 u4 h
    rw [fX0_tell_L5]
    refine pw_iload C dX0_tell_5 rfl ?_
    refine pw_aload_n C dX0_tell_7 rfl rfl ?_
    refine pw_iload_n C dX0_tell_8 rfl rfl ?_
    refine pw_callVt (as := [.int a1]) (rest := [.int u4]) C dX0_tell_9 ml_X0_37 cw_X0_sizeOf im_X0_sizeOf sl_X0_sizeOf hb rfl ⟨by decide, by decide⟩ (c_X0_sizeOf h r a1 hb hr) rfl rfl (Nat.le_of_ble_eq_true rfl) ?_
    refine pw_icmp_ge (tgt := 42) C dX0_tell_12 (by decide) (fun c2 => ?_) (fun c2 => ?_)
    · refine pw_aload_n C dX0_tell_15 rfl rfl ?_
      refine pw_iload_n C dX0_tell_16 rfl rfl ?_
      refine pw_iload C dX0_tell_17 rfl ?_
      refine pw_iload_n C dX0_tell_19 rfl rfl ?_
      refine pw_bipush (v := 10) C dX0_tell_20 (by decide) ?_
      refine pw_irem C dX0_tell_22 (by decide) ?_
      refine pw_iload C dX0_tell_23 rfl ?_
      refine pw_callSNt (host := "ToldInKnots") (as := [.int (u3 - u3 / 10 * 10), .int u4]) (rest := [.int u4, .int a1, .ref (w.2.1 b)]) C dX0_tell_25 (by decide +kernel) cw_X4_codeToTell st_X4_codeToTell ⟨by decide, by decide⟩ (c_X4_codeToTell h (u3 - u3 / 10 * 10) u4) rfl rfl (Nat.le_of_ble_eq_true rfl) ?_
      refine pw_callVvq (as := [.int a1, .int u4, .int (fX4_codeToTell h (u3 - u3 / 10 * 10) u4)]) (rest := []) C dX0_tell_28 ml_X0_76 cw_X0_setCode im_X0_setCode sl_X0_setCode hb rfl ⟨by decide, by decide⟩ (c_X0_setCode h r a1 u4 (fX4_codeToTell h (u3 - u3 / 10 * 10) u4) hb hr) rfl rfl (Nat.le_of_ble_eq_true rfl) (fun z1 => ?_)
      refine pw_iload_n C dX0_tell_31 rfl rfl ?_
      refine pw_bipush (v := 10) C dX0_tell_32 (by decide) ?_
      refine pw_idiv C dX0_tell_34 (by decide) ?_
      refine pw_istore_n (lv2 := [some (.ref (w.2.1 b)), some (.int a1), none, some (.int (u3 / 10)), some (.int u4)]) C dX0_tell_35 rfl hN (by decide) rfl rfl ?_
      refine pw_iinc (lv2 := [some (.ref (w.2.1 b)), some (.int a1), none, some (.int (u3 / 10)), some (.int (u4 + 1))]) C dX0_tell_36 rfl rfl hN (by decide) rfl rfl ?_
      refine pw_goto (tgt := 5) C dX0_tell_39 (by decide) ?_
      exact ih (u3 / 10) (u4 + 1) z1.2
    · exact pw_vret C hR dX0_tell_42
set_option maxRecDepth 100000 in
set_option maxHeartbeats 4000000 in
theorem c_X0_tell {l : Launch} {w : Wd} {A : Nat → Prop} {b : Nat} (N : Nat) (h : Hp) (r : Nat) (a1 : Int32) (a2 : Int32) (hb : w.2.2.1[b]? = some (0, 0, [r + 2])) (hr : w.2.2.1[r]? = some (1, 179, [])) : ConV l yX0_tell cX0_tell 5 2 w A [.ref (w.2.1 b), .int a1, .int a2] h ((fX0_tell N h r a1 a2)) := by
  refine ConV.of (lv0 := [some (.ref (w.2.1 b)), some (.int a1), some (.int a2), none, none]) (by decide +kernel) (Nat.le_of_ble_eq_true rfl) rfl (fun x C hR hN => ?_)
  unfold fX0_tell
  refine pw_iload_n C dX0_tell_0 rfl rfl ?_
  refine pw_istore_n (lv2 := [some (.ref (w.2.1 b)), some (.int a1), some (.int a2), some (.int a2), none]) C dX0_tell_1 rfl hN (by decide) rfl rfl ?_
  refine pw_iconst (v := 0) C dX0_tell_2 (by decide) ?_
  refine pw_istore (lv2 := [some (.ref (w.2.1 b)), some (.int a1), some (.int a2), some (.int a2), some (.int 0)]) C dX0_tell_3 hN (by decide) rfl rfl ?_
  exact pw_lv (kX0_tell_L5 C hR hN N r a1 a2 hb hr N a2 0 h) ⟨rfl, rfl, rfl, rfl, trivial⟩
set_option maxRecDepth 100000 in
set_option maxHeartbeats 4000000 in
theorem kX0_looksLike_L35 {w : Wd} {x : Cz} {b : Nat} (C : Ok w x cX0_looksLike RX0 2) (hR : OkI w x .boolean) (hN : xN x = 5) (N : Nat) (h : Hp) (r : Nat) (a1 : Int32) (a2 : Int32) (hb : w.2.2.1[b]? = some (0, 0, [r + 2])) (hr : w.2.2.1[r]? = some (1, 179, []))  : ∀ (n : Nat) (u3 : Int32) (u4 : Int32), PW w x 35 [some (.ref (w.2.1 b)), some (.int a1), some (.int a2), some (.int u3), some (.int u4)] [] h (Option.map (fun v => (v, h)) (fX0_looksLike_L35 N h r a1 a2 n u3 u4)) := by
  intro n
  induction n with
  | zero => intro u3 u4; rw [fX0_looksLike_L35]; exact pw_none
  | succ n ih =>
    intro u3 u4
    rw [fX0_looksLike_L35]
    refine pw_iload_n C dX0_looksLike_35 rfl rfl ?_
    refine pm_if_eq (tgt := 78) C dX0_looksLike_36 (by decide) (fun c1 => ?_) (fun c1 => ?_)
    · refine pw_iload_n C dX0_looksLike_78 rfl rfl ?_
      exact pm_zret C hR dX0_looksLike_79
    · refine pw_iload C dX0_looksLike_39 rfl ?_
      refine pw_aload_n C dX0_looksLike_41 rfl rfl ?_
      refine pw_iload_n C dX0_looksLike_42 rfl rfl ?_
      refine pw_callVt (as := [.int a1]) (rest := [.int u4]) C dX0_looksLike_43 ml_X0_37 cw_X0_sizeOf im_X0_sizeOf sl_X0_sizeOf hb rfl ⟨by decide, by decide⟩ (c_X0_sizeOf h r a1 hb hr) rfl rfl (Nat.le_of_ble_eq_true rfl) ?_
      refine pm_icmp_ge (tgt := 78) C dX0_looksLike_46 (by decide) (fun c2 => ?_) (fun c2 => ?_)
      · refine pw_aload_n C dX0_looksLike_49 rfl rfl ?_
        refine pw_iload_n C dX0_looksLike_50 rfl rfl ?_
        refine pw_iload C dX0_looksLike_51 rfl ?_
        refine pw_callVt (as := [.int a1, .int u4]) (rest := []) C dX0_looksLike_53 ml_X0_48 cw_X0_codeOf im_X0_codeOf sl_X0_codeOf hb rfl ⟨by decide, by decide⟩ (c_X0_codeOf h r a1 u4 hb hr) rfl rfl (Nat.le_of_ble_eq_true rfl) ?_
        refine pw_aload_n C dX0_looksLike_56 rfl rfl ?_
        refine pw_iload_n C dX0_looksLike_57 rfl rfl ?_
        refine pw_iload C dX0_looksLike_58 rfl ?_
        refine pw_callVt (as := [.int a2, .int u4]) (rest := [.int (fX0_codeOf h r a1 u4)]) C dX0_looksLike_60 ml_X0_48 cw_X0_codeOf im_X0_codeOf sl_X0_codeOf hb rfl ⟨by decide, by decide⟩ (c_X0_codeOf h r a2 u4 hb hr) rfl rfl (Nat.le_of_ble_eq_true rfl) ?_
        refine PW.eq (apply_ite (fun z_ => Option.map (fun v => (v, h)) (fX0_looksLike_L35 N h r a1 a2 n z_ (u4 + 1))) _ _ _) ?_
        refine pw_icmp_ne (tgt := 70) C dX0_looksLike_63 (by decide) (fun c3 => ?_) (fun c3 => ?_)
        · refine pw_iconst (v := 1) C dX0_looksLike_66 (by decide) ?_
          refine pw_goto (tgt := 71) C dX0_looksLike_67 (by decide) ?_
          refine pw_istore_n (lv2 := [some (.ref (w.2.1 b)), some (.int a1), some (.int a2), some (.int 1), some (.int u4)]) C dX0_looksLike_71 rfl hN (by decide) rfl rfl ?_
          refine pw_iinc (lv2 := [some (.ref (w.2.1 b)), some (.int a1), some (.int a2), some (.int 1), some (.int (u4 + 1))]) C dX0_looksLike_72 rfl rfl hN (by decide) rfl rfl ?_
          refine pw_goto (tgt := 35) C dX0_looksLike_75 (by decide) ?_
          exact ih 1 (u4 + 1)
        · refine pw_iconst (v := 0) C dX0_looksLike_70 (by decide) ?_
          refine pw_istore_n (lv2 := [some (.ref (w.2.1 b)), some (.int a1), some (.int a2), some (.int 0), some (.int u4)]) C dX0_looksLike_71 rfl hN (by decide) rfl rfl ?_
          refine pw_iinc (lv2 := [some (.ref (w.2.1 b)), some (.int a1), some (.int a2), some (.int 0), some (.int (u4 + 1))]) C dX0_looksLike_72 rfl rfl hN (by decide) rfl rfl ?_
          refine pw_goto (tgt := 35) C dX0_looksLike_75 (by decide) ?_
          exact ih 0 (u4 + 1)
      · refine pw_iload_n C dX0_looksLike_78 rfl rfl ?_
        exact pm_zret C hR dX0_looksLike_79
set_option maxRecDepth 100000 in
set_option maxHeartbeats 4000000 in
theorem c_X0_looksLike {l : Launch} {w : Wd} {A : Nat → Prop} {b : Nat} (N : Nat) (h : Hp) (r : Nat) (a1 : Int32) (a2 : Int32) (hb : w.2.2.1[b]? = some (0, 0, [r + 2])) (hr : w.2.2.1[r]? = some (1, 179, [])) : ConI l yX0_looksLike cX0_looksLike 5 .boolean 2 w A [.ref (w.2.1 b), .int a1, .int a2] h (Option.map (fun v => (v, h)) (fX0_looksLike N h r a1 a2)) := by
  refine ConI.of (lv0 := [some (.ref (w.2.1 b)), some (.int a1), some (.int a2), none, none]) (by decide +kernel) (Nat.le_of_ble_eq_true rfl) rfl (fun x C hR hN => ?_)
  unfold fX0_looksLike
  refine pw_aload_n C dX0_looksLike_0 rfl rfl ?_
  refine pw_iload_n C dX0_looksLike_1 rfl rfl ?_
  refine pw_callVt (as := [.int a1]) (rest := []) C dX0_looksLike_2 ml_X0_80 cw_X0_colourOf im_X0_colourOf sl_X0_colourOf hb rfl ⟨by decide, by decide⟩ (c_X0_colourOf h r a1 hb hr) rfl rfl (Nat.le_of_ble_eq_true rfl) ?_
  refine pw_aload_n C dX0_looksLike_5 rfl rfl ?_
  refine pw_iload_n C dX0_looksLike_6 rfl rfl ?_
  refine pw_callVt (as := [.int a2]) (rest := [.int (fX0_colourOf h r a1)]) C dX0_looksLike_7 ml_X0_80 cw_X0_colourOf im_X0_colourOf sl_X0_colourOf hb rfl ⟨by decide, by decide⟩ (c_X0_colourOf h r a2 hb hr) rfl rfl (Nat.le_of_ble_eq_true rfl) ?_
  refine PW.eq (apply_ite (fun z_ => Option.map (fun v => (v, h)) (fX0_looksLike_L35 N h r a1 a2 N z_ 0)) _ _ _) ?_
  refine pw_icmp_ne (tgt := 30) C dX0_looksLike_10 (by decide) (fun c4 => ?_) (fun c4 => ?_)
  · refine pw_aload_n C dX0_looksLike_13 rfl rfl ?_
    refine pw_iload_n C dX0_looksLike_14 rfl rfl ?_
    refine pw_callVt (as := [.int a1]) (rest := []) C dX0_looksLike_15 ml_X0_37 cw_X0_sizeOf im_X0_sizeOf sl_X0_sizeOf hb rfl ⟨by decide, by decide⟩ (c_X0_sizeOf h r a1 hb hr) rfl rfl (Nat.le_of_ble_eq_true rfl) ?_
    refine pw_aload_n C dX0_looksLike_18 rfl rfl ?_
    refine pw_iload_n C dX0_looksLike_19 rfl rfl ?_
    refine pw_callVt (as := [.int a2]) (rest := [.int (fX0_sizeOf h r a1)]) C dX0_looksLike_20 ml_X0_37 cw_X0_sizeOf im_X0_sizeOf sl_X0_sizeOf hb rfl ⟨by decide, by decide⟩ (c_X0_sizeOf h r a2 hb hr) rfl rfl (Nat.le_of_ble_eq_true rfl) ?_
    refine PW.eq (apply_ite (fun z_ => Option.map (fun v => (v, h)) (fX0_looksLike_L35 N h r a1 a2 N z_ 0)) _ _ _) ?_
    refine pw_icmp_ne (tgt := 30) C dX0_looksLike_23 (by decide) (fun c5 => ?_) (fun c5 => ?_)
    · refine pw_iconst (v := 1) C dX0_looksLike_26 (by decide) ?_
      refine pw_goto (tgt := 31) C dX0_looksLike_27 (by decide) ?_
      refine pw_istore_n (lv2 := [some (.ref (w.2.1 b)), some (.int a1), some (.int a2), some (.int 1), none]) C dX0_looksLike_31 rfl hN (by decide) rfl rfl ?_
      refine pw_iconst (v := 0) C dX0_looksLike_32 (by decide) ?_
      refine pw_istore (lv2 := [some (.ref (w.2.1 b)), some (.int a1), some (.int a2), some (.int 1), some (.int 0)]) C dX0_looksLike_33 hN (by decide) rfl rfl ?_
      exact kX0_looksLike_L35 C hR hN N h r a1 a2 hb hr N 1 0
    · refine pw_iconst (v := 0) C dX0_looksLike_30 (by decide) ?_
      refine pw_istore_n (lv2 := [some (.ref (w.2.1 b)), some (.int a1), some (.int a2), some (.int 0), none]) C dX0_looksLike_31 rfl hN (by decide) rfl rfl ?_
      refine pw_iconst (v := 0) C dX0_looksLike_32 (by decide) ?_
      refine pw_istore (lv2 := [some (.ref (w.2.1 b)), some (.int a1), some (.int a2), some (.int 0), some (.int 0)]) C dX0_looksLike_33 hN (by decide) rfl rfl ?_
      exact kX0_looksLike_L35 C hR hN N h r a1 a2 hb hr N 0 0
  · refine pw_iconst (v := 0) C dX0_looksLike_30 (by decide) ?_
    refine pw_istore_n (lv2 := [some (.ref (w.2.1 b)), some (.int a1), some (.int a2), some (.int 0), none]) C dX0_looksLike_31 rfl hN (by decide) rfl rfl ?_
    refine pw_iconst (v := 0) C dX0_looksLike_32 (by decide) ?_
    refine pw_istore (lv2 := [some (.ref (w.2.1 b)), some (.int a1), some (.int a2), some (.int 0), some (.int 0)]) C dX0_looksLike_33 hN (by decide) rfl rfl ?_
    exact kX0_looksLike_L35 C hR hN N h r a1 a2 hb hr N 0 0
set_option maxRecDepth 100000 in
set_option maxHeartbeats 4000000 in
theorem c_X0_isIn {l : Launch} {w : Wd} {A : Nat → Prop} {b : Nat} (h : Hp) (r : Nat) (a1 : Int32) (a2 : Int32) (hb : w.2.2.1[b]? = some (0, 0, [r + 2])) (hr : w.2.2.1[r]? = some (1, 179, [])) : ConI l yX0_isIn cX0_isIn 3 .boolean 2 w A [.ref (w.2.1 b), .int a1, .int a2] h (some ((fX0_isIn h r a1 a2), h)) := by
  refine ConI.of (lv0 := [some (.ref (w.2.1 b)), some (.int a1), some (.int a2)]) (by decide +kernel) (Nat.le_of_ble_eq_true rfl) rfl (fun x C hR hN => ?_)
  unfold fX0_isIn
  refine pw_aload_n C dX0_isIn_0 rfl rfl ?_
  refine pw_iload_n C dX0_isIn_1 rfl rfl ?_
  refine pw_callVt (as := [.int a1]) (rest := []) C dX0_isIn_2 ml_X0_83 cw_X0_depthOf im_X0_depthOf sl_X0_depthOf hb rfl ⟨by decide, by decide⟩ (c_X0_depthOf h r a1 hb hr) rfl rfl (Nat.le_of_ble_eq_true rfl) ?_
  refine pt_if_ne (tgt := 21) C dX0_isIn_5 (by decide) (fun c1 => ?_) (fun c1 => ?_)
  · refine pw_aload_n C dX0_isIn_8 rfl rfl ?_
    refine pw_iload_n C dX0_isIn_9 rfl rfl ?_
    refine pw_callVt (as := [.int a1]) (rest := []) C dX0_isIn_10 ml_X0_89 cw_X0_groupOf im_X0_groupOf sl_X0_groupOf hb rfl ⟨by decide, by decide⟩ (c_X0_groupOf h r a1 hb hr) rfl rfl (Nat.le_of_ble_eq_true rfl) ?_
    refine pw_iload_n C dX0_isIn_13 rfl rfl ?_
    refine pt_icmp_ne (tgt := 21) C dX0_isIn_14 (by decide) (fun c2 => ?_) (fun c2 => ?_)
    · refine pw_iconst (v := 1) C dX0_isIn_17 (by decide) ?_
      refine pw_goto (tgt := 22) C dX0_isIn_18 (by decide) ?_
      exact pt_zret' C hR dX0_isIn_22 (by decide)
    · refine pw_iconst (v := 0) C dX0_isIn_21 (by decide) ?_
      exact pt_zret' C hR dX0_isIn_22 (by decide)
  · refine pw_iconst (v := 0) C dX0_isIn_21 (by decide) ?_
    exact pt_zret' C hR dX0_isIn_22 (by decide)
set_option maxRecDepth 100000 in
set_option maxHeartbeats 4000000 in
theorem c_X0_isFrom {l : Launch} {w : Wd} {A : Nat → Prop} {b : Nat} (h : Hp) (r : Nat) (a1 : Int32) (a2 : Int32) (hb : w.2.2.1[b]? = some (0, 0, [r + 2])) (hr : w.2.2.1[r]? = some (1, 179, [])) : ConI l yX0_isFrom cX0_isFrom 4 .boolean 2 w A [.ref (w.2.1 b), .int a1, .int a2] h (some ((fX0_isFrom h r a1 a2), h)) := by
  refine ConI.of (lv0 := [some (.ref (w.2.1 b)), some (.int a1), some (.int a2), none]) (by decide +kernel) (Nat.le_of_ble_eq_true rfl) rfl (fun x C hR hN => ?_)
  unfold fX0_isFrom
  refine pw_aload_n C dX0_isFrom_0 rfl rfl ?_
  refine pw_iload_n C dX0_isFrom_1 rfl rfl ?_
  refine pw_callVt (as := [.int a1]) (rest := []) C dX0_isFrom_2 ml_X0_92 cw_X0_holderOf im_X0_holderOf sl_X0_holderOf hb rfl ⟨by decide, by decide⟩ (c_X0_holderOf h r a1 hb hr) rfl rfl (Nat.le_of_ble_eq_true rfl) ?_
  refine pw_istore_n (lv2 := [some (.ref (w.2.1 b)), some (.int a1), some (.int a2), some (.int (fX0_holderOf h r a1))]) C dX0_isFrom_5 rfl hN (by decide) rfl rfl ?_
  refine pw_iload_n C dX0_isFrom_6 rfl rfl ?_
  refine pw_iload_n C dX0_isFrom_7 rfl rfl ?_
  refine pt_icmp_eq (tgt := 31) C dX0_isFrom_8 (by decide) (fun c1 => ?_) (fun c1 => ?_)
  · refine pw_iconst (v := 1) C dX0_isFrom_31 (by decide) ?_
    refine pw_goto (tgt := 36) C dX0_isFrom_32 (by decide) ?_
    exact pt_zret' C hR dX0_isFrom_36 (by decide)
  · refine pw_iload_n C dX0_isFrom_11 rfl rfl ?_
    refine pw_iload_n C dX0_isFrom_12 rfl rfl ?_
    refine pt_icmp_eq (tgt := 31) C dX0_isFrom_13 (by decide) (fun c2 => ?_) (fun c2 => ?_)
    · refine pw_iconst (v := 1) C dX0_isFrom_31 (by decide) ?_
      refine pw_goto (tgt := 36) C dX0_isFrom_32 (by decide) ?_
      exact pt_zret' C hR dX0_isFrom_36 (by decide)
    · refine pw_iload_n C dX0_isFrom_16 rfl rfl ?_
      refine pw_bipush (v := (-4)) C dX0_isFrom_17 (by decide) ?_
      refine pt_icmp_eq (tgt := 35) C dX0_isFrom_19 (by decide) (fun c3 => ?_) (fun c3 => ?_)
      · refine pw_iconst (v := 0) C dX0_isFrom_35 (by decide) ?_
        exact pt_zret' C hR dX0_isFrom_36 (by decide)
      · refine pw_aload_n C dX0_isFrom_22 rfl rfl ?_
        refine pw_iload_n C dX0_isFrom_23 rfl rfl ?_
        refine pw_callVt (as := [.int (fX0_holderOf h r a1)]) (rest := []) C dX0_isFrom_24 ml_X0_92 cw_X0_holderOf im_X0_holderOf sl_X0_holderOf hb rfl ⟨by decide, by decide⟩ (c_X0_holderOf h r (fX0_holderOf h r a1) hb hr) rfl rfl (Nat.le_of_ble_eq_true rfl) ?_
        refine pw_iload_n C dX0_isFrom_27 rfl rfl ?_
        refine pt_icmp_ne (tgt := 35) C dX0_isFrom_28 (by decide) (fun c4 => ?_) (fun c4 => ?_)
        · refine pw_iconst (v := 1) C dX0_isFrom_31 (by decide) ?_
          refine pw_goto (tgt := 36) C dX0_isFrom_32 (by decide) ?_
          exact pt_zret' C hR dX0_isFrom_36 (by decide)
        · refine pw_iconst (v := 0) C dX0_isFrom_35 (by decide) ?_
          exact pt_zret' C hR dX0_isFrom_36 (by decide)
set_option maxRecDepth 100000 in
set_option maxHeartbeats 4000000 in
theorem kX0_pendantAbove_L4 {w : Wd} {x : Cz} {b : Nat} (C : Ok w x cX0_pendantAbove RX0 2) (hR : OkI w x .int) (hN : xN x = 4) (N : Nat) (h : Hp) (r : Nat) (a1 : Int32) (hb : w.2.2.1[b]? = some (0, 0, [r + 2])) (hr : w.2.2.1[r]? = some (1, 179, []))  : ∀ (n : Nat) (u2 : Int32) (u3 : Int32), PW w x 4 [some (.ref (w.2.1 b)), none, some (.int u2), some (.int u3)] [] h (Option.map (fun v => (v, h)) (fX0_pendantAbove_L4 N h r a1 n u2 u3)) := by
  intro n
  induction n with
  | zero => intro u2 u3; rw [fX0_pendantAbove_L4]; exact pw_none
  | succ n ih =>
    intro u2 u3
    rw [fX0_pendantAbove_L4]
    refine pw_iload_n C dX0_pendantAbove_4 rfl rfl ?_
    refine pw_iconst (v := 2) C dX0_pendantAbove_5 (by decide) ?_
    refine pm_icmp_ge (tgt := 31) C dX0_pendantAbove_6 (by decide) (fun c1 => ?_) (fun c1 => ?_)
    · refine pw_aload_n C dX0_pendantAbove_9 rfl rfl ?_
      refine pw_iload_n C dX0_pendantAbove_10 rfl rfl ?_
      refine pw_callVt (as := [.int u2]) (rest := []) C dX0_pendantAbove_11 ml_X0_92 cw_X0_holderOf im_X0_holderOf sl_X0_holderOf hb rfl ⟨by decide, by decide⟩ (c_X0_holderOf h r u2 hb hr) rfl rfl (Nat.le_of_ble_eq_true rfl) ?_
      refine pw_bipush (v := (-4)) C dX0_pendantAbove_14 (by decide) ?_
      refine pm_icmp_eq (tgt := 31) C dX0_pendantAbove_16 (by decide) (fun c2 => ?_) (fun c2 => ?_)
      · refine pw_iload_n C dX0_pendantAbove_31 rfl rfl ?_
        exact pm_iret C hR dX0_pendantAbove_32
      · refine pw_aload_n C dX0_pendantAbove_19 rfl rfl ?_
        refine pw_iload_n C dX0_pendantAbove_20 rfl rfl ?_
        refine pw_callVt (as := [.int u2]) (rest := []) C dX0_pendantAbove_21 ml_X0_92 cw_X0_holderOf im_X0_holderOf sl_X0_holderOf hb rfl ⟨by decide, by decide⟩ (c_X0_holderOf h r u2 hb hr) rfl rfl (Nat.le_of_ble_eq_true rfl) ?_
        refine pw_istore_n (lv2 := [some (.ref (w.2.1 b)), none, some (.int (fX0_holderOf h r u2)), some (.int u3)]) C dX0_pendantAbove_24 rfl hN (by decide) rfl rfl ?_
        refine pw_iinc (lv2 := [some (.ref (w.2.1 b)), none, some (.int (fX0_holderOf h r u2)), some (.int (u3 + 1))]) C dX0_pendantAbove_25 rfl rfl hN (by decide) rfl rfl ?_
        refine pw_goto (tgt := 4) C dX0_pendantAbove_28 (by decide) ?_
        exact ih (fX0_holderOf h r u2) (u3 + 1)
    · refine pw_iload_n C dX0_pendantAbove_31 rfl rfl ?_
      exact pm_iret C hR dX0_pendantAbove_32
set_option maxRecDepth 100000 in
set_option maxHeartbeats 4000000 in
theorem c_X0_pendantAbove {l : Launch} {w : Wd} {A : Nat → Prop} {b : Nat} (N : Nat) (h : Hp) (r : Nat) (a1 : Int32) (hb : w.2.2.1[b]? = some (0, 0, [r + 2])) (hr : w.2.2.1[r]? = some (1, 179, [])) : ConI l yX0_pendantAbove cX0_pendantAbove 4 .int 2 w A [.ref (w.2.1 b), .int a1] h (Option.map (fun v => (v, h)) (fX0_pendantAbove N h r a1)) := by
  refine ConI.of (lv0 := [some (.ref (w.2.1 b)), some (.int a1), none, none]) (by decide +kernel) (Nat.le_of_ble_eq_true rfl) rfl (fun x C hR hN => ?_)
  unfold fX0_pendantAbove
  refine pw_iload_n C dX0_pendantAbove_0 rfl rfl ?_
  refine pw_istore_n (lv2 := [some (.ref (w.2.1 b)), some (.int a1), some (.int a1), none]) C dX0_pendantAbove_1 rfl hN (by decide) rfl rfl ?_
  refine pw_iconst (v := 0) C dX0_pendantAbove_2 (by decide) ?_
  refine pw_istore_n (lv2 := [some (.ref (w.2.1 b)), some (.int a1), some (.int a1), some (.int 0)]) C dX0_pendantAbove_3 rfl hN (by decide) rfl rfl ?_
  exact pw_lv (kX0_pendantAbove_L4 C hR hN N h r a1 hb hr N a1 0) ⟨rfl, rfl, rfl, trivial⟩
set_option maxRecDepth 100000 in
set_option maxHeartbeats 4000000 in
theorem kX0_hangingFrom_L4 {w : Wd} {x : Cz} {b : Nat} (C : Ok w x cX0_hangingFrom RX0 2) (hR : OkI w x .int) (hN : xN x = 4) (N : Nat) (h : Hp) (r : Nat) (a1 : Int32) (hb : w.2.2.1[b]? = some (0, 0, [r + 2])) (hr : w.2.2.1[r]? = some (1, 179, []))  : ∀ (n : Nat) (u2 : Int32) (u3 : Int32), PW w x 4 [some (.ref (w.2.1 b)), some (.int a1), some (.int u2), some (.int u3)] [] h (Option.map (fun v => (v, h)) (fX0_hangingFrom_L4 N h r a1 n u2 u3)) := by
  intro n
  induction n with
  | zero => intro u2 u3; rw [fX0_hangingFrom_L4]; exact pw_none
  | succ n ih =>
    intro u2 u3
    rw [fX0_hangingFrom_L4]
    refine pw_iload_n C dX0_hangingFrom_4 rfl rfl ?_
    refine pw_aload_n C dX0_hangingFrom_5 rfl rfl ?_
    refine pw_callVt (as := []) (rest := [.int u3]) C dX0_hangingFrom_6 ml_X0_29 cw_X0_cords im_X0_cords sl_X0_cords hb rfl ⟨by decide, by decide⟩ (c_X0_cords h r hb hr) rfl rfl (Nat.le_of_ble_eq_true rfl) ?_
    refine pm_icmp_ge (tgt := 35) C dX0_hangingFrom_9 (by decide) (fun c1 => ?_) (fun c1 => ?_)
    · refine pw_iload_n C dX0_hangingFrom_12 rfl rfl ?_
      refine pw_aload_n C dX0_hangingFrom_13 rfl rfl ?_
      refine pw_iload_n C dX0_hangingFrom_14 rfl rfl ?_
      refine pw_callVt (as := [.int u3]) (rest := [.int u2]) C dX0_hangingFrom_15 ml_X0_92 cw_X0_holderOf im_X0_holderOf sl_X0_holderOf hb rfl ⟨by decide, by decide⟩ (c_X0_holderOf h r u3 hb hr) rfl rfl (Nat.le_of_ble_eq_true rfl) ?_
      refine pw_iload_n C dX0_hangingFrom_18 rfl rfl ?_
      refine PW.eq (apply_ite (fun z_ => Option.map (fun v => (v, h)) (fX0_hangingFrom_L4 N h r a1 n z_ (u3 + 1))) _ _ _) ?_
      refine pw_icmp_ne (tgt := 26) C dX0_hangingFrom_19 (by decide) (fun c2 => ?_) (fun c2 => ?_)
      · refine pw_iconst (v := 1) C dX0_hangingFrom_22 (by decide) ?_
        refine pw_goto (tgt := 27) C dX0_hangingFrom_23 (by decide) ?_
        refine pw_iadd C dX0_hangingFrom_27 ?_
        refine pw_istore_n (lv2 := [some (.ref (w.2.1 b)), some (.int a1), some (.int (u2 + 1)), some (.int u3)]) C dX0_hangingFrom_28 rfl hN (by decide) rfl rfl ?_
        refine pw_iinc (lv2 := [some (.ref (w.2.1 b)), some (.int a1), some (.int (u2 + 1)), some (.int (u3 + 1))]) C dX0_hangingFrom_29 rfl rfl hN (by decide) rfl rfl ?_
        refine pw_goto (tgt := 4) C dX0_hangingFrom_32 (by decide) ?_
        exact ih (u2 + 1) (u3 + 1)
      · refine pw_iconst (v := 0) C dX0_hangingFrom_26 (by decide) ?_
        refine pw_iadd C dX0_hangingFrom_27 ?_
        refine pw_istore_n (lv2 := [some (.ref (w.2.1 b)), some (.int a1), some (.int (u2 + 0)), some (.int u3)]) C dX0_hangingFrom_28 rfl hN (by decide) rfl rfl ?_
        refine pw_iinc (lv2 := [some (.ref (w.2.1 b)), some (.int a1), some (.int (u2 + 0)), some (.int (u3 + 1))]) C dX0_hangingFrom_29 rfl rfl hN (by decide) rfl rfl ?_
        refine pw_goto (tgt := 4) C dX0_hangingFrom_32 (by decide) ?_
        exact ih (u2 + 0) (u3 + 1)
    · refine pw_iload_n C dX0_hangingFrom_35 rfl rfl ?_
      exact pm_iret C hR dX0_hangingFrom_36
set_option maxRecDepth 100000 in
set_option maxHeartbeats 4000000 in
theorem c_X0_hangingFrom {l : Launch} {w : Wd} {A : Nat → Prop} {b : Nat} (N : Nat) (h : Hp) (r : Nat) (a1 : Int32) (hb : w.2.2.1[b]? = some (0, 0, [r + 2])) (hr : w.2.2.1[r]? = some (1, 179, [])) : ConI l yX0_hangingFrom cX0_hangingFrom 4 .int 2 w A [.ref (w.2.1 b), .int a1] h (Option.map (fun v => (v, h)) (fX0_hangingFrom N h r a1)) := by
  refine ConI.of (lv0 := [some (.ref (w.2.1 b)), some (.int a1), none, none]) (by decide +kernel) (Nat.le_of_ble_eq_true rfl) rfl (fun x C hR hN => ?_)
  unfold fX0_hangingFrom
  refine pw_iconst (v := 0) C dX0_hangingFrom_0 (by decide) ?_
  refine pw_istore_n (lv2 := [some (.ref (w.2.1 b)), some (.int a1), some (.int 0), none]) C dX0_hangingFrom_1 rfl hN (by decide) rfl rfl ?_
  refine pw_iconst (v := 0) C dX0_hangingFrom_2 (by decide) ?_
  refine pw_istore_n (lv2 := [some (.ref (w.2.1 b)), some (.int a1), some (.int 0), some (.int 0)]) C dX0_hangingFrom_3 rfl hN (by decide) rfl rfl ?_
  exact kX0_hangingFrom_L4 C hR hN N h r a1 hb hr N 0 0
set_option maxRecDepth 100000 in
set_option maxHeartbeats 4000000 in
theorem kX0_pendantsIn_L4 {w : Wd} {x : Cz} {b : Nat} (C : Ok w x cX0_pendantsIn RX0 2) (hR : OkI w x .int) (hN : xN x = 4) (N : Nat) (h : Hp) (r : Nat) (a1 : Int32) (hb : w.2.2.1[b]? = some (0, 0, [r + 2])) (hr : w.2.2.1[r]? = some (1, 179, []))  : ∀ (n : Nat) (u2 : Int32) (u3 : Int32), PW w x 4 [some (.ref (w.2.1 b)), some (.int a1), some (.int u2), some (.int u3)] [] h (Option.map (fun v => (v, h)) (fX0_pendantsIn_L4 N h r a1 n u2 u3)) := by
  intro n
  induction n with
  | zero => intro u2 u3; rw [fX0_pendantsIn_L4]; exact pw_none
  | succ n ih =>
    intro u2 u3
    rw [fX0_pendantsIn_L4]
    refine pw_iload_n C dX0_pendantsIn_4 rfl rfl ?_
    refine pw_aload_n C dX0_pendantsIn_5 rfl rfl ?_
    refine pw_getr (q2 := r) C hb rfl (k := 0) (by decide) rfl fl_X0_11 dX0_pendantsIn_6 ?_
    refine pw_sipush (v := 178) C dX0_pendantsIn_9 (by decide) ?_
    refine pw_callSNt (host := "ToldInKnots") (as := [.ref (w.2.1 r), .int 178]) (rest := [.int u3]) C dX0_pendantsIn_12 (by decide +kernel) cw_X4_at st_X4_at ⟨by decide, by decide⟩ (c_X4_at h r 179 178 hr) rfl rfl (Nat.le_of_ble_eq_true rfl) ?_
    refine pm_icmp_ge (tgt := 51) C dX0_pendantsIn_15 (by decide) (fun c1 => ?_) (fun c1 => ?_)
    · refine pw_iload_n C dX0_pendantsIn_18 rfl rfl ?_
      refine pw_aload_n C dX0_pendantsIn_19 rfl rfl ?_
      refine pw_aload_n C dX0_pendantsIn_20 rfl rfl ?_
      refine pw_getr (q2 := r) C hb rfl (k := 0) (by decide) rfl fl_X0_11 dX0_pendantsIn_21 ?_
      refine pw_bipush (v := 96) C dX0_pendantsIn_24 (by decide) ?_
      refine pw_iload_n C dX0_pendantsIn_26 rfl rfl ?_
      refine pw_iadd C dX0_pendantsIn_27 ?_
      refine pw_callSNt (host := "ToldInKnots") (as := [.ref (w.2.1 r), .int (96 + u3)]) (rest := [.ref (w.2.1 b), .int u2]) C dX0_pendantsIn_28 (by decide +kernel) cw_X4_at st_X4_at ⟨by decide, by decide⟩ (c_X4_at h r 179 (96 + u3) hr) rfl rfl (Nat.le_of_ble_eq_true rfl) ?_
      refine pw_callVt (as := [.int (atF h r 179 (96 + u3))]) (rest := [.int u2]) C dX0_pendantsIn_31 ml_X0_89 cw_X0_groupOf im_X0_groupOf sl_X0_groupOf hb rfl ⟨by decide, by decide⟩ (c_X0_groupOf h r (atF h r 179 (96 + u3)) hb hr) rfl rfl (Nat.le_of_ble_eq_true rfl) ?_
      refine pw_iload_n C dX0_pendantsIn_34 rfl rfl ?_
      refine PW.eq (apply_ite (fun z_ => Option.map (fun v => (v, h)) (fX0_pendantsIn_L4 N h r a1 n z_ (u3 + 1))) _ _ _) ?_
      refine pw_icmp_ne (tgt := 42) C dX0_pendantsIn_35 (by decide) (fun c2 => ?_) (fun c2 => ?_)
      · refine pw_iconst (v := 1) C dX0_pendantsIn_38 (by decide) ?_
        refine pw_goto (tgt := 43) C dX0_pendantsIn_39 (by decide) ?_
        refine pw_iadd C dX0_pendantsIn_43 ?_
        refine pw_istore_n (lv2 := [some (.ref (w.2.1 b)), some (.int a1), some (.int (u2 + 1)), some (.int u3)]) C dX0_pendantsIn_44 rfl hN (by decide) rfl rfl ?_
        refine pw_iinc (lv2 := [some (.ref (w.2.1 b)), some (.int a1), some (.int (u2 + 1)), some (.int (u3 + 1))]) C dX0_pendantsIn_45 rfl rfl hN (by decide) rfl rfl ?_
        refine pw_goto (tgt := 4) C dX0_pendantsIn_48 (by decide) ?_
        exact ih (u2 + 1) (u3 + 1)
      · refine pw_iconst (v := 0) C dX0_pendantsIn_42 (by decide) ?_
        refine pw_iadd C dX0_pendantsIn_43 ?_
        refine pw_istore_n (lv2 := [some (.ref (w.2.1 b)), some (.int a1), some (.int (u2 + 0)), some (.int u3)]) C dX0_pendantsIn_44 rfl hN (by decide) rfl rfl ?_
        refine pw_iinc (lv2 := [some (.ref (w.2.1 b)), some (.int a1), some (.int (u2 + 0)), some (.int (u3 + 1))]) C dX0_pendantsIn_45 rfl rfl hN (by decide) rfl rfl ?_
        refine pw_goto (tgt := 4) C dX0_pendantsIn_48 (by decide) ?_
        exact ih (u2 + 0) (u3 + 1)
    · refine pw_iload_n C dX0_pendantsIn_51 rfl rfl ?_
      exact pm_iret C hR dX0_pendantsIn_52
set_option maxRecDepth 100000 in
set_option maxHeartbeats 4000000 in
theorem c_X0_pendantsIn {l : Launch} {w : Wd} {A : Nat → Prop} {b : Nat} (N : Nat) (h : Hp) (r : Nat) (a1 : Int32) (hb : w.2.2.1[b]? = some (0, 0, [r + 2])) (hr : w.2.2.1[r]? = some (1, 179, [])) : ConI l yX0_pendantsIn cX0_pendantsIn 4 .int 2 w A [.ref (w.2.1 b), .int a1] h (Option.map (fun v => (v, h)) (fX0_pendantsIn N h r a1)) := by
  refine ConI.of (lv0 := [some (.ref (w.2.1 b)), some (.int a1), none, none]) (by decide +kernel) (Nat.le_of_ble_eq_true rfl) rfl (fun x C hR hN => ?_)
  unfold fX0_pendantsIn
  refine pw_iconst (v := 0) C dX0_pendantsIn_0 (by decide) ?_
  refine pw_istore_n (lv2 := [some (.ref (w.2.1 b)), some (.int a1), some (.int 0), none]) C dX0_pendantsIn_1 rfl hN (by decide) rfl rfl ?_
  refine pw_iconst (v := 0) C dX0_pendantsIn_2 (by decide) ?_
  refine pw_istore_n (lv2 := [some (.ref (w.2.1 b)), some (.int a1), some (.int 0), some (.int 0)]) C dX0_pendantsIn_3 rfl hN (by decide) rfl rfl ?_
  exact kX0_pendantsIn_L4 C hR hN N h r a1 hb hr N 0 0
set_option maxRecDepth 100000 in
set_option maxHeartbeats 4000000 in
theorem kX0_pendantAt_L5 {w : Wd} {x : Cz} {b : Nat} (C : Ok w x cX0_pendantAt RX0 2) (hR : OkI w x .int) (hN : xN x = 6) (N : Nat) (h : Hp) (r : Nat) (a1 : Int32) (a2 : Int32) (hb : w.2.2.1[b]? = some (0, 0, [r + 2])) (hr : w.2.2.1[r]? = some (1, 179, []))  : ∀ (n : Nat) (u3 : Int32) (u4 : Int32), PW w x 5 [some (.ref (w.2.1 b)), some (.int a1), some (.int a2), some (.int u3), some (.int u4), none] [] h (Option.map (fun v => (v, h)) (fX0_pendantAt_L5 N h r a1 a2 n u3 u4)) := by
  intro n
  induction n with
  | zero => intro u3 u4; rw [fX0_pendantAt_L5]; exact pw_none
  | succ n ih =>
    intro u3 u4
    rw [fX0_pendantAt_L5]
    refine pw_iload C dX0_pendantAt_5 rfl ?_
    refine pw_aload_n C dX0_pendantAt_7 rfl rfl ?_
    refine pw_getr (q2 := r) C hb rfl (k := 0) (by decide) rfl fl_X0_11 dX0_pendantAt_8 ?_
    refine pw_sipush (v := 178) C dX0_pendantAt_11 (by decide) ?_
    refine pw_callSNt (host := "ToldInKnots") (as := [.ref (w.2.1 r), .int 178]) (rest := [.int u4]) C dX0_pendantAt_14 (by decide +kernel) cw_X4_at st_X4_at ⟨by decide, by decide⟩ (c_X4_at h r 179 178 hr) rfl rfl (Nat.le_of_ble_eq_true rfl) ?_
    refine pm_icmp_ge (tgt := 61) C dX0_pendantAt_17 (by decide) (fun c1 => ?_) (fun c1 => ?_)
    · refine pw_aload_n C dX0_pendantAt_20 rfl rfl ?_
      refine pw_getr (q2 := r) C hb rfl (k := 0) (by decide) rfl fl_X0_11 dX0_pendantAt_21 ?_
      refine pw_bipush (v := 96) C dX0_pendantAt_24 (by decide) ?_
      refine pw_iload C dX0_pendantAt_26 rfl ?_
      refine pw_iadd C dX0_pendantAt_28 ?_
      refine pw_callSNt (host := "ToldInKnots") (as := [.ref (w.2.1 r), .int (96 + u4)]) (rest := []) C dX0_pendantAt_29 (by decide +kernel) cw_X4_at st_X4_at ⟨by decide, by decide⟩ (c_X4_at h r 179 (96 + u4) hr) rfl rfl (Nat.le_of_ble_eq_true rfl) ?_
      refine pw_istore (lv2 := [some (.ref (w.2.1 b)), some (.int a1), some (.int a2), some (.int u3), some (.int u4), some (.int (atF h r 179 (96 + u4)))]) C dX0_pendantAt_32 hN (by decide) rfl rfl ?_
      refine pw_aload_n C dX0_pendantAt_34 rfl rfl ?_
      refine pw_iload C dX0_pendantAt_35 rfl ?_
      refine pw_callVt (as := [.int (atF h r 179 (96 + u4))]) (rest := []) C dX0_pendantAt_37 ml_X0_89 cw_X0_groupOf im_X0_groupOf sl_X0_groupOf hb rfl ⟨by decide, by decide⟩ (c_X0_groupOf h r (atF h r 179 (96 + u4)) hb hr) rfl rfl (Nat.le_of_ble_eq_true rfl) ?_
      refine pw_iload_n C dX0_pendantAt_40 rfl rfl ?_
      refine pm_icmp_ne (tgt := 55) C dX0_pendantAt_41 (by decide) (fun c2 => ?_) (fun c2 => ?_)
      · refine pw_iload_n C dX0_pendantAt_44 rfl rfl ?_
        refine pw_iload_n C dX0_pendantAt_45 rfl rfl ?_
        refine pm_icmp_ne (tgt := 52) C dX0_pendantAt_46 (by decide) (fun c3 => ?_) (fun c3 => ?_)
        · refine pw_iload C dX0_pendantAt_49 rfl ?_
          exact pm_iret C hR dX0_pendantAt_51
        · refine pw_iinc (lv2 := [some (.ref (w.2.1 b)), some (.int a1), some (.int a2), some (.int (u3 + 1)), some (.int u4), some (.int (atF h r 179 (96 + u4)))]) C dX0_pendantAt_52 rfl rfl hN (by decide) rfl rfl ?_
          refine pw_iinc (lv2 := [some (.ref (w.2.1 b)), some (.int a1), some (.int a2), some (.int (u3 + 1)), some (.int (u4 + 1)), some (.int (atF h r 179 (96 + u4)))]) C dX0_pendantAt_55 rfl rfl hN (by decide) rfl rfl ?_
          refine pw_goto (tgt := 5) C dX0_pendantAt_58 (by decide) ?_
          exact pw_lv (ih (u3 + 1) (u4 + 1)) ⟨rfl, rfl, rfl, rfl, rfl, trivial⟩
      · refine pw_iinc (lv2 := [some (.ref (w.2.1 b)), some (.int a1), some (.int a2), some (.int u3), some (.int (u4 + 1)), some (.int (atF h r 179 (96 + u4)))]) C dX0_pendantAt_55 rfl rfl hN (by decide) rfl rfl ?_
        refine pw_goto (tgt := 5) C dX0_pendantAt_58 (by decide) ?_
        exact pw_lv (ih u3 (u4 + 1)) ⟨rfl, rfl, rfl, rfl, rfl, trivial⟩
    · refine pw_bipush (v := (-4)) C dX0_pendantAt_61 (by decide) ?_
      exact pm_iret C hR dX0_pendantAt_63
set_option maxRecDepth 100000 in
set_option maxHeartbeats 4000000 in
theorem c_X0_pendantAt {l : Launch} {w : Wd} {A : Nat → Prop} {b : Nat} (N : Nat) (h : Hp) (r : Nat) (a1 : Int32) (a2 : Int32) (hb : w.2.2.1[b]? = some (0, 0, [r + 2])) (hr : w.2.2.1[r]? = some (1, 179, [])) : ConI l yX0_pendantAt cX0_pendantAt 6 .int 2 w A [.ref (w.2.1 b), .int a1, .int a2] h (Option.map (fun v => (v, h)) (fX0_pendantAt N h r a1 a2)) := by
  refine ConI.of (lv0 := [some (.ref (w.2.1 b)), some (.int a1), some (.int a2), none, none, none]) (by decide +kernel) (Nat.le_of_ble_eq_true rfl) rfl (fun x C hR hN => ?_)
  unfold fX0_pendantAt
  refine pw_iconst (v := 0) C dX0_pendantAt_0 (by decide) ?_
  refine pw_istore_n (lv2 := [some (.ref (w.2.1 b)), some (.int a1), some (.int a2), some (.int 0), none, none]) C dX0_pendantAt_1 rfl hN (by decide) rfl rfl ?_
  refine pw_iconst (v := 0) C dX0_pendantAt_2 (by decide) ?_
  refine pw_istore (lv2 := [some (.ref (w.2.1 b)), some (.int a1), some (.int a2), some (.int 0), some (.int 0), none]) C dX0_pendantAt_3 hN (by decide) rfl rfl ?_
  exact kX0_pendantAt_L5 C hR hN N h r a1 a2 hb hr N 0 0
set_option maxRecDepth 100000 in
set_option maxHeartbeats 4000000 in
theorem kX0_topOf_L2 {w : Wd} {x : Cz} {b : Nat} (C : Ok w x cX0_topOf RX0 2) (hR : OkI w x .int) (hN : xN x = 3) (N : Nat) (h : Hp) (r : Nat) (a1 : Int32) (hb : w.2.2.1[b]? = some (0, 0, [r + 2])) (hr : w.2.2.1[r]? = some (1, 179, []))  : ∀ (n : Nat) (u2 : Int32), PW w x 2 [some (.ref (w.2.1 b)), some (.int a1), some (.int u2)] [] h (Option.map (fun v => (v, h)) (fX0_topOf_L2 N h r a1 n u2)) := by
  intro n
  induction n with
  | zero => intro u2; rw [fX0_topOf_L2]; exact pw_none
  | succ n ih =>
    intro u2
    rw [fX0_topOf_L2]
    refine pw_iload_n C dX0_topOf_2 rfl rfl ?_
    refine pw_aload_n C dX0_topOf_3 rfl rfl ?_
    refine pw_callVt (as := []) (rest := [.int u2]) C dX0_topOf_4 ml_X0_29 cw_X0_cords im_X0_cords sl_X0_cords hb rfl ⟨by decide, by decide⟩ (c_X0_cords h r hb hr) rfl rfl (Nat.le_of_ble_eq_true rfl) ?_
    refine pm_icmp_ge (tgt := 35) C dX0_topOf_7 (by decide) (fun c1 => ?_) (fun c1 => ?_)
    · refine pw_aload_n C dX0_topOf_10 rfl rfl ?_
      refine pw_iload_n C dX0_topOf_11 rfl rfl ?_
      refine pw_callVt (as := [.int u2]) (rest := []) C dX0_topOf_12 ml_X0_86 cw_X0_isTop im_X0_isTop sl_X0_isTop hb rfl ⟨by decide, by decide⟩ (c_X0_isTop h r u2 hb hr) rfl rfl (Nat.le_of_ble_eq_true rfl) ?_
      refine pm_if_eq (tgt := 29) C dX0_topOf_15 (by decide) (fun c2 => ?_) (fun c2 => ?_)
      · refine pw_iinc (lv2 := [some (.ref (w.2.1 b)), some (.int a1), some (.int (u2 + 1))]) C dX0_topOf_29 rfl rfl hN (by decide) rfl rfl ?_
        refine pw_goto (tgt := 2) C dX0_topOf_32 (by decide) ?_
        exact ih (u2 + 1)
      · refine pw_aload_n C dX0_topOf_18 rfl rfl ?_
        refine pw_iload_n C dX0_topOf_19 rfl rfl ?_
        refine pw_callVt (as := [.int u2]) (rest := []) C dX0_topOf_20 ml_X0_89 cw_X0_groupOf im_X0_groupOf sl_X0_groupOf hb rfl ⟨by decide, by decide⟩ (c_X0_groupOf h r u2 hb hr) rfl rfl (Nat.le_of_ble_eq_true rfl) ?_
        refine pw_iload_n C dX0_topOf_23 rfl rfl ?_
        refine pm_icmp_ne (tgt := 29) C dX0_topOf_24 (by decide) (fun c3 => ?_) (fun c3 => ?_)
        · refine pw_iload_n C dX0_topOf_27 rfl rfl ?_
          exact pm_iret C hR dX0_topOf_28
        · refine pw_iinc (lv2 := [some (.ref (w.2.1 b)), some (.int a1), some (.int (u2 + 1))]) C dX0_topOf_29 rfl rfl hN (by decide) rfl rfl ?_
          refine pw_goto (tgt := 2) C dX0_topOf_32 (by decide) ?_
          exact ih (u2 + 1)
    · refine pw_bipush (v := (-4)) C dX0_topOf_35 (by decide) ?_
      exact pm_iret C hR dX0_topOf_37
set_option maxRecDepth 100000 in
set_option maxHeartbeats 4000000 in
theorem c_X0_topOf {l : Launch} {w : Wd} {A : Nat → Prop} {b : Nat} (N : Nat) (h : Hp) (r : Nat) (a1 : Int32) (hb : w.2.2.1[b]? = some (0, 0, [r + 2])) (hr : w.2.2.1[r]? = some (1, 179, [])) : ConI l yX0_topOf cX0_topOf 3 .int 2 w A [.ref (w.2.1 b), .int a1] h (Option.map (fun v => (v, h)) (fX0_topOf N h r a1)) := by
  refine ConI.of (lv0 := [some (.ref (w.2.1 b)), some (.int a1), none]) (by decide +kernel) (Nat.le_of_ble_eq_true rfl) rfl (fun x C hR hN => ?_)
  unfold fX0_topOf
  refine pw_iconst (v := 0) C dX0_topOf_0 (by decide) ?_
  refine pw_istore_n (lv2 := [some (.ref (w.2.1 b)), some (.int a1), some (.int 0)]) C dX0_topOf_1 rfl hN (by decide) rfl rfl ?_
  exact kX0_topOf_L2 C hR hN N h r a1 hb hr N 0
set_option maxRecDepth 100000 in
set_option maxHeartbeats 4000000 in
theorem kX0_tops_L4 {w : Wd} {x : Cz} {b : Nat} (C : Ok w x cX0_tops RX0 2) (hR : OkI w x .int) (hN : xN x = 3) (N : Nat) (h : Hp) (r : Nat) (hb : w.2.2.1[b]? = some (0, 0, [r + 2])) (hr : w.2.2.1[r]? = some (1, 179, []))  : ∀ (n : Nat) (u1 : Int32) (u2 : Int32), PW w x 4 [some (.ref (w.2.1 b)), some (.int u1), some (.int u2)] [] h (Option.map (fun v => (v, h)) (fX0_tops_L4 N h r n u1 u2)) := by
  intro n
  induction n with
  | zero => intro u1 u2; rw [fX0_tops_L4]; exact pw_none
  | succ n ih =>
    intro u1 u2
    rw [fX0_tops_L4]
    refine pw_iload_n C dX0_tops_4 rfl rfl ?_
    refine pw_aload_n C dX0_tops_5 rfl rfl ?_
    refine pw_callVt (as := []) (rest := [.int u2]) C dX0_tops_6 ml_X0_29 cw_X0_cords im_X0_cords sl_X0_cords hb rfl ⟨by decide, by decide⟩ (c_X0_cords h r hb hr) rfl rfl (Nat.le_of_ble_eq_true rfl) ?_
    refine pm_icmp_ge (tgt := 34) C dX0_tops_9 (by decide) (fun c1 => ?_) (fun c1 => ?_)
    · refine pw_iload_n C dX0_tops_12 rfl rfl ?_
      refine pw_aload_n C dX0_tops_13 rfl rfl ?_
      refine pw_iload_n C dX0_tops_14 rfl rfl ?_
      refine pw_callVt (as := [.int u2]) (rest := [.int u1]) C dX0_tops_15 ml_X0_86 cw_X0_isTop im_X0_isTop sl_X0_isTop hb rfl ⟨by decide, by decide⟩ (c_X0_isTop h r u2 hb hr) rfl rfl (Nat.le_of_ble_eq_true rfl) ?_
      refine PW.eq (apply_ite (fun z_ => Option.map (fun v => (v, h)) (fX0_tops_L4 N h r n z_ (u2 + 1))) _ _ _) ?_
      refine pw_if_eq (tgt := 25) C dX0_tops_18 (by decide) (fun c2 => ?_) (fun c2 => ?_)
      · refine pw_iconst (v := 0) C dX0_tops_25 (by decide) ?_
        refine pw_iadd C dX0_tops_26 ?_
        refine pw_istore_n (lv2 := [some (.ref (w.2.1 b)), some (.int (u1 + 0)), some (.int u2)]) C dX0_tops_27 rfl hN (by decide) rfl rfl ?_
        refine pw_iinc (lv2 := [some (.ref (w.2.1 b)), some (.int (u1 + 0)), some (.int (u2 + 1))]) C dX0_tops_28 rfl rfl hN (by decide) rfl rfl ?_
        refine pw_goto (tgt := 4) C dX0_tops_31 (by decide) ?_
        exact ih (u1 + 0) (u2 + 1)
      · refine pw_iconst (v := 1) C dX0_tops_21 (by decide) ?_
        refine pw_goto (tgt := 26) C dX0_tops_22 (by decide) ?_
        refine pw_iadd C dX0_tops_26 ?_
        refine pw_istore_n (lv2 := [some (.ref (w.2.1 b)), some (.int (u1 + 1)), some (.int u2)]) C dX0_tops_27 rfl hN (by decide) rfl rfl ?_
        refine pw_iinc (lv2 := [some (.ref (w.2.1 b)), some (.int (u1 + 1)), some (.int (u2 + 1))]) C dX0_tops_28 rfl rfl hN (by decide) rfl rfl ?_
        refine pw_goto (tgt := 4) C dX0_tops_31 (by decide) ?_
        exact ih (u1 + 1) (u2 + 1)
    · refine pw_iload_n C dX0_tops_34 rfl rfl ?_
      exact pm_iret C hR dX0_tops_35
set_option maxRecDepth 100000 in
set_option maxHeartbeats 4000000 in
theorem c_X0_tops {l : Launch} {w : Wd} {A : Nat → Prop} {b : Nat} (N : Nat) (h : Hp) (r : Nat) (hb : w.2.2.1[b]? = some (0, 0, [r + 2])) (hr : w.2.2.1[r]? = some (1, 179, [])) : ConI l yX0_tops cX0_tops 3 .int 2 w A [.ref (w.2.1 b)] h (Option.map (fun v => (v, h)) (fX0_tops N h r)) := by
  refine ConI.of (lv0 := [some (.ref (w.2.1 b)), none, none]) (by decide +kernel) (Nat.le_of_ble_eq_true rfl) rfl (fun x C hR hN => ?_)
  unfold fX0_tops
  refine pw_iconst (v := 0) C dX0_tops_0 (by decide) ?_
  refine pw_istore_n (lv2 := [some (.ref (w.2.1 b)), some (.int 0), none]) C dX0_tops_1 rfl hN (by decide) rfl rfl ?_
  refine pw_iconst (v := 0) C dX0_tops_2 (by decide) ?_
  refine pw_istore_n (lv2 := [some (.ref (w.2.1 b)), some (.int 0), some (.int 0)]) C dX0_tops_3 rfl hN (by decide) rfl rfl ?_
  exact kX0_tops_L4 C hR hN N h r hb hr N 0 0
set_option maxRecDepth 100000 in
set_option maxHeartbeats 4000000 in
theorem c_X0_addGroup {l : Launch} {w : Wd} {A : Nat → Prop} {b : Nat} (h : Hp) (r : Nat) (hb : w.2.2.1[b]? = some (0, 0, [r + 2])) (hr : w.2.2.1[r]? = some (1, 179, [])) : ConV l yX0_addGroup cX0_addGroup 1 2 w A [.ref (w.2.1 b)] h ((fX0_addGroup h r)) := by
  refine ConV.of (lv0 := [some (.ref (w.2.1 b))]) (by decide +kernel) (Nat.le_of_ble_eq_true rfl) rfl (fun x C hR hN => ?_)
  unfold fX0_addGroup
  refine pw_aload_n C dX0_addGroup_0 rfl rfl ?_
  refine pw_getr (q2 := r) C hb rfl (k := 0) (by decide) rfl fl_X0_11 dX0_addGroup_1 ?_
  refine pw_sipush (v := 177) C dX0_addGroup_4 (by decide) ?_
  refine pw_aload_n C dX0_addGroup_7 rfl rfl ?_
  refine pw_callVt (as := []) (rest := [.int 177, .ref (w.2.1 r)]) C dX0_addGroup_8 ml_X0_41 cw_X0_groups im_X0_groups sl_X0_groups hb rfl ⟨by decide, by decide⟩ (c_X0_groups h r hb hr) rfl rfl (Nat.le_of_ble_eq_true rfl) ?_
  refine pw_iconst (v := 1) C dX0_addGroup_11 (by decide) ?_
  refine pw_iadd C dX0_addGroup_12 ?_
  refine pw_callSNw (host := "ToldInKnots") (as := [.ref (w.2.1 r), .int 177, .int ((fX0_groups h r) + 1)]) (rest := []) C dX0_addGroup_13 (by decide +kernel) cw_X4_put st_X4_put ⟨by decide, by decide⟩ (c_X4_put h r 179 177 ((fX0_groups h r) + 1) hr) rfl rfl (Nat.le_of_ble_eq_true rfl) ?_
  refine pw_nameh (fun g1 => ?_)
  exact pw_vret C hR dX0_addGroup_16
set_option maxRecDepth 100000 in
set_option maxHeartbeats 4000000 in
theorem c_X1_opensGroup {l : Launch} {w : Wd} {A : Nat → Prop} (h : Hp) (hL : LX w) : ConI l yX1_opensGroup cX1_opensGroup 1 .boolean 3 w A [.ref (w.2.1 2)] h ((fX1_opensGroup h)) := by
  refine ConI.of (lv0 := [some (.ref (w.2.1 2))]) (by decide +kernel) (Nat.le_of_ble_eq_true rfl) rfl (fun x C hR hN => ?_)
  unfold fX1_opensGroup
  refine pw_aload_n C dX1_opensGroup_0 rfl rfl ?_
  refine pw_getr (q2 := 3) C (hL 2 _ rfl) rfl (k := 0) (by decide) rfl fl_X1_12 dX1_opensGroup_1 ?_
  refine pw_callVt (as := []) (rest := []) C dX1_opensGroup_4 ml_X1_60 cw_X0_groups im_X0_groups sl_X0_groups (hL 3 _ rfl) rfl ⟨by decide, by decide⟩ (c_X0_groups h 4 (hL 3 _ rfl) (hL 4 _ rfl)) rfl rfl (Nat.le_of_ble_eq_true rfl) ?_
  refine pw_iconst (v := 5) C dX1_opensGroup_7 (by decide) ?_
  refine pw_icmp_lt (tgt := 13) C dX1_opensGroup_8 (by decide) (fun c4 => ?_) (fun c4 => ?_)
  · refine pw_aload_n C dX1_opensGroup_13 rfl rfl ?_
    refine pw_getr (q2 := 3) C (hL 2 _ rfl) rfl (k := 0) (by decide) rfl fl_X1_12 dX1_opensGroup_14 ?_
    refine pw_callVvq (as := []) (rest := []) C dX1_opensGroup_17 ml_X1_64 cw_X0_addGroup im_X0_addGroup sl_X0_addGroup (hL 3 _ rfl) rfl ⟨by decide, by decide⟩ (c_X0_addGroup h 4 (hL 3 _ rfl) (hL 4 _ rfl)) rfl rfl (Nat.le_of_ble_eq_true rfl) (fun z1 => ?_)
    refine pw_aload_n C dX1_opensGroup_20 rfl rfl ?_
    refine pw_iconst (v := 0) C dX1_opensGroup_21 (by decide) ?_
    refine pw_putz C (hL 2 _ rfl) rfl (k := 4) (by decide) rfl fl_X1_32 dX1_opensGroup_22 rfl (by decide) (by decide) ?_
    refine pw_nameh (fun g2 => ?_)
    refine pw_aload_n C dX1_opensGroup_25 rfl rfl ?_
    refine pw_iconst (v := 1) C dX1_opensGroup_26 (by decide) ?_
    refine pw_puti C (hL 2 _ rfl) rfl (k := 2) (by decide) rfl fl_X1_25 dX1_opensGroup_27 rfl (by decide) ?_
    refine pw_nameh (fun g3 => ?_)
    refine pw_iconst (v := 1) C dX1_opensGroup_30 (by decide) ?_
    exact pw_zret' C hR dX1_opensGroup_31 (by decide)
  · refine pw_iconst (v := 0) C dX1_opensGroup_11 (by decide) ?_
    exact pw_zret' C hR dX1_opensGroup_12 (by decide)
set_option maxRecDepth 100000 in
set_option maxHeartbeats 4000000 in
theorem c_X1_opensCluster {l : Launch} {w : Wd} {A : Nat → Prop} (N : Nat) (h : Hp) (a1 : Int32) (hL : LX w) : ConI l yX1_opensCluster cX1_opensCluster 2 .boolean 3 w A [.ref (w.2.1 2), .int a1] h ((fX1_opensCluster N h a1)) := by
  refine ConI.of (lv0 := [some (.ref (w.2.1 2)), some (.int a1)]) (by decide +kernel) (Nat.le_of_ble_eq_true rfl) rfl (fun x C hR hN => ?_)
  unfold fX1_opensCluster
  refine pw_aload_n C dX1_opensCluster_0 rfl rfl ?_
  refine pw_getr (q2 := 3) C (hL 2 _ rfl) rfl (k := 0) (by decide) rfl fl_X1_12 dX1_opensCluster_1 ?_
  refine pw_aload_n C dX1_opensCluster_4 rfl rfl ?_
  refine pw_getr (q2 := 3) C (hL 2 _ rfl) rfl (k := 0) (by decide) rfl fl_X1_12 dX1_opensCluster_5 ?_
  refine pw_callVt (as := []) (rest := [.ref (w.2.1 3)]) C dX1_opensCluster_8 ml_X1_71 cw_X0_cords im_X0_cords sl_X0_cords (hL 3 _ rfl) rfl ⟨by decide, by decide⟩ (c_X0_cords h 4 (hL 3 _ rfl) (hL 4 _ rfl)) rfl rfl (Nat.le_of_ble_eq_true rfl) ?_
  refine pw_iconst (v := 1) C dX1_opensCluster_11 (by decide) ?_
  refine pw_isub C dX1_opensCluster_12 ?_
  refine pw_callVt (as := [.int ((fX0_cords h 4) - 1)]) (rest := []) C dX1_opensCluster_13 ml_X1_86 cw_X0_sizeOf im_X0_sizeOf sl_X0_sizeOf (hL 3 _ rfl) rfl ⟨by decide, by decide⟩ (c_X0_sizeOf h 4 ((fX0_cords h 4) - 1) (hL 3 _ rfl) (hL 4 _ rfl)) rfl rfl (Nat.le_of_ble_eq_true rfl) ?_
  refine pw_iconst (v := 4) C dX1_opensCluster_16 (by decide) ?_
  refine pw_icmp_lt (tgt := 22) C dX1_opensCluster_17 (by decide) (fun c5 => ?_) (fun c5 => ?_)
  · refine pw_iload_n C dX1_opensCluster_22 rfl rfl ?_
    refine pw_ite (fun e23_0 => ?_) (fun e23_0 => ?_)
    · refine pw_lks (tgt := 64) (off := 41) C dX1_opensCluster_23 (by decide) (by rw [e23_0]; decide) (by decide) ?_
      refine pw_aload_n C dX1_opensCluster_64 rfl rfl ?_
      refine pw_iconst (v := 0) C dX1_opensCluster_65 (by decide) ?_
      refine pw_iconst (v := 0) C dX1_opensCluster_66 (by decide) ?_
      refine pw_callViq (as := [.int 0, .int 0]) (rest := []) C dX1_opensCluster_67 ml_X1_50 cw_X1_endsCluster im_X1_endsCluster sl_X1_endsCluster (hL 2 _ rfl) rfl ⟨by decide, by decide⟩ (c_X1_endsCluster N h 0 0 hL) rfl rfl (Nat.le_of_ble_eq_true rfl) (fun z4 => ?_)
      exact pw_zret C hR dX1_opensCluster_70
    · refine pw_ite (fun e23_1 => ?_) (fun e23_1 => ?_)
      · refine pw_lks (tgt := 71) (off := 48) C dX1_opensCluster_23 (by decide) (by rw [e23_1]; decide) (by decide) ?_
        refine pw_aload_n C dX1_opensCluster_71 rfl rfl ?_
        refine pw_iconst (v := 3) C dX1_opensCluster_72 (by decide) ?_
        refine pw_iconst (v := 1) C dX1_opensCluster_73 (by decide) ?_
        refine pw_callViq (as := [.int 3, .int 1]) (rest := []) C dX1_opensCluster_74 ml_X1_50 cw_X1_endsCluster im_X1_endsCluster sl_X1_endsCluster (hL 2 _ rfl) rfl ⟨by decide, by decide⟩ (c_X1_endsCluster N h 3 1 hL) rfl rfl (Nat.le_of_ble_eq_true rfl) (fun z3 => ?_)
        exact pw_zret C hR dX1_opensCluster_77
      · refine pw_ite (fun e23_2 => ?_) (fun e23_2 => ?_)
        · refine pw_lks (tgt := 85) (off := 62) C dX1_opensCluster_23 (by decide) (by rw [e23_2]; decide) (by decide) ?_
          refine pw_aload_n C dX1_opensCluster_85 rfl rfl ?_
          refine pw_iconst (v := 4) C dX1_opensCluster_86 (by decide) ?_
          refine pw_puti C (hL 2 _ rfl) rfl (k := 2) (by decide) rfl fl_X1_25 dX1_opensCluster_87 rfl (by decide) ?_
          refine pw_nameh (fun g2 => ?_)
          refine pw_iconst (v := 1) C dX1_opensCluster_90 (by decide) ?_
          exact pw_zret' C hR dX1_opensCluster_91 (by decide)
        · refine pw_ite (fun e23_3 => ?_) (fun e23_3 => ?_)
          · refine pw_lks (tgt := 78) (off := 55) C dX1_opensCluster_23 (by decide) (by rw [e23_3]; decide) (by decide) ?_
            refine pw_aload_n C dX1_opensCluster_78 rfl rfl ?_
            refine pw_iconst (v := 3) C dX1_opensCluster_79 (by decide) ?_
            refine pw_puti C (hL 2 _ rfl) rfl (k := 2) (by decide) rfl fl_X1_25 dX1_opensCluster_80 rfl (by decide) ?_
            refine pw_nameh (fun g1 => ?_)
            refine pw_iconst (v := 1) C dX1_opensCluster_83 (by decide) ?_
            exact pw_zret' C hR dX1_opensCluster_84 (by decide)
          · refine pw_lks (tgt := 92) (off := 69) C dX1_opensCluster_23 (by decide) (by simp [Op.lookupswitch.offset, i_neS (z := 46) (by decide) e23_0, i_neS (z := 101) (by decide) e23_1, i_neS (z := 108) (by decide) e23_2, i_neS (z := 115) (by decide) e23_3]) (by decide) ?_
            refine pw_iconst (v := 0) C dX1_opensCluster_92 (by decide) ?_
            exact pw_zret' C hR dX1_opensCluster_93 (by decide)
  · refine pw_iconst (v := 0) C dX1_opensCluster_20 (by decide) ?_
    exact pw_zret' C hR dX1_opensCluster_21 (by decide)
set_option maxRecDepth 100000 in
set_option maxHeartbeats 4000000 in
theorem kX1_comesBehindCord_J100 {w : Wd} {x : Cz} (C : Ok w x cX1_comesBehindCord RX1 3) (hR : OkI w x .boolean) (hN : xN x = 3) (a1 : Int32) (hL : LX w)  : ∀ (u2 : Int32) (h : Hp), PW w x 100 [some (.ref (w.2.1 2)), some (.int a1), some (.int u2)] [] h ((fX1_comesBehindCord_J100 a1 u2 h)) := by
  intro u2 h
  unfold fX1_comesBehindCord_J100
  refine pw_iload_n C dX1_comesBehindCord_100 rfl rfl ?_
  refine pw_if_ne (tgt := 116) C dX1_comesBehindCord_101 (by decide) (fun c7 => ?_) (fun c7 => ?_)
  · refine pw_aload_n C dX1_comesBehindCord_104 rfl rfl ?_
    refine pw_iload_n C dX1_comesBehindCord_105 rfl rfl ?_
    refine pw_callViq (as := [.int a1]) (rest := []) C dX1_comesBehindCord_106 ml_X1_44 cw_X1_opensCord im_X1_opensCord sl_X1_opensCord (hL 2 _ rfl) rfl ⟨by decide, by decide⟩ (c_X1_opensCord h a1 hL) rfl rfl (Nat.le_of_ble_eq_true rfl) (fun z6 => ?_)
    refine pw_if_eq (tgt := 116) C dX1_comesBehindCord_109 (by decide) (fun c8 => ?_) (fun c8 => ?_)
    · refine pw_iconst (v := 0) C dX1_comesBehindCord_116 (by decide) ?_
      exact pw_zret' C hR dX1_comesBehindCord_117 (by decide)
    · refine pw_iconst (v := 1) C dX1_comesBehindCord_112 (by decide) ?_
      refine pw_goto (tgt := 117) C dX1_comesBehindCord_113 (by decide) ?_
      exact pw_zret' C hR dX1_comesBehindCord_117 (by decide)
  · refine pw_iconst (v := 0) C dX1_comesBehindCord_116 (by decide) ?_
    exact pw_zret' C hR dX1_comesBehindCord_117 (by decide)
set_option maxRecDepth 100000 in
set_option maxHeartbeats 4000000 in
theorem kX1_comesBehindCord_J80 {w : Wd} {x : Cz} (C : Ok w x cX1_comesBehindCord RX1 3) (hR : OkI w x .boolean) (hN : xN x = 3) (a1 : Int32) (hL : LX w)  : ∀ (u2 : Int32) (h : Hp), PW w x 80 [some (.ref (w.2.1 2)), some (.int a1), some (.int u2)] [] h ((fX1_comesBehindCord_J80 a1 u2 h)) := by
  intro u2 h
  unfold fX1_comesBehindCord_J80
  refine pw_iload_n C dX1_comesBehindCord_80 rfl rfl ?_
  refine pw_bipush (v := 93) C dX1_comesBehindCord_81 (by decide) ?_
  refine pw_icmp_ne (tgt := 100) C dX1_comesBehindCord_83 (by decide) (fun c9 => ?_) (fun c9 => ?_)
  · refine pw_aload_n C dX1_comesBehindCord_86 rfl rfl ?_
    refine pw_geti C (hL 2 _ rfl) rfl (k := 3) (by decide) rfl fl_X1_29 dX1_comesBehindCord_87 ?_
    refine pw_if_ne (tgt := 100) C dX1_comesBehindCord_90 (by decide) (fun c10 => ?_) (fun c10 => ?_)
    · refine pw_aload_n C dX1_comesBehindCord_93 rfl rfl ?_
      refine pw_iconst (v := 0) C dX1_comesBehindCord_94 (by decide) ?_
      refine pw_puti C (hL 2 _ rfl) rfl (k := 2) (by decide) rfl fl_X1_25 dX1_comesBehindCord_95 rfl (by decide) ?_
      refine pw_nameh (fun g5 => ?_)
      refine pw_iconst (v := 1) C dX1_comesBehindCord_98 (by decide) ?_
      exact pw_zret' C hR dX1_comesBehindCord_99 (by decide)
    · exact kX1_comesBehindCord_J100 C hR hN a1 hL u2 h
  · exact kX1_comesBehindCord_J100 C hR hN a1 hL u2 h
set_option maxRecDepth 100000 in
set_option maxHeartbeats 4000000 in
theorem kX1_comesBehindCord_J51 {w : Wd} {x : Cz} (C : Ok w x cX1_comesBehindCord RX1 3) (hR : OkI w x .boolean) (hN : xN x = 3) (a1 : Int32) (hL : LX w)  : ∀ (u2 : Int32) (h : Hp), PW w x 51 [some (.ref (w.2.1 2)), some (.int a1), some (.int u2)] [] h ((fX1_comesBehindCord_J51 a1 u2 h)) := by
  intro u2 h
  unfold fX1_comesBehindCord_J51
  refine pw_iload_n C dX1_comesBehindCord_51 rfl rfl ?_
  refine pw_bipush (v := 94) C dX1_comesBehindCord_52 (by decide) ?_
  refine pw_icmp_ne (tgt := 80) C dX1_comesBehindCord_54 (by decide) (fun c11 => ?_) (fun c11 => ?_)
  · refine pw_aload_n C dX1_comesBehindCord_57 rfl rfl ?_
    refine pw_geti C (hL 2 _ rfl) rfl (k := 3) (by decide) rfl fl_X1_29 dX1_comesBehindCord_58 ?_
    refine pw_if_ne (tgt := 80) C dX1_comesBehindCord_61 (by decide) (fun c12 => ?_) (fun c12 => ?_)
    · refine pw_iload_n C dX1_comesBehindCord_64 rfl rfl ?_
      refine pw_if_ne (tgt := 80) C dX1_comesBehindCord_65 (by decide) (fun c13 => ?_) (fun c13 => ?_)
      · refine pw_aload_n C dX1_comesBehindCord_68 rfl rfl ?_
        refine pw_iconst (v := 1) C dX1_comesBehindCord_69 (by decide) ?_
        refine pw_putz C (hL 2 _ rfl) rfl (k := 4) (by decide) rfl fl_X1_32 dX1_comesBehindCord_70 rfl (by decide) (by decide) ?_
        refine pw_nameh (fun g3 => ?_)
        refine pw_aload_n C dX1_comesBehindCord_73 rfl rfl ?_
        refine pw_iconst (v := 1) C dX1_comesBehindCord_74 (by decide) ?_
        refine pw_puti C (hL 2 _ rfl) rfl (k := 2) (by decide) rfl fl_X1_25 dX1_comesBehindCord_75 rfl (by decide) ?_
        refine pw_nameh (fun g4 => ?_)
        refine pw_iconst (v := 1) C dX1_comesBehindCord_78 (by decide) ?_
        exact pw_zret' C hR dX1_comesBehindCord_79 (by decide)
      · exact kX1_comesBehindCord_J80 C hR hN a1 hL u2 h
    · exact kX1_comesBehindCord_J80 C hR hN a1 hL u2 h
  · exact kX1_comesBehindCord_J80 C hR hN a1 hL u2 h
set_option maxRecDepth 100000 in
set_option maxHeartbeats 4000000 in
theorem kX1_comesBehindCord_J19 {w : Wd} {x : Cz} (C : Ok w x cX1_comesBehindCord RX1 3) (hR : OkI w x .boolean) (hN : xN x = 3) (a1 : Int32) (hL : LX w)  : ∀ (t0 : Int32) (h : Hp), PW w x 19 [some (.ref (w.2.1 2)), some (.int a1), none] [.int t0] h ((fX1_comesBehindCord_J19 a1 t0 h)) := by
  intro t0 h
  unfold fX1_comesBehindCord_J19
  refine pw_istore_n (lv2 := [some (.ref (w.2.1 2)), some (.int a1), some (.int t0)]) C dX1_comesBehindCord_19 rfl hN (by decide) rfl rfl ?_
  refine pw_iload_n C dX1_comesBehindCord_20 rfl rfl ?_
  refine pw_bipush (v := 41) C dX1_comesBehindCord_21 (by decide) ?_
  refine pw_icmp_ne (tgt := 51) C dX1_comesBehindCord_23 (by decide) (fun c14 => ?_) (fun c14 => ?_)
  · refine pw_aload_n C dX1_comesBehindCord_26 rfl rfl ?_
    refine pw_geti C (hL 2 _ rfl) rfl (k := 3) (by decide) rfl fl_X1_29 dX1_comesBehindCord_27 ?_
    refine pw_if_le (tgt := 51) C dX1_comesBehindCord_30 (by decide) (fun c15 => ?_) (fun c15 => ?_)
    · refine pw_aload_n C dX1_comesBehindCord_33 rfl rfl ?_
      refine pw_dup C dX1_comesBehindCord_34 rfl ?_
      refine pw_geti C (hL 2 _ rfl) rfl (k := 3) (by decide) rfl fl_X1_29 dX1_comesBehindCord_35 ?_
      refine pw_iconst (v := 1) C dX1_comesBehindCord_38 (by decide) ?_
      refine pw_isub C dX1_comesBehindCord_39 ?_
      refine pw_puti C (hL 2 _ rfl) rfl (k := 3) (by decide) rfl fl_X1_29 dX1_comesBehindCord_40 rfl (by decide) ?_
      refine pw_nameh (fun g1 => ?_)
      refine pw_aload_n C dX1_comesBehindCord_43 rfl rfl ?_
      refine pw_bipush (v := 6) C dX1_comesBehindCord_44 (by decide) ?_
      refine pw_puti C (hL 2 _ rfl) rfl (k := 2) (by decide) rfl fl_X1_25 dX1_comesBehindCord_46 rfl (by decide) ?_
      refine pw_nameh (fun g2 => ?_)
      refine pw_iconst (v := 1) C dX1_comesBehindCord_49 (by decide) ?_
      exact pw_zret' C hR dX1_comesBehindCord_50 (by decide)
    · exact kX1_comesBehindCord_J51 C hR hN a1 hL t0 h
  · exact kX1_comesBehindCord_J51 C hR hN a1 hL t0 h
set_option maxRecDepth 100000 in
set_option maxHeartbeats 4000000 in
theorem c_X1_comesBehindCord {l : Launch} {w : Wd} {A : Nat → Prop} (h : Hp) (a1 : Int32) (hL : LX w) : ConI l yX1_comesBehindCord cX1_comesBehindCord 3 .boolean 3 w A [.ref (w.2.1 2), .int a1] h ((fX1_comesBehindCord h a1)) := by
  refine ConI.of (lv0 := [some (.ref (w.2.1 2)), some (.int a1), none]) (by decide +kernel) (Nat.le_of_ble_eq_true rfl) rfl (fun x C hR hN => ?_)
  unfold fX1_comesBehindCord
  refine pw_aload_n C dX1_comesBehindCord_0 rfl rfl ?_
  refine pw_geti C (hL 2 _ rfl) rfl (k := 3) (by decide) rfl fl_X1_29 dX1_comesBehindCord_1 ?_
  refine PW.eq (apply_ite (fun z_ => (fX1_comesBehindCord_J19 a1 z_ h)) _ _ _) ?_
  refine pw_if_ne (tgt := 18) C dX1_comesBehindCord_4 (by decide) (fun c16 => ?_) (fun c16 => ?_)
  · refine pw_aload_n C dX1_comesBehindCord_7 rfl rfl ?_
    refine pw_geti C (hL 2 _ rfl) rfl (k := 4) (by decide) rfl fl_X1_32 dX1_comesBehindCord_8 ?_
    refine PW.eq (apply_ite (fun z_ => (fX1_comesBehindCord_J19 a1 z_ h)) _ _ _) ?_
    refine pw_if_eq (tgt := 18) C dX1_comesBehindCord_11 (by decide) (fun c17 => ?_) (fun c17 => ?_)
    · refine pw_iconst (v := 0) C dX1_comesBehindCord_18 (by decide) ?_
      exact kX1_comesBehindCord_J19 C hR hN a1 hL 0 h
    · refine pw_iconst (v := 1) C dX1_comesBehindCord_14 (by decide) ?_
      refine pw_goto (tgt := 19) C dX1_comesBehindCord_15 (by decide) ?_
      exact kX1_comesBehindCord_J19 C hR hN a1 hL 1 h
  · refine pw_iconst (v := 0) C dX1_comesBehindCord_18 (by decide) ?_
    exact kX1_comesBehindCord_J19 C hR hN a1 hL 0 h
set_option maxRecDepth 100000 in
set_option maxHeartbeats 4000000 in
theorem kX2_findEvenest_J108 {w : Wd} {x : Cz} (C : Ok w x cX2_findEvenest RX2 3) (hR : OkV w x) (hN : xN x = 9) (N : Nat) (hL : LX w) (k49 : Int32 → Int32 → Int32 → Int32 → Hp → Option Rs) (hk49 : ∀ (u1 : Int32) (u2 : Int32) (u3 : Int32) (u4 : Int32) (h : Hp), PW w x 49 [some (.ref (w.2.1 12)), some (.int u1), some (.int u2), some (.int u3), some (.int u4), none, none, none, none] [] h ((k49 u1 u2 u3 u4 h))) : ∀ (u1 : Int32) (u2 : Int32) (u3 : Int32) (u4 : Int32) (u6 : Int32) (u7 : Int32) (t0 : Int32) (h : Hp), PW w x 108 [some (.ref (w.2.1 12)), some (.int u1), some (.int u2), some (.int u3), some (.int u4), none, some (.int u6), some (.int u7), none] [.int t0] h ((fX2_findEvenest_J108 N k49 u1 u2 u3 u4 u6 u7 t0 h)) := by
  intro u1 u2 u3 u4 u6 u7 t0 h
  unfold fX2_findEvenest_J108
  refine pw_istore (lv2 := [some (.ref (w.2.1 12)), some (.int u1), some (.int u2), some (.int u3), some (.int u4), none, some (.int u6), some (.int u7), some (.int t0)]) C dX2_findEvenest_108 hN (by decide) rfl rfl ?_
  refine pw_aload_n C dX2_findEvenest_110 rfl rfl ?_
  refine pw_iload C dX2_findEvenest_111 rfl ?_
  refine pw_iload C dX2_findEvenest_113 rfl ?_
  refine pw_iload C dX2_findEvenest_115 rfl ?_
  refine pw_iload C dX2_findEvenest_117 rfl ?_
  refine pw_iload_n C dX2_findEvenest_119 rfl rfl ?_
  refine pw_callViq (as := [.int t0, .int u7, .int u4, .int u6, .int u3]) (rest := []) C dX2_findEvenest_120 ml_X2_57 cw_X2_better im_X2_better sl_X2_better (hL 12 _ rfl) rfl ⟨by decide, by decide⟩ (c_X2_better h t0 u7 u4 u6 u3 hL) rfl rfl (Nat.le_of_ble_eq_true rfl) (fun z10 => ?_)
  refine pw_istore_n (lv2 := [some (.ref (w.2.1 12)), some (.int u1), some (.int u2), some (.int z10.1), some (.int u4), none, some (.int u6), some (.int u7), some (.int t0)]) C dX2_findEvenest_123 rfl hN (by decide) rfl rfl ?_
  refine pw_iinc (lv2 := [some (.ref (w.2.1 12)), some (.int u1), some (.int u2), some (.int z10.1), some (.int (u4 + 1)), none, some (.int u6), some (.int u7), some (.int t0)]) C dX2_findEvenest_124 rfl rfl hN (by decide) rfl rfl ?_
  refine pw_goto (tgt := 49) C dX2_findEvenest_127 (by decide) ?_
  exact pw_lv (hk49 u1 u2 z10.1 (u4 + 1) z10.2) ⟨rfl, rfl, rfl, rfl, rfl, trivial⟩
set_option maxRecDepth 100000 in
set_option maxHeartbeats 4000000 in
theorem kX2_findEvenest_L49 {w : Wd} {x : Cz} (C : Ok w x cX2_findEvenest RX2 3) (hR : OkV w x) (hN : xN x = 9) (N : Nat) (hL : LX w)  : ∀ (n : Nat) (u1 : Int32) (u2 : Int32) (u3 : Int32) (u4 : Int32) (h : Hp), PW w x 49 [some (.ref (w.2.1 12)), some (.int u1), some (.int u2), some (.int u3), some (.int u4), none, none, none, none] [] h ((fX2_findEvenest_L49 N n u1 u2 u3 u4 h)) := by
  intro n
  induction n with
  | zero => intro u1 u2 u3 u4 h; rw [fX2_findEvenest_L49]; exact pw_none
  | succ n ih =>
    intro u1 u2 u3 u4 h
    rw [fX2_findEvenest_L49]
    refine pw_iload C dX2_findEvenest_49 rfl ?_
    refine pw_iload_n C dX2_findEvenest_51 rfl rfl ?_
    refine pw_icmp_ge (tgt := 130) C dX2_findEvenest_52 (by decide) (fun c11 => ?_) (fun c11 => ?_)
    · refine pw_aload_n C dX2_findEvenest_55 rfl rfl ?_
      refine pw_getr (q2 := 15) C (hL 12 _ rfl) rfl (k := 2) (by decide) rfl fl_X2_18 dX2_findEvenest_56 ?_
      refine pw_iload C dX2_findEvenest_59 rfl ?_
      refine pw_callSNt (host := "ToldInKnots") (as := [.ref (w.2.1 15), .int u4]) (rest := []) C dX2_findEvenest_61 (by decide +kernel) cw_X4_at st_X4_at ⟨by decide, by decide⟩ (c_X4_at h 15 256 u4 (hL 15 _ rfl)) rfl rfl (Nat.le_of_ble_eq_true rfl) ?_
      refine pw_istore (lv2 := [some (.ref (w.2.1 12)), some (.int u1), some (.int u2), some (.int u3), some (.int u4), some (.int (atF h 15 256 u4)), none, none, none]) C dX2_findEvenest_64 hN (by decide) rfl rfl ?_
      refine pw_iload_n C dX2_findEvenest_66 rfl rfl ?_
      refine pw_iconst (v := 2) C dX2_findEvenest_67 (by decide) ?_
      refine pw_iload C dX2_findEvenest_68 rfl ?_
      refine pw_imul C dX2_findEvenest_70 ?_
      refine pw_isub C dX2_findEvenest_71 ?_
      refine pw_name (fun v4 => ?_)
      refine pw_istore (lv2 := [some (.ref (w.2.1 12)), some (.int u1), some (.int u2), some (.int u3), some (.int u4), some (.int (atF h 15 256 u4)), some (.int v4), none, none]) C dX2_findEvenest_72 hN (by decide) rfl rfl ?_
      refine pw_aload_n C dX2_findEvenest_74 rfl rfl ?_
      refine pw_iload C dX2_findEvenest_75 rfl ?_
      refine pw_iconst (v := 1) C dX2_findEvenest_77 (by decide) ?_
      refine pw_iadd C dX2_findEvenest_78 ?_
      refine pw_iconst (v := 2) C dX2_findEvenest_79 (by decide) ?_
      refine pw_idiv C dX2_findEvenest_80 (by decide) ?_
      refine pw_callVp (as := [.int ((v4 + 1) / 2)]) (rest := []) C dX2_findEvenest_81 ml_X2_50 cw_X2_firstFrom im_X2_firstFrom sl_X2_firstFrom (hL 12 _ rfl) rfl ⟨by decide, by decide⟩ (c_X2_firstFrom N h ((v4 + 1) / 2) hL) rfl rfl (Nat.le_of_ble_eq_true rfl) (fun v5 => ?_)
      refine pw_istore (lv2 := [some (.ref (w.2.1 12)), some (.int u1), some (.int u2), some (.int u3), some (.int u4), some (.int (atF h 15 256 u4)), some (.int v4), some (.int v5), none]) C dX2_findEvenest_84 hN (by decide) rfl rfl ?_
      refine pw_iload C dX2_findEvenest_86 rfl ?_
      refine pw_if_le (tgt := 106) C dX2_findEvenest_88 (by decide) (fun c12 => ?_) (fun c12 => ?_)
      · refine pw_aload_n C dX2_findEvenest_91 rfl rfl ?_
        refine pw_aload_n C dX2_findEvenest_92 rfl rfl ?_
        refine pw_iload C dX2_findEvenest_93 rfl ?_
        refine pw_iconst (v := 1) C dX2_findEvenest_95 (by decide) ?_
        refine pw_isub C dX2_findEvenest_96 ?_
        refine pw_callVp (as := [.int (v5 - 1)]) (rest := [.ref (w.2.1 12)]) C dX2_findEvenest_97 ml_X2_54 cw_X2_sumAt im_X2_sumAt sl_X2_sumAt (hL 12 _ rfl) rfl ⟨by decide, by decide⟩ (c_X2_sumAt h (v5 - 1) hL) rfl rfl (Nat.le_of_ble_eq_true rfl) (fun v6 => ?_)
        refine pw_callVp (as := [.int v6]) (rest := []) C dX2_findEvenest_100 ml_X2_50 cw_X2_firstFrom im_X2_firstFrom sl_X2_firstFrom (hL 12 _ rfl) rfl ⟨by decide, by decide⟩ (c_X2_firstFrom N h v6 hL) rfl rfl (Nat.le_of_ble_eq_true rfl) (fun v7 => ?_)
        refine pw_goto (tgt := 108) C dX2_findEvenest_103 (by decide) ?_
        exact pw_lv (kX2_findEvenest_J108 C hR hN N hL (fX2_findEvenest_L49 N n) ih u1 u2 u3 u4 v4 v5 v7 h) ⟨rfl, rfl, rfl, rfl, rfl, rfl, rfl, trivial⟩
      · refine pw_iload C dX2_findEvenest_106 rfl ?_
        exact pw_lv (kX2_findEvenest_J108 C hR hN N hL (fX2_findEvenest_L49 N n) ih u1 u2 u3 u4 v4 v5 v5 h) ⟨rfl, rfl, rfl, rfl, rfl, rfl, rfl, trivial⟩
    · refine pw_aload_n C dX2_findEvenest_130 rfl rfl ?_
      refine pw_aload_n C dX2_findEvenest_131 rfl rfl ?_
      refine pw_iload_n C dX2_findEvenest_132 rfl rfl ?_
      refine pw_callVp (as := [.int u3]) (rest := [.ref (w.2.1 12)]) C dX2_findEvenest_133 ml_X2_61 cw_X2_asCords im_X2_asCords sl_X2_asCords (hL 12 _ rfl) rfl ⟨by decide, by decide⟩ (c_X2_asCords N h u3 hL) rfl rfl (Nat.le_of_ble_eq_true rfl) (fun v8 => ?_)
      refine pw_puti C (hL 12 _ rfl) rfl (k := 7) (by decide) rfl fl_X2_64 dX2_findEvenest_136 rfl (by decide) ?_
      refine pw_nameh (fun g9 => ?_)
      exact pw_vret C hR dX2_findEvenest_139
set_option maxRecDepth 100000 in
set_option maxHeartbeats 4000000 in
theorem kX2_findEvenest_L14 {w : Wd} {x : Cz} (C : Ok w x cX2_findEvenest RX2 3) (hR : OkV w x) (hN : xN x = 9) (N : Nat) (hL : LX w)  : ∀ (n : Nat) (u1 : Int32) (u2 : Int32) (u3 : Int32) (h : Hp), PW w x 14 [some (.ref (w.2.1 12)), some (.int u1), some (.int u2), some (.int u3), none, none, none, none, none] [] h ((fX2_findEvenest_L14 N n u1 u2 u3 h)) := by
  intro n
  induction n with
  | zero => intro u1 u2 u3 h; rw [fX2_findEvenest_L14]; exact pw_none
  | succ n ih =>
    intro u1 u2 u3 h
    rw [fX2_findEvenest_L14]
    refine pw_iload_n C dX2_findEvenest_14 rfl rfl ?_
    refine pw_aload_n C dX2_findEvenest_15 rfl rfl ?_
    refine pw_geti C (hL 12 _ rfl) rfl (k := 5) (by decide) rfl fl_X2_27 dX2_findEvenest_16 ?_
    refine pw_icmp_ge (tgt := 39) C dX2_findEvenest_19 (by decide) (fun c13 => ?_) (fun c13 => ?_)
    · refine pw_iload_n C dX2_findEvenest_22 rfl rfl ?_
      refine pw_aload_n C dX2_findEvenest_23 rfl rfl ?_
      refine pw_getr (q2 := 14) C (hL 12 _ rfl) rfl (k := 1) (by decide) rfl fl_X2_15 dX2_findEvenest_24 ?_
      refine pw_iload_n C dX2_findEvenest_27 rfl rfl ?_
      refine pw_callSNt (host := "ToldInKnots") (as := [.ref (w.2.1 14), .int u3]) (rest := [.int u2]) C dX2_findEvenest_28 (by decide +kernel) cw_X4_at st_X4_at ⟨by decide, by decide⟩ (c_X4_at h 14 16 u3 (hL 14 _ rfl)) rfl rfl (Nat.le_of_ble_eq_true rfl) ?_
      refine pw_iadd C dX2_findEvenest_31 ?_
      refine pw_istore_n (lv2 := [some (.ref (w.2.1 12)), some (.int u1), some (.int (u2 + (atF h 14 16 u3))), some (.int u3), none, none, none, none, none]) C dX2_findEvenest_32 rfl hN (by decide) rfl rfl ?_
      refine pw_iinc (lv2 := [some (.ref (w.2.1 12)), some (.int u1), some (.int (u2 + (atF h 14 16 u3))), some (.int (u3 + 1)), none, none, none, none, none]) C dX2_findEvenest_33 rfl rfl hN (by decide) rfl rfl ?_
      refine pw_goto (tgt := 14) C dX2_findEvenest_36 (by decide) ?_
      exact ih u1 (u2 + (atF h 14 16 u3)) (u3 + 1) h
    · refine pw_iconst (v := 0) C dX2_findEvenest_39 (by decide) ?_
      refine pw_istore_n (lv2 := [some (.ref (w.2.1 12)), some (.int u1), some (.int u2), some (.int 0), none, none, none, none, none]) C dX2_findEvenest_40 rfl hN (by decide) rfl rfl ?_
      refine pw_aload_n C dX2_findEvenest_41 rfl rfl ?_
      refine pw_iload_n C dX2_findEvenest_42 rfl rfl ?_
      refine pw_puti C (hL 12 _ rfl) rfl (k := 8) (by decide) rfl fl_X2_47 dX2_findEvenest_43 rfl (by decide) ?_
      refine pw_nameh (fun g3 => ?_)
      refine pw_iconst (v := 0) C dX2_findEvenest_46 (by decide) ?_
      refine pw_istore (lv2 := [some (.ref (w.2.1 12)), some (.int u1), some (.int u2), some (.int 0), some (.int 0), none, none, none, none]) C dX2_findEvenest_47 hN (by decide) rfl rfl ?_
      exact kX2_findEvenest_L49 C hR hN N hL N u1 u2 0 0 g3
set_option maxRecDepth 100000 in
set_option maxHeartbeats 4000000 in
theorem c_X2_findEvenest {l : Launch} {w : Wd} {A : Nat → Prop} (N : Nat) (h : Hp) (hL : LX w) : ConV l yX2_findEvenest cX2_findEvenest 9 3 w A [.ref (w.2.1 12)] h ((fX2_findEvenest N h)) := by
  refine ConV.of (lv0 := [some (.ref (w.2.1 12)), none, none, none, none, none, none, none, none]) (by decide +kernel) (Nat.le_of_ble_eq_true rfl) rfl (fun x C hR hN => ?_)
  unfold fX2_findEvenest
  refine pw_aload_n C dX2_findEvenest_0 rfl rfl ?_
  refine pw_iconst (v := 0) C dX2_findEvenest_1 (by decide) ?_
  refine pw_callVvq (as := [.int 0]) (rest := []) C dX2_findEvenest_2 ml_X2_35 cw_X2_spreadLow im_X2_spreadLow sl_X2_spreadLow (hL 12 _ rfl) rfl ⟨by decide, by decide⟩ (c_X2_spreadLow N h 0 hL) rfl rfl (Nat.le_of_ble_eq_true rfl) (fun z1 => ?_)
  refine pw_aload_n C dX2_findEvenest_5 rfl rfl ?_
  refine pw_callViq (as := []) (rest := []) C dX2_findEvenest_6 ml_X2_39 cw_X2_spreadHigh im_X2_spreadHigh sl_X2_spreadHigh (hL 12 _ rfl) rfl ⟨by decide, by decide⟩ (c_X2_spreadHigh N z1.2 hL) rfl rfl (Nat.le_of_ble_eq_true rfl) (fun z2 => ?_)
  refine pw_istore_n (lv2 := [some (.ref (w.2.1 12)), some (.int z2.1), none, none, none, none, none, none, none]) C dX2_findEvenest_9 rfl hN (by decide) rfl rfl ?_
  refine pw_iconst (v := 0) C dX2_findEvenest_10 (by decide) ?_
  refine pw_istore_n (lv2 := [some (.ref (w.2.1 12)), some (.int z2.1), some (.int 0), none, none, none, none, none, none]) C dX2_findEvenest_11 rfl hN (by decide) rfl rfl ?_
  refine pw_iconst (v := 0) C dX2_findEvenest_12 (by decide) ?_
  refine pw_istore_n (lv2 := [some (.ref (w.2.1 12)), some (.int z2.1), some (.int 0), some (.int 0), none, none, none, none, none]) C dX2_findEvenest_13 rfl hN (by decide) rfl rfl ?_
  exact kX2_findEvenest_L14 C hR hN N hL N z2.1 0 0 z2.2
