set_option maxRecDepth 100000 in
set_option maxHeartbeats 4000000 in
theorem kX2_spreadLow_L16 {w : Wd} {x : Cz} (C : Ok w x cX2_spreadLow RX2 2) (hR : OkV w x) (hN : xN x = 3) (N : Nat) (a1 : Int32) (hL : LX w)  : ∀ (n : Nat) (u2 : Int32) (h : Hp), PW w x 16 [some (.ref (w.2.1 12)), some (.int a1), some (.int u2)] [] h ((fX2_spreadLow_L16 N a1 n u2 h)) := by
  intro n
  induction n with
  | zero => intro u2 h; rw [fX2_spreadLow_L16]; exact pw_none
  | succ n ih =>
    intro u2 h
    rw [fX2_spreadLow_L16]
    refine pw_iload_n C dX2_spreadLow_16 rfl rfl ?_
    refine pw_aload_n C dX2_spreadLow_17 rfl rfl ?_
    refine pw_geti C (hL 12 _ rfl) rfl (k := 5) (by decide) rfl fl_X2_27 dX2_spreadLow_18 ?_
    refine pw_icmp_ge (tgt := 60) C dX2_spreadLow_21 (by decide) (fun c5 => ?_) (fun c5 => ?_)
    · refine pw_iload_n C dX2_spreadLow_24 rfl rfl ?_
      refine pw_bipush (v := 8) C dX2_spreadLow_25 (by decide) ?_
      refine pw_icmp_ge (tgt := 60) C dX2_spreadLow_27 (by decide) (fun c6 => ?_) (fun c6 => ?_)
      · refine pw_aload_n C dX2_spreadLow_30 rfl rfl ?_
        refine pw_aload_n C dX2_spreadLow_31 rfl rfl ?_
        refine pw_getr (q2 := 14) C (hL 12 _ rfl) rfl (k := 1) (by decide) rfl fl_X2_15 dX2_spreadLow_32 ?_
        refine pw_iload_n C dX2_spreadLow_35 rfl rfl ?_
        refine pw_callSNt (host := "ToldInKnots") (as := [.ref (w.2.1 14), .int u2]) (rest := [.ref (w.2.1 12)]) C dX2_spreadLow_36 (by decide +kernel) cw_X4_at st_X4_at ⟨by decide, by decide⟩ (c_X4_at h 14 16 u2 (hL 14 _ rfl)) rfl rfl (Nat.le_of_ble_eq_true rfl) ?_
        refine pw_bipush (v := 12) C dX2_spreadLow_39 (by decide) ?_
        refine pw_ishl C dX2_spreadLow_41 ?_
        refine pw_iload_n C dX2_spreadLow_42 rfl rfl ?_
        refine pw_bipush (v := 8) C dX2_spreadLow_43 (by decide) ?_
        refine pw_ishl C dX2_spreadLow_45 ?_
        refine pw_ior C dX2_spreadLow_46 ?_
        refine pw_iconst (v := 1) C dX2_spreadLow_47 (by decide) ?_
        refine pw_iload_n C dX2_spreadLow_48 rfl rfl ?_
        refine pw_ishl C dX2_spreadLow_49 ?_
        refine pw_ior C dX2_spreadLow_50 ?_
        refine pw_callVvq (as := [.int ((((atF h 14 16 u2) <<< (12 &&& 31)) ||| (a1 <<< (8 &&& 31))) ||| (1 <<< (u2 &&& 31)))]) (rest := []) C dX2_spreadLow_51 ml_X2_83 cw_X2_mergeWith im_X2_mergeWith sl_X2_mergeWith (hL 12 _ rfl) rfl ⟨by decide, by decide⟩ (c_X2_mergeWith N h ((((atF h 14 16 u2) <<< (12 &&& 31)) ||| (a1 <<< (8 &&& 31))) ||| (1 <<< (u2 &&& 31))) hL) rfl rfl (Nat.le_of_ble_eq_true rfl) (fun z4 => ?_)
        refine pw_iinc (lv2 := [some (.ref (w.2.1 12)), some (.int a1), some (.int (u2 + 1))]) C dX2_spreadLow_54 rfl rfl hN (by decide) rfl rfl ?_
        refine pw_goto (tgt := 16) C dX2_spreadLow_57 (by decide) ?_
        exact ih (u2 + 1) z4.2
      · exact pw_vret C hR dX2_spreadLow_60
    · exact pw_vret C hR dX2_spreadLow_60
set_option maxRecDepth 100000 in
set_option maxHeartbeats 4000000 in
theorem c_X2_spreadLow {l : Launch} {w : Wd} {A : Nat → Prop} (N : Nat) (h : Hp) (a1 : Int32) (hL : LX w) : ConV l yX2_spreadLow cX2_spreadLow 3 2 w A [.ref (w.2.1 12), .int a1] h ((fX2_spreadLow N h a1)) := by
  refine ConV.of (lv0 := [some (.ref (w.2.1 12)), some (.int a1), none]) (by decide +kernel) (Nat.le_of_ble_eq_true rfl) rfl (fun x C hR hN => ?_)
  unfold fX2_spreadLow
  refine pw_aload_n C dX2_spreadLow_0 rfl rfl ?_
  refine pw_ck (fun hc1 => ?_)
  refine pw_getd C (hL 12 _ rfl) rfl (k := 3) (by decide) rfl fl_X2_21 dX2_spreadLow_1 ?_
  refine pw_iconst (v := 0) C dX2_spreadLow_4 (by decide) ?_
  refine pw_iconst (v := 0) C dX2_spreadLow_5 (by decide) ?_
  refine pw_callSNw (host := "ToldInKnots") (as := [.ref (w.2.1 ((h 12 3).toNatClampNeg)), .int 0, .int 0]) (rest := []) C dX2_spreadLow_6 (by decide +kernel) cw_X4_put st_X4_put ⟨by decide, by decide⟩ (c_X4_put h ((h 12 3).toNatClampNeg) 256 0 0 (dynK hL hc1)) rfl rfl (Nat.le_of_ble_eq_true rfl) ?_
  refine pw_nameh (fun g2 => ?_)
  refine pw_aload_n C dX2_spreadLow_9 rfl rfl ?_
  refine pw_iconst (v := 1) C dX2_spreadLow_10 (by decide) ?_
  refine pw_puti C (hL 12 _ rfl) rfl (k := 6) (by decide) rfl fl_X2_72 dX2_spreadLow_11 rfl (by decide) ?_
  refine pw_nameh (fun g3 => ?_)
  refine pw_iconst (v := 0) C dX2_spreadLow_14 (by decide) ?_
  refine pw_istore_n (lv2 := [some (.ref (w.2.1 12)), some (.int a1), some (.int 0)]) C dX2_spreadLow_15 rfl hN (by decide) rfl rfl ?_
  exact kX2_spreadLow_L16 C hR hN N a1 hL N 0 g3
set_option maxRecDepth 100000 in
set_option maxHeartbeats 4000000 in
theorem kX2_firstFrom_L6 {w : Wd} {x : Cz} (C : Ok w x cX2_firstFrom RX2 2) (hR : OkI w x .int) (hN : xN x = 5) (N : Nat) (h : Hp) (a1 : Int32) (hL : LX w)  : ∀ (n : Nat) (u2 : Int32) (u3 : Int32), PW w x 6 [some (.ref (w.2.1 12)), some (.int a1), some (.int u2), some (.int u3), none] [] h (Option.map (fun v => (v, h)) (fX2_firstFrom_L6 N h a1 n u2 u3)) := by
  intro n
  induction n with
  | zero => intro u2 u3; rw [fX2_firstFrom_L6]; exact pw_none
  | succ n ih =>
    intro u2 u3
    rw [fX2_firstFrom_L6]
    refine pw_iload_n C dX2_firstFrom_6 rfl rfl ?_
    refine pm_if_le (tgt := 50) C dX2_firstFrom_7 (by decide) (fun c2 => ?_) (fun c2 => ?_)
    · refine pw_iload_n C dX2_firstFrom_10 rfl rfl ?_
      refine pw_iload_n C dX2_firstFrom_11 rfl rfl ?_
      refine pw_iadd C dX2_firstFrom_12 ?_
      refine pw_istore (lv2 := [some (.ref (w.2.1 12)), some (.int a1), some (.int u2), some (.int u3), some (.int (u2 + u3))]) C dX2_firstFrom_13 hN (by decide) rfl rfl ?_
      refine pw_iload C dX2_firstFrom_15 rfl ?_
      refine pw_aload_n C dX2_firstFrom_17 rfl rfl ?_
      refine pw_geti C (hL 12 _ rfl) rfl (k := 6) (by decide) rfl fl_X2_72 dX2_firstFrom_18 ?_
      refine pm_icmp_gt (tgt := 41) C dX2_firstFrom_21 (by decide) (fun c3 => ?_) (fun c3 => ?_)
      · refine pw_iload_n C dX2_firstFrom_41 rfl rfl ?_
        refine pw_istore_n (lv2 := [some (.ref (w.2.1 12)), some (.int a1), some (.int u2), some (.int u3), some (.int (u2 + u3))]) C dX2_firstFrom_42 rfl hN (by decide) rfl rfl ?_
        refine pw_iload_n C dX2_firstFrom_43 rfl rfl ?_
        refine pw_iconst (v := 2) C dX2_firstFrom_44 (by decide) ?_
        refine pw_idiv C dX2_firstFrom_45 (by decide) ?_
        refine pw_istore_n (lv2 := [some (.ref (w.2.1 12)), some (.int a1), some (.int u2), some (.int (u3 / 2)), some (.int (u2 + u3))]) C dX2_firstFrom_46 rfl hN (by decide) rfl rfl ?_
        refine pw_goto (tgt := 6) C dX2_firstFrom_47 (by decide) ?_
        exact pw_lv (ih u2 (u3 / 2)) ⟨rfl, rfl, rfl, rfl, trivial⟩
      · refine pw_aload_n C dX2_firstFrom_24 rfl rfl ?_
        refine pw_iload C dX2_firstFrom_25 rfl ?_
        refine pw_iconst (v := 1) C dX2_firstFrom_27 (by decide) ?_
        refine pw_isub C dX2_firstFrom_28 ?_
        refine pm_callVp (as := [.int ((u2 + u3) - 1)]) (rest := []) C dX2_firstFrom_29 ml_X2_54 cw_X2_sumAt im_X2_sumAt sl_X2_sumAt (hL 12 _ rfl) rfl ⟨by decide, by decide⟩ (c_X2_sumAt h ((u2 + u3) - 1) hL) rfl rfl (Nat.le_of_ble_eq_true rfl) (fun v1 => ?_)
        refine pw_iload_n C dX2_firstFrom_32 rfl rfl ?_
        refine PW.eq (apply_ite (fun z_ => Option.map (fun v => (v, h)) (fX2_firstFrom_L6 N h a1 n z_ (u3 / 2))) _ _ _) ?_
        refine pw_icmp_ge (tgt := 41) C dX2_firstFrom_33 (by decide) (fun c4 => ?_) (fun c4 => ?_)
        · refine pw_iload C dX2_firstFrom_36 rfl ?_
          refine pw_goto (tgt := 42) C dX2_firstFrom_38 (by decide) ?_
          refine pw_istore_n (lv2 := [some (.ref (w.2.1 12)), some (.int a1), some (.int (u2 + u3)), some (.int u3), some (.int (u2 + u3))]) C dX2_firstFrom_42 rfl hN (by decide) rfl rfl ?_
          refine pw_iload_n C dX2_firstFrom_43 rfl rfl ?_
          refine pw_iconst (v := 2) C dX2_firstFrom_44 (by decide) ?_
          refine pw_idiv C dX2_firstFrom_45 (by decide) ?_
          refine pw_istore_n (lv2 := [some (.ref (w.2.1 12)), some (.int a1), some (.int (u2 + u3)), some (.int (u3 / 2)), some (.int (u2 + u3))]) C dX2_firstFrom_46 rfl hN (by decide) rfl rfl ?_
          refine pw_goto (tgt := 6) C dX2_firstFrom_47 (by decide) ?_
          exact pw_lv (ih (u2 + u3) (u3 / 2)) ⟨rfl, rfl, rfl, rfl, trivial⟩
        · refine pw_iload_n C dX2_firstFrom_41 rfl rfl ?_
          refine pw_istore_n (lv2 := [some (.ref (w.2.1 12)), some (.int a1), some (.int u2), some (.int u3), some (.int (u2 + u3))]) C dX2_firstFrom_42 rfl hN (by decide) rfl rfl ?_
          refine pw_iload_n C dX2_firstFrom_43 rfl rfl ?_
          refine pw_iconst (v := 2) C dX2_firstFrom_44 (by decide) ?_
          refine pw_idiv C dX2_firstFrom_45 (by decide) ?_
          refine pw_istore_n (lv2 := [some (.ref (w.2.1 12)), some (.int a1), some (.int u2), some (.int (u3 / 2)), some (.int (u2 + u3))]) C dX2_firstFrom_46 rfl hN (by decide) rfl rfl ?_
          refine pw_goto (tgt := 6) C dX2_firstFrom_47 (by decide) ?_
          exact pw_lv (ih u2 (u3 / 2)) ⟨rfl, rfl, rfl, rfl, trivial⟩
    · refine pw_iload_n C dX2_firstFrom_50 rfl rfl ?_
      exact pm_iret C hR dX2_firstFrom_51
set_option maxRecDepth 100000 in
set_option maxHeartbeats 4000000 in
theorem c_X2_firstFrom {l : Launch} {w : Wd} {A : Nat → Prop} (N : Nat) (h : Hp) (a1 : Int32) (hL : LX w) : ConI l yX2_firstFrom cX2_firstFrom 5 .int 2 w A [.ref (w.2.1 12), .int a1] h (Option.map (fun v => (v, h)) (fX2_firstFrom N h a1)) := by
  refine ConI.of (lv0 := [some (.ref (w.2.1 12)), some (.int a1), none, none, none]) (by decide +kernel) (Nat.le_of_ble_eq_true rfl) rfl (fun x C hR hN => ?_)
  unfold fX2_firstFrom
  refine pw_iconst (v := 0) C dX2_firstFrom_0 (by decide) ?_
  refine pw_istore_n (lv2 := [some (.ref (w.2.1 12)), some (.int a1), some (.int 0), none, none]) C dX2_firstFrom_1 rfl hN (by decide) rfl rfl ?_
  refine pw_sipush (v := 256) C dX2_firstFrom_2 (by decide) ?_
  refine pw_istore_n (lv2 := [some (.ref (w.2.1 12)), some (.int a1), some (.int 0), some (.int 256), none]) C dX2_firstFrom_5 rfl hN (by decide) rfl rfl ?_
  exact kX2_firstFrom_L6 C hR hN N h a1 hL N 0 256
set_option maxRecDepth 100000 in
set_option maxHeartbeats 4000000 in
theorem kX3_add_J60 {w : Wd} {x : Cz} (C : Ok w x cX3_add RX3 2) (hR : OkV w x) (hN : xN x = 3) (N : Nat) (sh sl nl : Nat) (q1 n1 : Nat) (hs : w.2.2.1[sh]? = some (0, 3, [0, sl + 2, 0])) (hl : w.2.2.1[sl]? = some (1, nl, [])) (hq1 : w.2.2.1[q1]? = some (1, n1, []))  : ∀ (h : Hp), PW w x 60 [some (.ref (w.2.1 sh)), some (.ref (w.2.1 q1)), none] [] h ((fX3_add_J60 N sh sl nl q1 n1 h)) := by
  intro h
  unfold fX3_add_J60
  refine pw_aload_n C dX3_add_60 rfl rfl ?_
  refine pw_iconst (v := 0) C dX3_add_61 (by decide) ?_
  refine pw_aload_n C dX3_add_62 rfl rfl ?_
  refine pw_getr (q2 := sl) C hs rfl (k := 1) (by decide) rfl fl_X3_21 dX3_add_63 ?_
  refine pw_aload_n C dX3_add_66 rfl rfl ?_
  refine pw_geti C hs rfl (k := 2) (by decide) rfl fl_X3_25 dX3_add_67 ?_
  refine pw_sipush (v := 179) C dX3_add_70 (by decide) ?_
  refine pw_imul C dX3_add_73 ?_
  refine pw_callSNvq (host := "ToldInKnots") (as := [.ref (w.2.1 q1), .int 0, .ref (w.2.1 sl), .int ((h sh 2) * 179)]) (rest := []) C dX3_add_74 (by decide +kernel) cw_X4_copyRow st_X4_copyRow ⟨by decide, by decide⟩ (c_X4_copyRow h q1 n1 0 sl nl ((h sh 2) * 179) hq1 hl) rfl rfl (Nat.le_of_ble_eq_true rfl) (fun z1 => ?_)
  refine pw_aload_n C dX3_add_77 rfl rfl ?_
  refine pw_dup C dX3_add_78 rfl ?_
  refine pw_geti C hs rfl (k := 2) (by decide) rfl fl_X3_25 dX3_add_79 ?_
  refine pw_iconst (v := 1) C dX3_add_82 (by decide) ?_
  refine pw_iadd C dX3_add_83 ?_
  refine pw_puti C hs rfl (k := 2) (by decide) rfl fl_X3_25 dX3_add_84 rfl (by decide) ?_
  refine pw_nameh (fun g2 => ?_)
  exact pw_vret C hR dX3_add_87
set_option maxRecDepth 100000 in
set_option maxHeartbeats 4000000 in
theorem kX3_add_L13 {w : Wd} {x : Cz} (C : Ok w x cX3_add RX3 2) (hR : OkV w x) (hN : xN x = 3) (N : Nat) (sh sl nl : Nat) (q1 n1 : Nat) (hs : w.2.2.1[sh]? = some (0, 3, [0, sl + 2, 0])) (hl : w.2.2.1[sl]? = some (1, nl, [])) (hq1 : w.2.2.1[q1]? = some (1, n1, []))  : ∀ (n : Nat) (u2 : Int32) (h : Hp), PW w x 13 [some (.ref (w.2.1 sh)), some (.ref (w.2.1 q1)), some (.int u2)] [] h ((fX3_add_L13 N sh sl nl q1 n1 n u2 h)) := by
  intro n
  induction n with
  | zero => intro u2 h; rw [fX3_add_L13]; exact pw_none
  | succ n ih =>
    intro u2 h
    rw [fX3_add_L13]
    refine pw_iload_n C dX3_add_13 rfl rfl ?_
    refine pw_aload_n C dX3_add_14 rfl rfl ?_
    refine pw_geti C hs rfl (k := 0) (by decide) rfl fl_X3_13 dX3_add_15 ?_
    refine pw_icmp_ge (tgt := 50) C dX3_add_18 (by decide) (fun c5 => ?_) (fun c5 => ?_)
    · refine pw_aload_n C dX3_add_21 rfl rfl ?_
      refine pw_getr (q2 := sl) C hs rfl (k := 1) (by decide) rfl fl_X3_21 dX3_add_22 ?_
      refine pw_iload_n C dX3_add_25 rfl rfl ?_
      refine pw_sipush (v := 179) C dX3_add_26 (by decide) ?_
      refine pw_imul C dX3_add_29 ?_
      refine pw_aload_n C dX3_add_30 rfl rfl ?_
      refine pw_getr (q2 := sl) C hs rfl (k := 1) (by decide) rfl fl_X3_21 dX3_add_31 ?_
      refine pw_iload_n C dX3_add_34 rfl rfl ?_
      refine pw_iconst (v := 1) C dX3_add_35 (by decide) ?_
      refine pw_isub C dX3_add_36 ?_
      refine pw_sipush (v := 179) C dX3_add_37 (by decide) ?_
      refine pw_imul C dX3_add_40 ?_
      refine pw_callSNvq (host := "ToldInKnots") (as := [.ref (w.2.1 sl), .int (u2 * 179), .ref (w.2.1 sl), .int ((u2 - 1) * 179)]) (rest := []) C dX3_add_41 (by decide +kernel) cw_X4_copyRow st_X4_copyRow ⟨by decide, by decide⟩ (c_X4_copyRow h sl nl (u2 * 179) sl nl ((u2 - 1) * 179) hl hl) rfl rfl (Nat.le_of_ble_eq_true rfl) (fun z3 => ?_)
      refine pw_iinc (lv2 := [some (.ref (w.2.1 sh)), some (.ref (w.2.1 q1)), some (.int (u2 + 1))]) C dX3_add_44 rfl rfl hN (by decide) rfl rfl ?_
      refine pw_goto (tgt := 13) C dX3_add_47 (by decide) ?_
      exact ih (u2 + 1) z3.2
    · refine pw_aload_n C dX3_add_50 rfl rfl ?_
      refine pw_aload_n C dX3_add_51 rfl rfl ?_
      refine pw_geti C hs rfl (k := 0) (by decide) rfl fl_X3_13 dX3_add_52 ?_
      refine pw_iconst (v := 1) C dX3_add_55 (by decide) ?_
      refine pw_isub C dX3_add_56 ?_
      refine pw_puti C hs rfl (k := 2) (by decide) rfl fl_X3_25 dX3_add_57 rfl (by decide) ?_
      refine pw_nameh (fun g4 => ?_)
      exact pw_lv (kX3_add_J60 C hR hN N sh sl nl q1 n1 hs hl hq1 g4) ⟨rfl, rfl, trivial⟩
set_option maxRecDepth 100000 in
set_option maxHeartbeats 4000000 in
theorem c_X3_add {l : Launch} {w : Wd} {A : Nat → Prop} (N : Nat) (h : Hp) (sh sl nl : Nat) (q1 n1 : Nat) (hs : w.2.2.1[sh]? = some (0, 3, [0, sl + 2, 0])) (hl : w.2.2.1[sl]? = some (1, nl, [])) (hq1 : w.2.2.1[q1]? = some (1, n1, [])) : ConV l yX3_add cX3_add 3 2 w A [.ref (w.2.1 sh), .ref (w.2.1 q1)] h ((fX3_add N h sh sl nl q1 n1)) := by
  refine ConV.of (lv0 := [some (.ref (w.2.1 sh)), some (.ref (w.2.1 q1)), none]) (by decide +kernel) (Nat.le_of_ble_eq_true rfl) rfl (fun x C hR hN => ?_)
  unfold fX3_add
  refine pw_aload_n C dX3_add_0 rfl rfl ?_
  refine pw_geti C hs rfl (k := 2) (by decide) rfl fl_X3_25 dX3_add_1 ?_
  refine pw_aload_n C dX3_add_4 rfl rfl ?_
  refine pw_geti C hs rfl (k := 0) (by decide) rfl fl_X3_13 dX3_add_5 ?_
  refine pw_icmp_lt (tgt := 60) C dX3_add_8 (by decide) (fun c6 => ?_) (fun c6 => ?_)
  · exact kX3_add_J60 C hR hN N sh sl nl q1 n1 hs hl hq1 h
  · refine pw_iconst (v := 1) C dX3_add_11 (by decide) ?_
    refine pw_istore_n (lv2 := [some (.ref (w.2.1 sh)), some (.ref (w.2.1 q1)), some (.int 1)]) C dX3_add_12 rfl hN (by decide) rfl rfl ?_
    exact kX3_add_L13 C hR hN N sh sl nl q1 n1 hs hl hq1 N 1 h
set_option maxRecDepth 100000 in
set_option maxHeartbeats 4000000 in
theorem c_X3_takeInto {l : Launch} {w : Wd} {A : Nat → Prop} (h : Hp) (sh sl nl : Nat) (q1 n1 : Nat) (hs : w.2.2.1[sh]? = some (0, 3, [0, sl + 2, 0])) (hl : w.2.2.1[sl]? = some (1, nl, [])) (hq1 : w.2.2.1[q1]? = some (1, n1, [])) : ConV l yX3_takeInto cX3_takeInto 2 2 w A [.ref (w.2.1 sh), .ref (w.2.1 q1)] h ((fX3_takeInto h sh sl nl q1 n1)) := by
  refine ConV.of (lv0 := [some (.ref (w.2.1 sh)), some (.ref (w.2.1 q1))]) (by decide +kernel) (Nat.le_of_ble_eq_true rfl) rfl (fun x C hR hN => ?_)
  unfold fX3_takeInto
  refine pw_aload_n C dX3_takeInto_0 rfl rfl ?_
  refine pw_geti C hs rfl (k := 2) (by decide) rfl fl_X3_25 dX3_takeInto_1 ?_
  refine pw_if_le (tgt := 34) C dX3_takeInto_4 (by decide) (fun c3 => ?_) (fun c3 => ?_)
  · refine pw_aload_n C dX3_takeInto_7 rfl rfl ?_
    refine pw_dup C dX3_takeInto_8 rfl ?_
    refine pw_geti C hs rfl (k := 2) (by decide) rfl fl_X3_25 dX3_takeInto_9 ?_
    refine pw_iconst (v := 1) C dX3_takeInto_12 (by decide) ?_
    refine pw_isub C dX3_takeInto_13 ?_
    refine pw_puti C hs rfl (k := 2) (by decide) rfl fl_X3_25 dX3_takeInto_14 rfl (by decide) ?_
    refine pw_nameh (fun g1 => ?_)
    refine pw_aload_n C dX3_takeInto_17 rfl rfl ?_
    refine pw_getr (q2 := sl) C hs rfl (k := 1) (by decide) rfl fl_X3_21 dX3_takeInto_18 ?_
    refine pw_aload_n C dX3_takeInto_21 rfl rfl ?_
    refine pw_geti C hs rfl (k := 2) (by decide) rfl fl_X3_25 dX3_takeInto_22 ?_
    refine pw_sipush (v := 179) C dX3_takeInto_25 (by decide) ?_
    refine pw_imul C dX3_takeInto_28 ?_
    refine pw_aload_n C dX3_takeInto_29 rfl rfl ?_
    refine pw_iconst (v := 0) C dX3_takeInto_30 (by decide) ?_
    refine pw_callSNvq (host := "ToldInKnots") (as := [.ref (w.2.1 sl), .int ((g1 sh 2) * 179), .ref (w.2.1 q1), .int 0]) (rest := []) C dX3_takeInto_31 (by decide +kernel) cw_X4_copyRow st_X4_copyRow ⟨by decide, by decide⟩ (c_X4_copyRow g1 sl nl ((g1 sh 2) * 179) q1 n1 0 hl hq1) rfl rfl (Nat.le_of_ble_eq_true rfl) (fun z2 => ?_)
    exact pw_vret C hR dX3_takeInto_34
  · exact pw_vret C hR dX3_takeInto_34
set_option maxRecDepth 100000 in
set_option maxHeartbeats 4000000 in
theorem kX4_slipAt_J67 {w : Wd} {x : Cz} (C : Ok w x cX4_slipAt RX4 2) (hR : OkI w x .int) (hN : xN x = 8) (N : Nat) (h : Hp) (a1 : Int32) (a2 : Int32) (a3 : Int32) (hL : LX w) (k23 : Int32 → Int32 → Int32 → Option Int32) (hk23 : ∀ (u4 : Int32) (u5 : Int32) (u6 : Int32), PW w x 23 [some (.ref (w.2.1 0)), some (.int a1), none, some (.int a3), some (.int u4), some (.int u5), some (.int u6), none] [] h (Option.map (fun v => (v, h)) (k23 u4 u5 u6))) : ∀ (u4 : Int32) (u5 : Int32) (u6 : Int32) (t0 : Int32) (t1 : Int32), PW w x 67 [some (.ref (w.2.1 0)), some (.int a1), none, some (.int a3), some (.int u4), some (.int u5), some (.int u6), none] [.int t0, .int t1] h (Option.map (fun v => (v, h)) (fX4_slipAt_J67 N h a1 a2 a3 k23 u4 u5 u6 t0 t1)) := by
  intro u4 u5 u6 t0 t1
  unfold fX4_slipAt_J67
  refine pw_iadd C dX4_slipAt_67 ?_
  refine pm_if_ne (tgt := 74) C dX4_slipAt_68 (by decide) (fun c2 => ?_) (fun c2 => ?_)
  · refine pw_iload C dX4_slipAt_71 rfl ?_
    exact pm_iret C hR dX4_slipAt_73
  · refine pw_iinc (lv2 := [some (.ref (w.2.1 0)), some (.int a1), none, some (.int a3), some (.int u4), some (.int u5), some (.int (u6 + 1)), none]) C dX4_slipAt_74 rfl rfl hN (by decide) rfl rfl ?_
    refine pw_goto (tgt := 23) C dX4_slipAt_77 (by decide) ?_
    exact hk23 u4 u5 (u6 + 1)
set_option maxRecDepth 100000 in
set_option maxHeartbeats 4000000 in
theorem kX4_slipAt_L23 {w : Wd} {x : Cz} (C : Ok w x cX4_slipAt RX4 2) (hR : OkI w x .int) (hN : xN x = 8) (N : Nat) (h : Hp) (a1 : Int32) (a2 : Int32) (a3 : Int32) (hL : LX w)  : ∀ (n : Nat) (u4 : Int32) (u5 : Int32) (u6 : Int32), PW w x 23 [some (.ref (w.2.1 0)), some (.int a1), none, some (.int a3), some (.int u4), some (.int u5), some (.int u6), none] [] h (Option.map (fun v => (v, h)) (fX4_slipAt_L23 N h a1 a2 a3 n u4 u5 u6)) := by
  intro n
  induction n with
  | zero => intro u4 u5 u6; rw [fX4_slipAt_L23]; exact pw_none
  | succ n ih =>
    intro u4 u5 u6
    rw [fX4_slipAt_L23]
    refine pw_iload C dX4_slipAt_23 rfl ?_
    refine pw_bipush (v := 9) C dX4_slipAt_25 (by decide) ?_
    refine pm_icmp_gt (tgt := 80) C dX4_slipAt_27 (by decide) (fun c3 => ?_) (fun c3 => ?_)
    · refine pw_bipush (v := (-4)) C dX4_slipAt_80 (by decide) ?_
      exact pm_iret C hR dX4_slipAt_82
    · refine pw_iload C dX4_slipAt_30 rfl ?_
      refine pw_iload C dX4_slipAt_32 rfl ?_
      refine pw_isub C dX4_slipAt_34 ?_
      refine pw_iload C dX4_slipAt_35 rfl ?_
      refine pw_imul C dX4_slipAt_37 ?_
      refine pw_istore (lv2 := [some (.ref (w.2.1 0)), some (.int a1), none, some (.int a3), some (.int u4), some (.int u5), some (.int u6), some (.int ((u6 - u5) * u4))]) C dX4_slipAt_38 hN (by decide) rfl rfl ?_
      refine pw_iload C dX4_slipAt_40 rfl ?_
      refine pw_iload C dX4_slipAt_42 rfl ?_
      refine pm_icmp_eq (tgt := 74) C dX4_slipAt_44 (by decide) (fun c4 => ?_) (fun c4 => ?_)
      · refine pw_iinc (lv2 := [some (.ref (w.2.1 0)), some (.int a1), none, some (.int a3), some (.int u4), some (.int u5), some (.int (u6 + 1)), some (.int ((u6 - u5) * u4))]) C dX4_slipAt_74 rfl rfl hN (by decide) rfl rfl ?_
        refine pw_goto (tgt := 23) C dX4_slipAt_77 (by decide) ?_
        exact pw_lv (ih u4 u5 (u6 + 1)) ⟨rfl, rfl, rfl, rfl, rfl, rfl, trivial⟩
      · refine pw_iload_n C dX4_slipAt_47 rfl rfl ?_
        refine pw_aload_n C dX4_slipAt_48 rfl rfl ?_
        refine pw_getr (q2 := 6) C (hL 0 _ rfl) rfl (k := 3) (by decide) rfl fl_X4_23 dX4_slipAt_49 ?_
        refine pw_iload_n C dX4_slipAt_52 rfl rfl ?_
        refine pw_callVt (as := [.int a1]) (rest := [.int a3]) C dX4_slipAt_53 ml_X4_117 cw_X0_isTop im_X0_isTop sl_X0_isTop (hL 6 _ rfl) rfl ⟨by decide, by decide⟩ (c_X0_isTop h 7 a1 (hL 6 _ rfl) (hL 7 _ rfl)) rfl rfl (Nat.le_of_ble_eq_true rfl) ?_
        refine PW.eq (apply_ite (fun z_ => Option.map (fun v => (v, h)) (fX4_slipAt_J67 N h a1 a2 a3 (fX4_slipAt_L23 N h a1 a2 a3 n) u4 u5 u6 z_ a3)) _ _ _) ?_
        refine pw_if_eq (tgt := 65) C dX4_slipAt_56 (by decide) (fun c5 => ?_) (fun c5 => ?_)
        · refine pw_iload C dX4_slipAt_65 rfl ?_
          exact pw_lv (kX4_slipAt_J67 C hR hN N h a1 a2 a3 hL (fX4_slipAt_L23 N h a1 a2 a3 n) ih u4 u5 u6 ((u6 - u5) * u4) a3) ⟨rfl, rfl, rfl, rfl, rfl, rfl, trivial⟩
        · refine pw_iload C dX4_slipAt_59 rfl ?_
          refine pw_ineg C dX4_slipAt_61 ?_
          refine pw_goto (tgt := 67) C dX4_slipAt_62 (by decide) ?_
          exact pw_lv (kX4_slipAt_J67 C hR hN N h a1 a2 a3 hL (fX4_slipAt_L23 N h a1 a2 a3 n) ih u4 u5 u6 (-((u6 - u5) * u4)) a3) ⟨rfl, rfl, rfl, rfl, rfl, rfl, trivial⟩
set_option maxRecDepth 100000 in
set_option maxHeartbeats 4000000 in
theorem c_X4_slipAt {l : Launch} {w : Wd} {A : Nat → Prop} (N : Nat) (h : Hp) (a1 : Int32) (a2 : Int32) (a3 : Int32) (hL : LX w) : ConI l yX4_slipAt cX4_slipAt 8 .int 2 w A [.ref (w.2.1 0), .int a1, .int a2, .int a3] h (Option.map (fun v => (v, h)) (fX4_slipAt N h a1 a2 a3)) := by
  refine ConI.of (lv0 := [some (.ref (w.2.1 0)), some (.int a1), some (.int a2), some (.int a3), none, none, none, none]) (by decide +kernel) (Nat.le_of_ble_eq_true rfl) rfl (fun x C hR hN => ?_)
  unfold fX4_slipAt
  refine pw_iload_n C dX4_slipAt_0 rfl rfl ?_
  refine pw_callSt (as := [.int a2]) (rest := []) C dX4_slipAt_1 ml_X4_223 cw_X4_tens st_X4_tens ⟨by decide, by decide⟩ (c_X4_tens h a2) rfl rfl (Nat.le_of_ble_eq_true rfl) ?_
  refine pw_istore (lv2 := [some (.ref (w.2.1 0)), some (.int a1), some (.int a2), some (.int a3), some (.int (tensV a2)), none, none, none]) C dX4_slipAt_4 hN (by decide) rfl rfl ?_
  refine pw_aload_n C dX4_slipAt_6 rfl rfl ?_
  refine pw_getr (q2 := 6) C (hL 0 _ rfl) rfl (k := 3) (by decide) rfl fl_X4_23 dX4_slipAt_7 ?_
  refine pw_iload_n C dX4_slipAt_10 rfl rfl ?_
  refine pw_iload_n C dX4_slipAt_11 rfl rfl ?_
  refine pw_callVt (as := [.int a1, .int a2]) (rest := []) C dX4_slipAt_12 ml_X4_136 cw_X0_codeOf im_X0_codeOf sl_X0_codeOf (hL 6 _ rfl) rfl ⟨by decide, by decide⟩ (c_X0_codeOf h 7 a1 a2 (hL 6 _ rfl) (hL 7 _ rfl)) rfl rfl (Nat.le_of_ble_eq_true rfl) ?_
  refine pw_callSt (as := [.int (fX0_codeOf h 7 a1 a2)]) (rest := []) C dX4_slipAt_15 ml_X4_220 cw_X4_countOf st_X4_countOf ⟨by decide, by decide⟩ (c_X4_countOf h (fX0_codeOf h 7 a1 a2)) rfl rfl (Nat.le_of_ble_eq_true rfl) ?_
  refine pm_name (fun v1 => ?_)
  refine pw_istore (lv2 := [some (.ref (w.2.1 0)), some (.int a1), some (.int a2), some (.int a3), some (.int (tensV a2)), some (.int v1), none, none]) C dX4_slipAt_18 hN (by decide) rfl rfl ?_
  refine pw_iconst (v := 0) C dX4_slipAt_20 (by decide) ?_
  refine pw_istore (lv2 := [some (.ref (w.2.1 0)), some (.int a1), some (.int a2), some (.int a3), some (.int (tensV a2)), some (.int v1), some (.int 0), none]) C dX4_slipAt_21 hN (by decide) rfl rfl ?_
  exact pw_lv (kX4_slipAt_L23 C hR hN N h a1 a2 a3 hL N (tensV a2) v1 0) ⟨rfl, rfl, rfl, rfl, rfl, rfl, trivial⟩
set_option maxRecDepth 100000 in
set_option maxHeartbeats 4000000 in
theorem kX5_takesKnots_J26 {w : Wd} {x : Cz} (C : Ok w x cX5_takesKnots RX5 2) (hR : OkI w x .boolean) (hN : xN x = 2) (N : Nat) (a1 : Int32) (hM : LM w)  : ∀ (h : Hp), PW w x 26 [some (.ref (w.2.1 22)), some (.int a1)] [] h ((fX5_takesKnots_J26 N a1 h)) := by
  intro h
  unfold fX5_takesKnots_J26
  refine pw_iload_n C dX5_takesKnots_26 rfl rfl ?_
  refine pw_ite (fun e27_0 => ?_) (fun e27_0 => ?_)
  · refine pw_lks (tgt := 68) (off := 41) C dX5_takesKnots_27 (by decide) (by rw [e27_0]; decide) (by decide) ?_
    refine pw_aload_n C dX5_takesKnots_68 rfl rfl ?_
    refine pw_iconst (v := 0) C dX5_takesKnots_69 (by decide) ?_
    refine pw_callViq (as := [.int 0]) (rest := []) C dX5_takesKnots_70 ml_X5_84 cw_X5_takesCluster im_X5_takesCluster sl_X5_takesCluster (hM 22 _ rfl (by decide)) rfl ⟨by decide, by decide⟩ (c_X5_takesCluster N h 0 hM) rfl rfl (Nat.le_of_ble_eq_true rfl) (fun z5 => ?_)
    exact pw_zret C hR dX5_takesKnots_73
  · refine pw_ite (fun e27_1 => ?_) (fun e27_1 => ?_)
    · refine pw_lks (tgt := 74) (off := 47) C dX5_takesKnots_27 (by decide) (by rw [e27_1]; decide) (by decide) ?_
      refine pw_aload_n C dX5_takesKnots_74 rfl rfl ?_
      refine pw_bipush (v := 31) C dX5_takesKnots_75 (by decide) ?_
      refine pw_callViq (as := [.int 31]) (rest := []) C dX5_takesKnots_77 ml_X5_84 cw_X5_takesCluster im_X5_takesCluster sl_X5_takesCluster (hM 22 _ rfl (by decide)) rfl ⟨by decide, by decide⟩ (c_X5_takesCluster N h 31 hM) rfl rfl (Nat.le_of_ble_eq_true rfl) (fun z4 => ?_)
      exact pw_zret C hR dX5_takesKnots_80
    · refine pw_ite (fun e27_2 => ?_) (fun e27_2 => ?_)
      · refine pw_lks (tgt := 87) (off := 60) C dX5_takesKnots_27 (by decide) (by rw [e27_2]; decide) (by decide) ?_
        refine pw_aload_n C dX5_takesKnots_87 rfl rfl ?_
        refine pw_bipush (v := 6) C dX5_takesKnots_88 (by decide) ?_
        refine pw_callViq (as := [.int 6]) (rest := []) C dX5_takesKnots_90 ml_X5_76 cw_X5_goesTo im_X5_goesTo sl_X5_goesTo (hM 22 _ rfl (by decide)) rfl ⟨by decide, by decide⟩ (c_X5_goesTo h 6 hM) rfl rfl (Nat.le_of_ble_eq_true rfl) (fun z3 => ?_)
        exact pw_zret C hR dX5_takesKnots_93
      · refine pw_ite (fun e27_3 => ?_) (fun e27_3 => ?_)
        · refine pw_lks (tgt := 81) (off := 54) C dX5_takesKnots_27 (by decide) (by rw [e27_3]; decide) (by decide) ?_
          refine pw_aload_n C dX5_takesKnots_81 rfl rfl ?_
          refine pw_iconst (v := 5) C dX5_takesKnots_82 (by decide) ?_
          refine pw_callViq (as := [.int 5]) (rest := []) C dX5_takesKnots_83 ml_X5_76 cw_X5_goesTo im_X5_goesTo sl_X5_goesTo (hM 22 _ rfl (by decide)) rfl ⟨by decide, by decide⟩ (c_X5_goesTo h 5 hM) rfl rfl (Nat.le_of_ble_eq_true rfl) (fun z2 => ?_)
          exact pw_zret C hR dX5_takesKnots_86
        · refine pw_lks (tgt := 94) (off := 67) C dX5_takesKnots_27 (by decide) (by simp [Op.lookupswitch.offset, i_neS (z := 46) (by decide) e27_0, i_neS (z := 101) (by decide) e27_1, i_neS (z := 108) (by decide) e27_2, i_neS (z := 115) (by decide) e27_3]) (by decide) ?_
          refine pw_iconst (v := 0) C dX5_takesKnots_94 (by decide) ?_
          exact pw_zret' C hR dX5_takesKnots_95 (by decide)
set_option maxRecDepth 100000 in
set_option maxHeartbeats 4000000 in
theorem c_X5_takesKnots {l : Launch} {w : Wd} {A : Nat → Prop} (N : Nat) (h : Hp) (a1 : Int32) (hM : LM w) : ConI l yX5_takesKnots cX5_takesKnots 2 .boolean 2 w A [.ref (w.2.1 22), .int a1] h ((fX5_takesKnots N h a1)) := by
  refine ConI.of (lv0 := [some (.ref (w.2.1 22)), some (.int a1)]) (by decide +kernel) (Nat.le_of_ble_eq_true rfl) rfl (fun x C hR hN => ?_)
  unfold fX5_takesKnots
  refine pw_aload_n C dX5_takesKnots_0 rfl rfl ?_
  refine pw_geti C (hM 22 _ rfl (by decide)) rfl (k := 8) (by decide) rfl fl_X5_66 dX5_takesKnots_1 ?_
  refine pw_iconst (v := 3) C dX5_takesKnots_4 (by decide) ?_
  refine pw_icmp_ne (tgt := 26) C dX5_takesKnots_5 (by decide) (fun c6 => ?_) (fun c6 => ?_)
  · refine pw_aload_n C dX5_takesKnots_8 rfl rfl ?_
    refine pw_getr (q2 := 27) C (hM 22 _ rfl (by decide)) rfl (k := 7) (by decide) rfl fl_X5_22 dX5_takesKnots_9 ?_
    refine pw_bipush (v := 18) C dX5_takesKnots_12 (by decide) ?_
    refine pw_aload_n C dX5_takesKnots_14 rfl rfl ?_
    refine pw_callVt (as := []) (rest := [.int 18, .ref (w.2.1 27)]) C dX5_takesKnots_15 ml_X5_80 cw_X5_newest im_X5_newest sl_X5_newest (hM 22 _ rfl (by decide)) rfl ⟨by decide, by decide⟩ (c_X5_newest h hM) rfl rfl (Nat.le_of_ble_eq_true rfl) ?_
    refine pw_iadd C dX5_takesKnots_18 ?_
    refine pw_ialdb C (hM 27 _ rfl (by decide)) dX5_takesKnots_19 (fun v1 => ?_)
    refine pw_iconst (v := 4) C dX5_takesKnots_20 (by decide) ?_
    refine pw_icmp_ne (tgt := 26) C dX5_takesKnots_21 (by decide) (fun c7 => ?_) (fun c7 => ?_)
    · refine pw_iconst (v := 0) C dX5_takesKnots_24 (by decide) ?_
      exact pw_zret' C hR dX5_takesKnots_25 (by decide)
    · exact kX5_takesKnots_J26 C hR hN N a1 hM h
  · exact kX5_takesKnots_J26 C hR hN N a1 hM h
set_option maxRecDepth 100000 in
set_option maxHeartbeats 4000000 in
theorem kX5_takesBehind_J186 {w : Wd} {x : Cz} (C : Ok w x cX5_takesBehind RX5 2) (hR : OkI w x .boolean) (hN : xN x = 3) (a1 : Int32) (hM : LM w)  : ∀ (h : Hp), PW w x 186 [some (.ref (w.2.1 22)), some (.int a1), none] [] h ((fX5_takesBehind_J186 a1 h)) := by
  intro h
  unfold fX5_takesBehind_J186
  refine pw_aload_n C dX5_takesBehind_186 rfl rfl ?_
  refine pw_iload_n C dX5_takesBehind_187 rfl rfl ?_
  refine pw_bipush (v := 48) C dX5_takesBehind_188 (by decide) ?_
  refine pw_isub C dX5_takesBehind_190 ?_
  refine pw_callViq (as := [.int (a1 - 48)]) (rest := []) C dX5_takesBehind_191 ml_X5_95 cw_X5_takesColour im_X5_takesColour sl_X5_takesColour (hM 22 _ rfl (by decide)) rfl ⟨by decide, by decide⟩ (c_X5_takesColour h (a1 - 48) hM) rfl rfl (Nat.le_of_ble_eq_true rfl) (fun z8 => ?_)
  refine pw_if_eq (tgt := 201) C dX5_takesBehind_194 (by decide) (fun c9 => ?_) (fun c9 => ?_)
  · refine pw_iconst (v := 0) C dX5_takesBehind_201 (by decide) ?_
    exact pw_zret' C hR dX5_takesBehind_202 (by decide)
  · refine pw_iconst (v := 1) C dX5_takesBehind_197 (by decide) ?_
    refine pw_goto (tgt := 202) C dX5_takesBehind_198 (by decide) ?_
    exact pw_zret' C hR dX5_takesBehind_202 (by decide)
set_option maxRecDepth 100000 in
set_option maxHeartbeats 4000000 in
theorem kX5_takesBehind_J12 {w : Wd} {x : Cz} (C : Ok w x cX5_takesBehind RX5 2) (hR : OkI w x .boolean) (hN : xN x = 3) (a1 : Int32) (hM : LM w)  : ∀ (t0 : Int32) (h : Hp), PW w x 12 [some (.ref (w.2.1 22)), some (.int a1), none] [.int t0] h ((fX5_takesBehind_J12 a1 t0 h)) := by
  intro t0 h
  unfold fX5_takesBehind_J12
  refine pw_istore_n (lv2 := [some (.ref (w.2.1 22)), some (.int a1), some (.int t0)]) C dX5_takesBehind_12 rfl hN (by decide) rfl rfl ?_
  refine pw_iload_n C dX5_takesBehind_13 rfl rfl ?_
  refine pw_ite (fun e14_0 => ?_) (fun e14_0 => ?_)
  · refine pw_lks (tgt := 56) (off := 42) C dX5_takesBehind_14 (by decide) (by rw [e14_0]; decide) (by decide) ?_
    refine pw_aload_n C dX5_takesBehind_56 rfl rfl ?_
    refine pw_geti C (hM 22 _ rfl (by decide)) rfl (k := 8) (by decide) rfl fl_X5_66 dX5_takesBehind_57 ?_
    refine pw_iconst (v := 4) C dX5_takesBehind_60 (by decide) ?_
    refine pw_icmp_eq (tgt := 72) C dX5_takesBehind_61 (by decide) (fun c10 => ?_) (fun c10 => ?_)
    · refine pw_iconst (v := 0) C dX5_takesBehind_72 (by decide) ?_
      exact pw_zret' C hR dX5_takesBehind_73 (by decide)
    · refine pw_aload_n C dX5_takesBehind_64 rfl rfl ?_
      refine pw_geti C (hM 22 _ rfl (by decide)) rfl (k := 9) (by decide) rfl fl_X5_69 dX5_takesBehind_65 ?_
      refine pw_iconst (v := 2) C dX5_takesBehind_68 (by decide) ?_
      refine pw_icmp_ne (tgt := 74) C dX5_takesBehind_69 (by decide) (fun c11 => ?_) (fun c11 => ?_)
      · refine pw_iconst (v := 0) C dX5_takesBehind_72 (by decide) ?_
        exact pw_zret' C hR dX5_takesBehind_73 (by decide)
      · refine pw_aload_n C dX5_takesBehind_74 rfl rfl ?_
        refine pw_dup C dX5_takesBehind_75 rfl ?_
        refine pw_geti C (hM 22 _ rfl (by decide)) rfl (k := 9) (by decide) rfl fl_X5_69 dX5_takesBehind_76 ?_
        refine pw_iconst (v := 1) C dX5_takesBehind_79 (by decide) ?_
        refine pw_iadd C dX5_takesBehind_80 ?_
        refine pw_puti C (hM 22 _ rfl (by decide)) rfl (k := 9) (by decide) rfl fl_X5_69 dX5_takesBehind_81 rfl (by decide) ?_
        refine pw_nameh (fun g6 => ?_)
        refine pw_aload_n C dX5_takesBehind_84 rfl rfl ?_
        refine pw_iconst (v := 1) C dX5_takesBehind_85 (by decide) ?_
        refine pw_callViq (as := [.int 1]) (rest := []) C dX5_takesBehind_86 ml_X5_76 cw_X5_goesTo im_X5_goesTo sl_X5_goesTo (hM 22 _ rfl (by decide)) rfl ⟨by decide, by decide⟩ (c_X5_goesTo g6 1 hM) rfl rfl (Nat.le_of_ble_eq_true rfl) (fun z7 => ?_)
        exact pw_zret C hR dX5_takesBehind_89
  · refine pw_ite (fun e14_1 => ?_) (fun e14_1 => ?_)
    · refine pw_lks (tgt := 90) (off := 76) C dX5_takesBehind_14 (by decide) (by rw [e14_1]; decide) (by decide) ?_
      refine pw_iload_n C dX5_takesBehind_90 rfl rfl ?_
      refine pw_if_eq (tgt := 96) C dX5_takesBehind_91 (by decide) (fun c12 => ?_) (fun c12 => ?_)
      · refine pw_aload_n C dX5_takesBehind_96 rfl rfl ?_
        refine pw_dup C dX5_takesBehind_97 rfl ?_
        refine pw_geti C (hM 22 _ rfl (by decide)) rfl (k := 9) (by decide) rfl fl_X5_69 dX5_takesBehind_98 ?_
        refine pw_iconst (v := 1) C dX5_takesBehind_101 (by decide) ?_
        refine pw_isub C dX5_takesBehind_102 ?_
        refine pw_puti C (hM 22 _ rfl (by decide)) rfl (k := 9) (by decide) rfl fl_X5_69 dX5_takesBehind_103 rfl (by decide) ?_
        refine pw_nameh (fun g4 => ?_)
        refine pw_aload_n C dX5_takesBehind_106 rfl rfl ?_
        refine pw_iconst (v := 4) C dX5_takesBehind_107 (by decide) ?_
        refine pw_callViq (as := [.int 4]) (rest := []) C dX5_takesBehind_108 ml_X5_76 cw_X5_goesTo im_X5_goesTo sl_X5_goesTo (hM 22 _ rfl (by decide)) rfl ⟨by decide, by decide⟩ (c_X5_goesTo g4 4 hM) rfl rfl (Nat.le_of_ble_eq_true rfl) (fun z5 => ?_)
        exact pw_zret C hR dX5_takesBehind_111
      · refine pw_iconst (v := 0) C dX5_takesBehind_94 (by decide) ?_
        exact pw_zret' C hR dX5_takesBehind_95 (by decide)
    · refine pw_ite (fun e14_2 => ?_) (fun e14_2 => ?_)
      · refine pw_lks (tgt := 136) (off := 122) C dX5_takesBehind_14 (by decide) (by rw [e14_2]; decide) (by decide) ?_
        refine pw_iload_n C dX5_takesBehind_136 rfl rfl ?_
        refine pw_if_eq (tgt := 152) C dX5_takesBehind_137 (by decide) (fun c13 => ?_) (fun c13 => ?_)
        · refine pw_iconst (v := 0) C dX5_takesBehind_152 (by decide) ?_
          exact pw_zret' C hR dX5_takesBehind_153 (by decide)
        · refine pw_aload_n C dX5_takesBehind_140 rfl rfl ?_
          refine pw_iconst (v := 0) C dX5_takesBehind_141 (by decide) ?_
          refine pw_callViq (as := [.int 0]) (rest := []) C dX5_takesBehind_142 ml_X5_76 cw_X5_goesTo im_X5_goesTo sl_X5_goesTo (hM 22 _ rfl (by decide)) rfl ⟨by decide, by decide⟩ (c_X5_goesTo h 0 hM) rfl rfl (Nat.le_of_ble_eq_true rfl) (fun z3 => ?_)
          refine pw_if_eq (tgt := 152) C dX5_takesBehind_145 (by decide) (fun c14 => ?_) (fun c14 => ?_)
          · refine pw_iconst (v := 0) C dX5_takesBehind_152 (by decide) ?_
            exact pw_zret' C hR dX5_takesBehind_153 (by decide)
          · refine pw_iconst (v := 1) C dX5_takesBehind_148 (by decide) ?_
            refine pw_goto (tgt := 153) C dX5_takesBehind_149 (by decide) ?_
            exact pw_zret' C hR dX5_takesBehind_153 (by decide)
      · refine pw_ite (fun e14_3 => ?_) (fun e14_3 => ?_)
        · refine pw_lks (tgt := 112) (off := 98) C dX5_takesBehind_14 (by decide) (by rw [e14_3]; decide) (by decide) ?_
          refine pw_iload_n C dX5_takesBehind_112 rfl rfl ?_
          refine pw_if_eq (tgt := 123) C dX5_takesBehind_113 (by decide) (fun c15 => ?_) (fun c15 => ?_)
          · refine pw_iconst (v := 0) C dX5_takesBehind_123 (by decide) ?_
            exact pw_zret' C hR dX5_takesBehind_124 (by decide)
          · refine pw_aload_n C dX5_takesBehind_116 rfl rfl ?_
            refine pw_geti C (hM 22 _ rfl (by decide)) rfl (k := 10) (by decide) rfl fl_X5_72 dX5_takesBehind_117 ?_
            refine pw_if_eq (tgt := 125) C dX5_takesBehind_120 (by decide) (fun c16 => ?_) (fun c16 => ?_)
            · refine pw_aload_n C dX5_takesBehind_125 rfl rfl ?_
              refine pw_iconst (v := 1) C dX5_takesBehind_126 (by decide) ?_
              refine pw_putz C (hM 22 _ rfl (by decide)) rfl (k := 10) (by decide) rfl fl_X5_72 dX5_takesBehind_127 rfl (by decide) (by decide) ?_
              refine pw_nameh (fun g1 => ?_)
              refine pw_aload_n C dX5_takesBehind_130 rfl rfl ?_
              refine pw_iconst (v := 1) C dX5_takesBehind_131 (by decide) ?_
              refine pw_callViq (as := [.int 1]) (rest := []) C dX5_takesBehind_132 ml_X5_76 cw_X5_goesTo im_X5_goesTo sl_X5_goesTo (hM 22 _ rfl (by decide)) rfl ⟨by decide, by decide⟩ (c_X5_goesTo g1 1 hM) rfl rfl (Nat.le_of_ble_eq_true rfl) (fun z2 => ?_)
              exact pw_zret C hR dX5_takesBehind_135
            · refine pw_iconst (v := 0) C dX5_takesBehind_123 (by decide) ?_
              exact pw_zret' C hR dX5_takesBehind_124 (by decide)
        · refine pw_lks (tgt := 154) (off := 140) C dX5_takesBehind_14 (by decide) (by simp [Op.lookupswitch.offset, i_neS (z := 40) (by decide) e14_0, i_neS (z := 41) (by decide) e14_1, i_neS (z := 93) (by decide) e14_2, i_neS (z := 94) (by decide) e14_3]) (by decide) ?_
          refine pw_iload_n C dX5_takesBehind_154 rfl rfl ?_
          refine pw_i2l C dX5_takesBehind_155 ?_
          refine pw_ldc2 (C := C) cl_X5_87 dX5_takesBehind_156 ?_
          refine pw_ldc2 (C := C) cl_X5_89 dX5_takesBehind_159 ?_
          refine pw_callSt (as := [.long (a1).toInt64, .long 48, .long 57]) (rest := []) C dX5_takesBehind_162 ml_X5_54 cw_X5_in st_X5_in ⟨by decide, by decide⟩ (c_X5_in h (a1).toInt64 48 57) rfl rfl (Nat.le_of_ble_eq_true rfl) ?_
          refine pw_if_eq (tgt := 201) C dX5_takesBehind_165 (by decide) (fun c17 => ?_) (fun c17 => ?_)
          · refine pw_iconst (v := 0) C dX5_takesBehind_201 (by decide) ?_
            exact pw_zret' C hR dX5_takesBehind_202 (by decide)
          · refine pw_aload_n C dX5_takesBehind_168 rfl rfl ?_
            refine pw_callVt (as := []) (rest := []) C dX5_takesBehind_169 ml_X5_91 cw_X5_hasRoom im_X5_hasRoom sl_X5_hasRoom (hM 22 _ rfl (by decide)) rfl ⟨by decide, by decide⟩ (c_X5_hasRoom h hM) rfl rfl (Nat.le_of_ble_eq_true rfl) ?_
            refine pw_if_eq (tgt := 201) C dX5_takesBehind_172 (by decide) (fun c18 => ?_) (fun c18 => ?_)
            · refine pw_iconst (v := 0) C dX5_takesBehind_201 (by decide) ?_
              exact pw_zret' C hR dX5_takesBehind_202 (by decide)
            · refine pw_iload_n C dX5_takesBehind_175 rfl rfl ?_
              refine pw_if_eq (tgt := 186) C dX5_takesBehind_176 (by decide) (fun c19 => ?_) (fun c19 => ?_)
              · exact pw_lv (kX5_takesBehind_J186 C hR hN a1 hM h) ⟨rfl, rfl, trivial⟩
              · refine pw_aload_n C dX5_takesBehind_179 rfl rfl ?_
                refine pw_geti C (hM 22 _ rfl (by decide)) rfl (k := 10) (by decide) rfl fl_X5_72 dX5_takesBehind_180 ?_
                refine pw_if_ne (tgt := 201) C dX5_takesBehind_183 (by decide) (fun c20 => ?_) (fun c20 => ?_)
                · exact pw_lv (kX5_takesBehind_J186 C hR hN a1 hM h) ⟨rfl, rfl, trivial⟩
                · refine pw_iconst (v := 0) C dX5_takesBehind_201 (by decide) ?_
                  exact pw_zret' C hR dX5_takesBehind_202 (by decide)
set_option maxRecDepth 100000 in
set_option maxHeartbeats 4000000 in
theorem c_X5_takesBehind {l : Launch} {w : Wd} {A : Nat → Prop} (h : Hp) (a1 : Int32) (hM : LM w) : ConI l yX5_takesBehind cX5_takesBehind 3 .boolean 2 w A [.ref (w.2.1 22), .int a1] h ((fX5_takesBehind h a1)) := by
  refine ConI.of (lv0 := [some (.ref (w.2.1 22)), some (.int a1), none]) (by decide +kernel) (Nat.le_of_ble_eq_true rfl) rfl (fun x C hR hN => ?_)
  unfold fX5_takesBehind
  refine pw_aload_n C dX5_takesBehind_0 rfl rfl ?_
  refine pw_geti C (hM 22 _ rfl (by decide)) rfl (k := 9) (by decide) rfl fl_X5_69 dX5_takesBehind_1 ?_
  refine PW.eq (apply_ite (fun z_ => (fX5_takesBehind_J12 a1 z_ h)) _ _ _) ?_
  refine pw_if_ne (tgt := 11) C dX5_takesBehind_4 (by decide) (fun c21 => ?_) (fun c21 => ?_)
  · refine pw_iconst (v := 1) C dX5_takesBehind_7 (by decide) ?_
    refine pw_goto (tgt := 12) C dX5_takesBehind_8 (by decide) ?_
    exact kX5_takesBehind_J12 C hR hN a1 hM 1 h
  · refine pw_iconst (v := 0) C dX5_takesBehind_11 (by decide) ?_
    exact kX5_takesBehind_J12 C hR hN a1 hM 0 h
set_option maxRecDepth 100000 in
set_option maxHeartbeats 4000000 in
theorem c_X5_value {l : Launch} {w : Wd} {A : Nat → Prop} (N : Nat) (h : Hp) (a1 : Int32) (hM : LM w) : ConI l yX5_value cX5_value 2 .int 2 w A [.ref (w.2.1 22), .int a1] h (Option.map (fun v => (v, h)) (fX5_value N h a1)) := by
  refine ConI.of (lv0 := [some (.ref (w.2.1 22)), some (.int a1)]) (by decide +kernel) (Nat.le_of_ble_eq_true rfl) rfl (fun x C hR hN => ?_)
  unfold fX5_value
  refine pw_aload_n C dX5_value_0 rfl rfl ?_
  refine pw_iload_n C dX5_value_1 rfl rfl ?_
  refine pw_iconst (v := 0) C dX5_value_2 (by decide) ?_
  refine pm_callVp (as := [.int a1, .int 0]) (rest := []) C dX5_value_3 ml_X5_138 cw_X5_told im_X5_told sl_X5_told (hM 22 _ rfl (by decide)) rfl ⟨by decide, by decide⟩ (c_X5_told N h a1 0 hM) rfl rfl (Nat.le_of_ble_eq_true rfl) (fun v1 => ?_)
  exact pm_iret C hR dX5_value_6
set_option maxRecDepth 100000 in
set_option maxHeartbeats 4000000 in
theorem c_X5_cluster {l : Launch} {w : Wd} {A : Nat → Prop} (h : Hp) (a1 : Int32) (a2 : Int32) (hM : LM w) : ConI l yX5_cluster cX5_cluster 3 .int 2 w A [.ref (w.2.1 22), .int a1, .int a2] h (Option.map (fun v => (v, h)) (fX5_cluster h a1 a2)) := by
  refine ConI.of (lv0 := [some (.ref (w.2.1 22)), some (.int a1), some (.int a2)]) (by decide +kernel) (Nat.le_of_ble_eq_true rfl) rfl (fun x C hR hN => ?_)
  unfold fX5_cluster
  refine pw_aload_n C dX5_cluster_0 rfl rfl ?_
  refine pw_iload_n C dX5_cluster_1 rfl rfl ?_
  refine pw_callVt (as := [.int a1]) (rest := []) C dX5_cluster_2 ml_X5_156 cw_X5_isCord im_X5_isCord sl_X5_isCord (hM 22 _ rfl (by decide)) rfl ⟨by decide, by decide⟩ (c_X5_isCord h a1 hM) rfl rfl (Nat.le_of_ble_eq_true rfl) ?_
  refine pm_if_eq (tgt := 38) C dX5_cluster_5 (by decide) (fun c3 => ?_) (fun c3 => ?_)
  · refine pw_iconst (v := (-1)) C dX5_cluster_38 (by decide) ?_
    exact pm_iret C hR dX5_cluster_39
  · refine pw_iload_n C dX5_cluster_8 rfl rfl ?_
    refine pw_i2l C dX5_cluster_9 ?_
    refine pw_lconst (v := 0) C dX5_cluster_10 (by decide) ?_
    refine pw_aload_n C dX5_cluster_11 rfl rfl ?_
    refine pw_getr (q2 := 23) C (hM 22 _ rfl (by decide)) rfl (k := 0) (by decide) rfl fl_X5_7 dX5_cluster_12 ?_
    refine pw_bipush (v := 18) C dX5_cluster_15 (by decide) ?_
    refine pw_iload_n C dX5_cluster_17 rfl rfl ?_
    refine pw_iadd C dX5_cluster_18 ?_
    refine pm_ialdb C (hM 23 _ rfl (by decide)) dX5_cluster_19 (fun v1 => ?_)
    refine pw_iconst (v := 1) C dX5_cluster_20 (by decide) ?_
    refine pw_isub C dX5_cluster_21 ?_
    refine pw_i2l C dX5_cluster_22 ?_
    refine pw_callSt (as := [.long (a2).toInt64, .long 0, .long ((v1 - 1)).toInt64]) (rest := []) C dX5_cluster_23 ml_X5_54 cw_X5_in st_X5_in ⟨by decide, by decide⟩ (c_X5_in h (a2).toInt64 0 ((v1 - 1)).toInt64) rfl rfl (Nat.le_of_ble_eq_true rfl) ?_
    refine pm_if_eq (tgt := 38) C dX5_cluster_26 (by decide) (fun c4 => ?_) (fun c4 => ?_)
    · refine pw_iconst (v := (-1)) C dX5_cluster_38 (by decide) ?_
      exact pm_iret C hR dX5_cluster_39
    · refine pw_aload_n C dX5_cluster_29 rfl rfl ?_
      refine pw_iload_n C dX5_cluster_30 rfl rfl ?_
      refine pw_iload_n C dX5_cluster_31 rfl rfl ?_
      refine pm_callVp (as := [.int a1, .int a2]) (rest := []) C dX5_cluster_32 ml_X5_134 cw_X5_knot0 im_X5_knot0 sl_X5_knot0 (hM 22 _ rfl (by decide)) rfl ⟨by decide, by decide⟩ (c_X5_knot0 h a1 a2 hM) rfl rfl (Nat.le_of_ble_eq_true rfl) (fun v2 => ?_)
      refine pw_goto (tgt := 39) C dX5_cluster_35 (by decide) ?_
      exact pm_iret C hR dX5_cluster_39
set_option maxRecDepth 100000 in
set_option maxHeartbeats 4000000 in
theorem c_X5_isOf {l : Launch} {w : Wd} {A : Nat → Prop} (h : Hp) (a1 : Int32) (a2 : Int32) (hM : LM w) : ConI l yX5_isOf cX5_isOf 3 .boolean 2 w A [.ref (w.2.1 22), .int a1, .int a2] h (Option.map (fun v => (v, h)) (fX5_isOf h a1 a2)) := by
  refine ConI.of (lv0 := [some (.ref (w.2.1 22)), some (.int a1), some (.int a2)]) (by decide +kernel) (Nat.le_of_ble_eq_true rfl) rfl (fun x C hR hN => ?_)
  unfold fX5_isOf
  refine pw_aload_n C dX5_isOf_0 rfl rfl ?_
  refine pw_iload_n C dX5_isOf_1 rfl rfl ?_
  refine pm_callVp (as := [.int a1]) (rest := []) C dX5_isOf_2 ml_X5_170 cw_X5_isPlain im_X5_isPlain sl_X5_isPlain (hM 22 _ rfl (by decide)) rfl ⟨by decide, by decide⟩ (c_X5_isPlain h a1 hM) rfl rfl (Nat.le_of_ble_eq_true rfl) (fun v1 => ?_)
  refine pm_if_eq (tgt := 30) C dX5_isOf_5 (by decide) (fun c3 => ?_) (fun c3 => ?_)
  · refine pw_iconst (v := 0) C dX5_isOf_30 (by decide) ?_
    exact pm_zret' C hR dX5_isOf_31 (by decide)
  · refine pw_iload_n C dX5_isOf_8 rfl rfl ?_
    refine pw_iconst (v := 5) C dX5_isOf_9 (by decide) ?_
    refine pm_icmp_eq (tgt := 26) C dX5_isOf_10 (by decide) (fun c4 => ?_) (fun c4 => ?_)
    · refine pw_iconst (v := 1) C dX5_isOf_26 (by decide) ?_
      refine pw_goto (tgt := 31) C dX5_isOf_27 (by decide) ?_
      exact pm_zret' C hR dX5_isOf_31 (by decide)
    · refine pw_aload_n C dX5_isOf_13 rfl rfl ?_
      refine pw_getr (q2 := 23) C (hM 22 _ rfl (by decide)) rfl (k := 0) (by decide) rfl fl_X5_7 dX5_isOf_14 ?_
      refine pw_bipush (v := 114) C dX5_isOf_17 (by decide) ?_
      refine pw_iload_n C dX5_isOf_19 rfl rfl ?_
      refine pw_iadd C dX5_isOf_20 ?_
      refine pm_ialdb C (hM 23 _ rfl (by decide)) dX5_isOf_21 (fun v2 => ?_)
      refine pw_iload_n C dX5_isOf_22 rfl rfl ?_
      refine pm_icmp_ne (tgt := 30) C dX5_isOf_23 (by decide) (fun c5 => ?_) (fun c5 => ?_)
      · refine pw_iconst (v := 1) C dX5_isOf_26 (by decide) ?_
        refine pw_goto (tgt := 31) C dX5_isOf_27 (by decide) ?_
        exact pm_zret' C hR dX5_isOf_31 (by decide)
      · refine pw_iconst (v := 0) C dX5_isOf_30 (by decide) ?_
        exact pm_zret' C hR dX5_isOf_31 (by decide)
set_option maxRecDepth 100000 in
set_option maxHeartbeats 4000000 in
theorem kX5_ties_L9 {w : Wd} {x : Cz} (C : Ok w x cX5_ties RX5 2) (hR : OkV w x) (hN : xN x = 5) (N : Nat) (a1 : Int32) (a2 : Int32) (hM : LM w)  : ∀ (n : Nat) (u3 : Int32) (u4 : Int32) (h : Hp), PW w x 9 [some (.ref (w.2.1 22)), some (.int a1), none, some (.int u3), some (.int u4)] [] h ((fX5_ties_L9 N a1 a2 n u3 u4 h)) := by
  intro n
  induction n with
  | zero => intro u3 u4 h; rw [fX5_ties_L9]; exact pw_none
  | succ n ih =>
    intro u3 u4 h
    rw [fX5_ties_L9]
    refine pw_iload C dX5_ties_9 rfl ?_
    refine pw_aload_n C dX5_ties_11 rfl rfl ?_
    refine pw_getr (q2 := 23) C (hM 22 _ rfl (by decide)) rfl (k := 0) (by decide) rfl fl_X5_7 dX5_ties_12 ?_
    refine pw_bipush (v := 18) C dX5_ties_15 (by decide) ?_
    refine pw_iload_n C dX5_ties_17 rfl rfl ?_
    refine pw_iadd C dX5_ties_18 ?_
    refine pw_ialdb C (hM 23 _ rfl (by decide)) dX5_ties_19 (fun v2 => ?_)
    refine pw_icmp_ge (tgt := 57) C dX5_ties_20 (by decide) (fun c4 => ?_) (fun c4 => ?_)
    · refine pw_aload_n C dX5_ties_23 rfl rfl ?_
      refine pw_getr (q2 := 23) C (hM 22 _ rfl (by decide)) rfl (k := 0) (by decide) rfl fl_X5_7 dX5_ties_24 ?_
      refine pw_bipush (v := 34) C dX5_ties_27 (by decide) ?_
      refine pw_iconst (v := 4) C dX5_ties_29 (by decide) ?_
      refine pw_iload_n C dX5_ties_30 rfl rfl ?_
      refine pw_imul C dX5_ties_31 ?_
      refine pw_iadd C dX5_ties_32 ?_
      refine pw_iload C dX5_ties_33 rfl ?_
      refine pw_iadd C dX5_ties_35 ?_
      refine pw_iload_n C dX5_ties_36 rfl rfl ?_
      refine pw_bipush (v := 10) C dX5_ties_37 (by decide) ?_
      refine pw_irem C dX5_ties_39 (by decide) ?_
      refine pw_iload C dX5_ties_40 rfl ?_
      refine pw_callSt (as := [.int (u3 - u3 / 10 * 10), .int u4]) (rest := [.int ((34 + (4 * a1)) + u4), .ref (w.2.1 23)]) C dX5_ties_42 ml_X5_195 cw_X5_clusterFor st_X5_clusterFor ⟨by decide, by decide⟩ (c_X5_clusterFor h (u3 - u3 / 10 * 10) u4) rfl rfl (Nat.le_of_ble_eq_true rfl) ?_
      refine pw_iast C (hM 23 _ rfl (by decide)) dX5_ties_45 ?_
      refine pw_nameh (fun g3 => ?_)
      refine pw_iload_n C dX5_ties_46 rfl rfl ?_
      refine pw_bipush (v := 10) C dX5_ties_47 (by decide) ?_
      refine pw_idiv C dX5_ties_49 (by decide) ?_
      refine pw_istore_n (lv2 := [some (.ref (w.2.1 22)), some (.int a1), none, some (.int (u3 / 10)), some (.int u4)]) C dX5_ties_50 rfl hN (by decide) rfl rfl ?_
      refine pw_iinc (lv2 := [some (.ref (w.2.1 22)), some (.int a1), none, some (.int (u3 / 10)), some (.int (u4 + 1))]) C dX5_ties_51 rfl rfl hN (by decide) rfl rfl ?_
      refine pw_goto (tgt := 9) C dX5_ties_54 (by decide) ?_
      exact ih (u3 / 10) (u4 + 1) g3
    · exact pw_vret C hR dX5_ties_57
set_option maxRecDepth 100000 in
set_option maxHeartbeats 4000000 in
theorem c_X5_ties {l : Launch} {w : Wd} {A : Nat → Prop} (N : Nat) (h : Hp) (a1 : Int32) (a2 : Int32) (hM : LM w) : ConV l yX5_ties cX5_ties 5 2 w A [.ref (w.2.1 22), .int a1, .int a2] h ((fX5_ties N h a1 a2)) := by
  refine ConV.of (lv0 := [some (.ref (w.2.1 22)), some (.int a1), some (.int a2), none, none]) (by decide +kernel) (Nat.le_of_ble_eq_true rfl) rfl (fun x C hR hN => ?_)
  unfold fX5_ties
  refine pw_aload_n C dX5_ties_0 rfl rfl ?_
  refine pw_callVvq (as := []) (rest := []) C dX5_ties_1 ml_X5_198 cw_X5_remember im_X5_remember sl_X5_remember (hM 22 _ rfl (by decide)) rfl ⟨by decide, by decide⟩ (c_X5_remember N h hM) rfl rfl (Nat.le_of_ble_eq_true rfl) (fun z1 => ?_)
  refine pw_iload_n C dX5_ties_4 rfl rfl ?_
  refine pw_istore_n (lv2 := [some (.ref (w.2.1 22)), some (.int a1), some (.int a2), some (.int a2), none]) C dX5_ties_5 rfl hN (by decide) rfl rfl ?_
  refine pw_iconst (v := 0) C dX5_ties_6 (by decide) ?_
  refine pw_istore (lv2 := [some (.ref (w.2.1 22)), some (.int a1), some (.int a2), some (.int a2), some (.int 0)]) C dX5_ties_7 hN (by decide) rfl rfl ?_
  exact pw_lv (kX5_ties_L9 C hR hN N a1 a2 hM N a2 0 z1.2) ⟨rfl, rfl, rfl, rfl, trivial⟩
set_option maxRecDepth 100000 in
set_option maxHeartbeats 4000000 in
theorem c_X5_knot {l : Launch} {w : Wd} {A : Nat → Prop} (N : Nat) (h : Hp) (a1 : Int32) (a2 : Int32) (a3 : Int32) (a4 : Int32) (hM : LM w) : ConI l yX5_knot cX5_knot 5 .int 2 w A [.ref (w.2.1 22), .int a1, .int a2, .int a3, .int a4] h ((fX5_knot N h a1 a2 a3 a4)) := by
  refine ConI.of (lv0 := [some (.ref (w.2.1 22)), some (.int a1), some (.int a2), some (.int a3), some (.int a4)]) (by decide +kernel) (Nat.le_of_ble_eq_true rfl) rfl (fun x C hR hN => ?_)
  unfold fX5_knot
  refine pw_aload_n C dX5_knot_0 rfl rfl ?_
  refine pw_iload_n C dX5_knot_1 rfl rfl ?_
  refine pw_callVt (as := [.int a1]) (rest := []) C dX5_knot_2 ml_X5_156 cw_X5_isCord im_X5_isCord sl_X5_isCord (hM 22 _ rfl (by decide)) rfl ⟨by decide, by decide⟩ (c_X5_isCord h a1 hM) rfl rfl (Nat.le_of_ble_eq_true rfl) ?_
  refine pw_if_eq (tgt := 38) C dX5_knot_5 (by decide) (fun c5 => ?_) (fun c5 => ?_)
  · refine pw_iconst (v := (-1)) C dX5_knot_38 (by decide) ?_
    exact pw_iret C hR dX5_knot_39
  · refine pw_iload_n C dX5_knot_8 rfl rfl ?_
    refine pw_i2l C dX5_knot_9 ?_
    refine pw_lconst (v := 0) C dX5_knot_10 (by decide) ?_
    refine pw_aload_n C dX5_knot_11 rfl rfl ?_
    refine pw_getr (q2 := 23) C (hM 22 _ rfl (by decide)) rfl (k := 0) (by decide) rfl fl_X5_7 dX5_knot_12 ?_
    refine pw_bipush (v := 18) C dX5_knot_15 (by decide) ?_
    refine pw_iload_n C dX5_knot_17 rfl rfl ?_
    refine pw_iadd C dX5_knot_18 ?_
    refine pw_ialdb C (hM 23 _ rfl (by decide)) dX5_knot_19 (fun v1 => ?_)
    refine pw_iconst (v := 1) C dX5_knot_20 (by decide) ?_
    refine pw_isub C dX5_knot_21 ?_
    refine pw_i2l C dX5_knot_22 ?_
    refine pw_callSt (as := [.long (a2).toInt64, .long 0, .long ((v1 - 1)).toInt64]) (rest := []) C dX5_knot_23 ml_X5_54 cw_X5_in st_X5_in ⟨by decide, by decide⟩ (c_X5_in h (a2).toInt64 0 ((v1 - 1)).toInt64) rfl rfl (Nat.le_of_ble_eq_true rfl) ?_
    refine pw_if_eq (tgt := 38) C dX5_knot_26 (by decide) (fun c6 => ?_) (fun c6 => ?_)
    · refine pw_iconst (v := (-1)) C dX5_knot_38 (by decide) ?_
      exact pw_iret C hR dX5_knot_39
    · refine pw_iload_n C dX5_knot_29 rfl rfl ?_
      refine pw_iload C dX5_knot_30 rfl ?_
      refine pw_callSt (as := [.int a3, .int a4]) (rest := []) C dX5_knot_32 ml_X5_219 cw_X5_isKnot st_X5_isKnot ⟨by decide, by decide⟩ (c_X5_isKnot h a3 a4) rfl rfl (Nat.le_of_ble_eq_true rfl) ?_
      refine pw_if_ne (tgt := 40) C dX5_knot_35 (by decide) (fun c7 => ?_) (fun c7 => ?_)
      · refine pw_iconst (v := (-1)) C dX5_knot_38 (by decide) ?_
        exact pw_iret C hR dX5_knot_39
      · refine pw_aload_n C dX5_knot_40 rfl rfl ?_
        refine pw_callVvq (as := []) (rest := []) C dX5_knot_41 ml_X5_198 cw_X5_remember im_X5_remember sl_X5_remember (hM 22 _ rfl (by decide)) rfl ⟨by decide, by decide⟩ (c_X5_remember N h hM) rfl rfl (Nat.le_of_ble_eq_true rfl) (fun z2 => ?_)
        refine pw_aload_n C dX5_knot_44 rfl rfl ?_
        refine pw_getr (q2 := 23) C (hM 22 _ rfl (by decide)) rfl (k := 0) (by decide) rfl fl_X5_7 dX5_knot_45 ?_
        refine pw_bipush (v := 34) C dX5_knot_48 (by decide) ?_
        refine pw_iconst (v := 4) C dX5_knot_50 (by decide) ?_
        refine pw_iload_n C dX5_knot_51 rfl rfl ?_
        refine pw_imul C dX5_knot_52 ?_
        refine pw_iadd C dX5_knot_53 ?_
        refine pw_iload_n C dX5_knot_54 rfl rfl ?_
        refine pw_iadd C dX5_knot_55 ?_
        refine pw_bipush (v := 10) C dX5_knot_56 (by decide) ?_
        refine pw_iload_n C dX5_knot_58 rfl rfl ?_
        refine pw_imul C dX5_knot_59 ?_
        refine pw_iload C dX5_knot_60 rfl ?_
        refine pw_iadd C dX5_knot_62 ?_
        refine pw_iast C (hM 23 _ rfl (by decide)) dX5_knot_63 ?_
        refine pw_nameh (fun g3 => ?_)
        refine pw_aload_n C dX5_knot_64 rfl rfl ?_
        refine pw_iload_n C dX5_knot_65 rfl rfl ?_
        refine pw_callVp (as := [.int a1]) (rest := []) C dX5_knot_66 ml_X5_168 cw_X5_knots_ im_X5_knots_ sl_X5_knots_ (hM 22 _ rfl (by decide)) rfl ⟨by decide, by decide⟩ (c_X5_knots_ N g3 a1 hM) rfl rfl (Nat.le_of_ble_eq_true rfl) (fun v4 => ?_)
        exact pw_iret C hR dX5_knot_69
set_option maxRecDepth 100000 in
set_option maxHeartbeats 4000000 in
theorem c_X5_dye {l : Launch} {w : Wd} {A : Nat → Prop} (N : Nat) (h : Hp) (a1 : Int32) (a2 : Int32) (hM : LM w) : ConI l yX5_dye cX5_dye 4 .int 2 w A [.ref (w.2.1 22), .int a1, .int a2] h ((fX5_dye N h a1 a2)) := by
  refine ConI.of (lv0 := [some (.ref (w.2.1 22)), some (.int a1), some (.int a2), none]) (by decide +kernel) (Nat.le_of_ble_eq_true rfl) rfl (fun x C hR hN => ?_)
  unfold fX5_dye
  refine pw_aload_n C dX5_dye_0 rfl rfl ?_
  refine pw_iload_n C dX5_dye_1 rfl rfl ?_
  refine pw_callVt (as := [.int a1]) (rest := []) C dX5_dye_2 ml_X5_156 cw_X5_isCord im_X5_isCord sl_X5_isCord (hM 22 _ rfl (by decide)) rfl ⟨by decide, by decide⟩ (c_X5_isCord h a1 hM) rfl rfl (Nat.le_of_ble_eq_true rfl) ?_
  refine pw_if_eq (tgt := 20) C dX5_dye_5 (by decide) (fun c4 => ?_) (fun c4 => ?_)
  · refine pw_iconst (v := (-1)) C dX5_dye_20 (by decide) ?_
    exact pw_iret C hR dX5_dye_21
  · refine pw_iload_n C dX5_dye_8 rfl rfl ?_
    refine pw_i2l C dX5_dye_9 ?_
    refine pw_lconst (v := 0) C dX5_dye_10 (by decide) ?_
    refine pw_ldc2 (C := C) cl_X5_215 dX5_dye_11 ?_
    refine pw_callSt (as := [.long (a2).toInt64, .long 0, .long 9]) (rest := []) C dX5_dye_14 ml_X5_54 cw_X5_in st_X5_in ⟨by decide, by decide⟩ (c_X5_in h (a2).toInt64 0 9) rfl rfl (Nat.le_of_ble_eq_true rfl) ?_
    refine pw_if_ne (tgt := 22) C dX5_dye_17 (by decide) (fun c5 => ?_) (fun c5 => ?_)
    · refine pw_iconst (v := (-1)) C dX5_dye_20 (by decide) ?_
      exact pw_iret C hR dX5_dye_21
    · refine pw_aload_n C dX5_dye_22 rfl rfl ?_
      refine pw_callVvq (as := []) (rest := []) C dX5_dye_23 ml_X5_198 cw_X5_remember im_X5_remember sl_X5_remember (hM 22 _ rfl (by decide)) rfl ⟨by decide, by decide⟩ (c_X5_remember N h hM) rfl rfl (Nat.le_of_ble_eq_true rfl) (fun z1 => ?_)
      refine pw_aload_n C dX5_dye_26 rfl rfl ?_
      refine pw_getr (q2 := 23) C (hM 22 _ rfl (by decide)) rfl (k := 0) (by decide) rfl fl_X5_7 dX5_dye_27 ?_
      refine pw_iconst (v := 2) C dX5_dye_30 (by decide) ?_
      refine pw_iload_n C dX5_dye_31 rfl rfl ?_
      refine pw_iadd C dX5_dye_32 ?_
      refine pw_ialdb C (hM 23 _ rfl (by decide)) dX5_dye_33 (fun v2 => ?_)
      refine pw_istore_n (lv2 := [some (.ref (w.2.1 22)), some (.int a1), some (.int a2), some (.int v2)]) C dX5_dye_34 rfl hN (by decide) rfl rfl ?_
      refine pw_aload_n C dX5_dye_35 rfl rfl ?_
      refine pw_getr (q2 := 23) C (hM 22 _ rfl (by decide)) rfl (k := 0) (by decide) rfl fl_X5_7 dX5_dye_36 ?_
      refine pw_iconst (v := 2) C dX5_dye_39 (by decide) ?_
      refine pw_iload_n C dX5_dye_40 rfl rfl ?_
      refine pw_iadd C dX5_dye_41 ?_
      refine pw_iload_n C dX5_dye_42 rfl rfl ?_
      refine pw_iast C (hM 23 _ rfl (by decide)) dX5_dye_43 ?_
      refine pw_nameh (fun g3 => ?_)
      refine pw_iload_n C dX5_dye_44 rfl rfl ?_
      exact pw_iret C hR dX5_dye_45
set_option maxRecDepth 100000 in
set_option maxHeartbeats 4000000 in
theorem kX5_closed_J219 {w : Wd} {x : Cz} (C : Ok w x cX5_closed RX5 2) (hR : OkI w x .int) (hN : xN x = 12) (N : Nat) (a1 : Int32) (a2 : Int32) (a3 : Int32) (hM : LM w) (k92 : Int32 → Int32 → Int32 → Int32 → Hp → Option Rs) (hk92 : ∀ (u4 : Int32) (u5 : Int32) (u6 : Int32) (u7 : Int32) (h : Hp), PW w x 92 [some (.ref (w.2.1 22)), none, some (.int a2), some (.int a3), some (.int u4), some (.int u5), some (.int u6), some (.int u7), none, none, none, none] [] h ((k92 u4 u5 u6 u7 h))) : ∀ (u4 : Int32) (u5 : Int32) (u6 : Int32) (u7 : Int32) (u8 : Int32) (u9 : Int32) (u10 : Int32) (h : Hp), PW w x 219 [some (.ref (w.2.1 22)), none, some (.int a2), some (.int a3), some (.int u4), some (.int u5), some (.int u6), some (.int u7), some (.int u8), some (.int u9), some (.int u10), none] [] h ((fX5_closed_J219 N a1 a2 a3 k92 u4 u5 u6 u7 u8 u9 u10 h)) := by
  intro u4 u5 u6 u7 u8 u9 u10 h
  unfold fX5_closed_J219
  refine pw_iload C dX5_closed_219 rfl ?_
  refine pw_if_eq (tgt := 257) C dX5_closed_221 (by decide) (fun c9 => ?_) (fun c9 => ?_)
  · refine pw_iinc (lv2 := [some (.ref (w.2.1 22)), none, some (.int a2), some (.int a3), some (.int u4), some (.int u5), some (.int u6), some (.int (u7 + 1)), some (.int u8), some (.int u9), some (.int u10), none]) C dX5_closed_257 rfl rfl hN (by decide) rfl rfl ?_
    refine pw_goto (tgt := 92) C dX5_closed_260 (by decide) ?_
    exact pw_lv (hk92 u4 u5 u6 (u7 + 1) h) ⟨rfl, rfl, rfl, rfl, rfl, rfl, rfl, trivial⟩
  · refine pw_iload C dX5_closed_224 rfl ?_
    refine pw_iload C dX5_closed_226 rfl ?_
    refine pw_icmp_ne (tgt := 257) C dX5_closed_228 (by decide) (fun c10 => ?_) (fun c10 => ?_)
    · refine pw_iinc (lv2 := [some (.ref (w.2.1 22)), none, some (.int a2), some (.int a3), some (.int u4), some (.int (u5 + 1)), some (.int u6), some (.int u7), some (.int u8), some (.int u9), some (.int u10), none]) C dX5_closed_231 rfl rfl hN (by decide) rfl rfl ?_
      refine pw_iload C dX5_closed_234 rfl ?_
      refine pw_bipush (v := (-4)) C dX5_closed_236 (by decide) ?_
      refine PW.eq (apply_ite (fun z_ => (k92 u4 (u5 + 1) z_ (u7 + 1) h)) _ _ _) ?_
      refine pw_icmp_eq (tgt := 248) C dX5_closed_238 (by decide) (fun c11 => ?_) (fun c11 => ?_)
      · refine pw_iload C dX5_closed_248 rfl ?_
        refine pw_goto (tgt := 255) C dX5_closed_250 (by decide) ?_
        refine pw_istore (lv2 := [some (.ref (w.2.1 22)), none, some (.int a2), some (.int a3), some (.int u4), some (.int (u5 + 1)), some (.int u9), some (.int u7), some (.int u8), some (.int u9), some (.int u10), none]) C dX5_closed_255 hN (by decide) rfl rfl ?_
        refine pw_iinc (lv2 := [some (.ref (w.2.1 22)), none, some (.int a2), some (.int a3), some (.int u4), some (.int (u5 + 1)), some (.int u9), some (.int (u7 + 1)), some (.int u8), some (.int u9), some (.int u10), none]) C dX5_closed_257 rfl rfl hN (by decide) rfl rfl ?_
        refine pw_goto (tgt := 92) C dX5_closed_260 (by decide) ?_
        exact pw_lv (hk92 u4 (u5 + 1) u9 (u7 + 1) h) ⟨rfl, rfl, rfl, rfl, rfl, rfl, rfl, trivial⟩
      · refine pw_iload C dX5_closed_241 rfl ?_
        refine pw_iload C dX5_closed_243 rfl ?_
        refine PW.eq (apply_ite (fun z_ => (k92 u4 (u5 + 1) z_ (u7 + 1) h)) _ _ _) ?_
        refine pw_icmp_ge (tgt := 253) C dX5_closed_245 (by decide) (fun c12 => ?_) (fun c12 => ?_)
        · refine pw_iload C dX5_closed_248 rfl ?_
          refine pw_goto (tgt := 255) C dX5_closed_250 (by decide) ?_
          refine pw_istore (lv2 := [some (.ref (w.2.1 22)), none, some (.int a2), some (.int a3), some (.int u4), some (.int (u5 + 1)), some (.int u9), some (.int u7), some (.int u8), some (.int u9), some (.int u10), none]) C dX5_closed_255 hN (by decide) rfl rfl ?_
          refine pw_iinc (lv2 := [some (.ref (w.2.1 22)), none, some (.int a2), some (.int a3), some (.int u4), some (.int (u5 + 1)), some (.int u9), some (.int (u7 + 1)), some (.int u8), some (.int u9), some (.int u10), none]) C dX5_closed_257 rfl rfl hN (by decide) rfl rfl ?_
          refine pw_goto (tgt := 92) C dX5_closed_260 (by decide) ?_
          exact pw_lv (hk92 u4 (u5 + 1) u9 (u7 + 1) h) ⟨rfl, rfl, rfl, rfl, rfl, rfl, rfl, trivial⟩
        · refine pw_iload C dX5_closed_253 rfl ?_
          refine pw_istore (lv2 := [some (.ref (w.2.1 22)), none, some (.int a2), some (.int a3), some (.int u4), some (.int (u5 + 1)), some (.int u6), some (.int u7), some (.int u8), some (.int u9), some (.int u10), none]) C dX5_closed_255 hN (by decide) rfl rfl ?_
          refine pw_iinc (lv2 := [some (.ref (w.2.1 22)), none, some (.int a2), some (.int a3), some (.int u4), some (.int (u5 + 1)), some (.int u6), some (.int (u7 + 1)), some (.int u8), some (.int u9), some (.int u10), none]) C dX5_closed_257 rfl rfl hN (by decide) rfl rfl ?_
          refine pw_goto (tgt := 92) C dX5_closed_260 (by decide) ?_
          exact pw_lv (hk92 u4 (u5 + 1) u6 (u7 + 1) h) ⟨rfl, rfl, rfl, rfl, rfl, rfl, rfl, trivial⟩
    · refine pw_iinc (lv2 := [some (.ref (w.2.1 22)), none, some (.int a2), some (.int a3), some (.int u4), some (.int u5), some (.int u6), some (.int (u7 + 1)), some (.int u8), some (.int u9), some (.int u10), none]) C dX5_closed_257 rfl rfl hN (by decide) rfl rfl ?_
      refine pw_goto (tgt := 92) C dX5_closed_260 (by decide) ?_
      exact pw_lv (hk92 u4 u5 u6 (u7 + 1) h) ⟨rfl, rfl, rfl, rfl, rfl, rfl, rfl, trivial⟩
set_option maxRecDepth 100000 in
set_option maxHeartbeats 4000000 in
theorem kX5_closed_J178 {w : Wd} {x : Cz} (C : Ok w x cX5_closed RX5 2) (hR : OkI w x .int) (hN : xN x = 12) (N : Nat) (a1 : Int32) (a2 : Int32) (a3 : Int32) (hM : LM w) (k92 : Int32 → Int32 → Int32 → Int32 → Hp → Option Rs) (hk92 : ∀ (u4 : Int32) (u5 : Int32) (u6 : Int32) (u7 : Int32) (h : Hp), PW w x 92 [some (.ref (w.2.1 22)), none, some (.int a2), some (.int a3), some (.int u4), some (.int u5), some (.int u6), some (.int u7), none, none, none, none] [] h ((k92 u4 u5 u6 u7 h))) (k112 : Int32 → Int32 → Int32 → Int32 → Int32 → Int32 → Int32 → Int32 → Hp → Option Rs) (hk112 : ∀ (u4 : Int32) (u5 : Int32) (u6 : Int32) (u7 : Int32) (u8 : Int32) (u9 : Int32) (u10 : Int32) (u11 : Int32) (h : Hp), PW w x 112 [some (.ref (w.2.1 22)), none, some (.int a2), some (.int a3), some (.int u4), some (.int u5), some (.int u6), some (.int u7), some (.int u8), some (.int u9), some (.int u10), some (.int u11)] [] h ((k112 u4 u5 u6 u7 u8 u9 u10 u11 h))) : ∀ (u4 : Int32) (u5 : Int32) (u6 : Int32) (u7 : Int32) (u8 : Int32) (u9 : Int32) (u11 : Int32) (t0 : Int32) (h : Hp), PW w x 178 [some (.ref (w.2.1 22)), none, some (.int a2), some (.int a3), some (.int u4), some (.int u5), some (.int u6), some (.int u7), some (.int u8), some (.int u9), none, some (.int u11)] [.int t0] h ((fX5_closed_J178 N a1 a2 a3 k92 k112 u4 u5 u6 u7 u8 u9 u11 t0 h)) := by
  intro u4 u5 u6 u7 u8 u9 u11 t0 h
  unfold fX5_closed_J178
  refine pw_istore (lv2 := [some (.ref (w.2.1 22)), none, some (.int a2), some (.int a3), some (.int u4), some (.int u5), some (.int u6), some (.int u7), some (.int u8), some (.int u9), some (.int t0), some (.int u11)]) C dX5_closed_178 hN (by decide) rfl rfl ?_
  refine pw_iload C dX5_closed_180 rfl ?_
  refine pw_iload C dX5_closed_182 rfl ?_
  refine pw_if_eq (tgt := 206) C dX5_closed_184 (by decide) (fun c13 => ?_) (fun c13 => ?_)
  · refine pw_iconst (v := 0) C dX5_closed_206 (by decide) ?_
    refine pw_iadd C dX5_closed_207 ?_
    refine pw_istore (lv2 := [some (.ref (w.2.1 22)), none, some (.int a2), some (.int a3), some (.int u4), some (.int u5), some (.int u6), some (.int u7), some (.int u8), some (.int (u9 + 0)), some (.int t0), some (.int u11)]) C dX5_closed_208 hN (by decide) rfl rfl ?_
    refine pw_iinc (lv2 := [some (.ref (w.2.1 22)), none, some (.int a2), some (.int a3), some (.int u4), some (.int u5), some (.int u6), some (.int u7), some (.int (u8 + 1)), some (.int (u9 + 0)), some (.int t0), some (.int u11)]) C dX5_closed_210 rfl rfl hN (by decide) rfl rfl ?_
    refine pw_iinc (lv2 := [some (.ref (w.2.1 22)), none, some (.int a2), some (.int a3), some (.int u4), some (.int u5), some (.int u6), some (.int u7), some (.int (u8 + 1)), some (.int (u9 + 0)), some (.int t0), some (.int (u11 + 1))]) C dX5_closed_213 rfl rfl hN (by decide) rfl rfl ?_
    refine pw_goto (tgt := 112) C dX5_closed_216 (by decide) ?_
    exact hk112 u4 u5 u6 u7 (u8 + 1) (u9 + 0) t0 (u11 + 1) h
  · refine pw_aload_n C dX5_closed_187 rfl rfl ?_
    refine pw_getr (q2 := 31) C (hM 22 _ rfl (by decide)) rfl (k := 14) (by decide) rfl fl_X5_34 dX5_closed_188 ?_
    refine pw_iload C dX5_closed_191 rfl ?_
    refine pw_ialdb C (hM 31 _ rfl (by decide)) dX5_closed_193 (fun v6 => ?_)
    refine pw_bipush (v := 10) C dX5_closed_194 (by decide) ?_
    refine pw_irem C dX5_closed_196 (by decide) ?_
    refine pw_iload C dX5_closed_197 rfl ?_
    refine pw_callSp (as := [.int u11]) (rest := [.int (v6 - v6 / 10 * 10), .int u9]) C dX5_closed_199 ml_X5_201 cw_X5_power st_X5_power ⟨by decide, by decide⟩ (c_X5_power N h u11) rfl rfl (Nat.le_of_ble_eq_true rfl) (fun v7 => ?_)
    refine pw_imul C dX5_closed_202 ?_
    refine pw_goto (tgt := 207) C dX5_closed_203 (by decide) ?_
    refine pw_iadd C dX5_closed_207 ?_
    refine pw_name (fun v8 => ?_)
    refine pw_istore (lv2 := [some (.ref (w.2.1 22)), none, some (.int a2), some (.int a3), some (.int u4), some (.int u5), some (.int u6), some (.int u7), some (.int u8), some (.int v8), some (.int t0), some (.int u11)]) C dX5_closed_208 hN (by decide) rfl rfl ?_
    refine pw_iinc (lv2 := [some (.ref (w.2.1 22)), none, some (.int a2), some (.int a3), some (.int u4), some (.int u5), some (.int u6), some (.int u7), some (.int (u8 + 1)), some (.int v8), some (.int t0), some (.int u11)]) C dX5_closed_210 rfl rfl hN (by decide) rfl rfl ?_
    refine pw_iinc (lv2 := [some (.ref (w.2.1 22)), none, some (.int a2), some (.int a3), some (.int u4), some (.int u5), some (.int u6), some (.int u7), some (.int (u8 + 1)), some (.int v8), some (.int t0), some (.int (u11 + 1))]) C dX5_closed_213 rfl rfl hN (by decide) rfl rfl ?_
    refine pw_goto (tgt := 112) C dX5_closed_216 (by decide) ?_
    exact hk112 u4 u5 u6 u7 (u8 + 1) v8 t0 (u11 + 1) h
set_option maxRecDepth 100000 in
set_option maxHeartbeats 4000000 in
theorem kX5_closed_J170 {w : Wd} {x : Cz} (C : Ok w x cX5_closed RX5 2) (hR : OkI w x .int) (hN : xN x = 12) (N : Nat) (a1 : Int32) (a2 : Int32) (a3 : Int32) (hM : LM w) (k92 : Int32 → Int32 → Int32 → Int32 → Hp → Option Rs) (hk92 : ∀ (u4 : Int32) (u5 : Int32) (u6 : Int32) (u7 : Int32) (h : Hp), PW w x 92 [some (.ref (w.2.1 22)), none, some (.int a2), some (.int a3), some (.int u4), some (.int u5), some (.int u6), some (.int u7), none, none, none, none] [] h ((k92 u4 u5 u6 u7 h))) (k112 : Int32 → Int32 → Int32 → Int32 → Int32 → Int32 → Int32 → Int32 → Hp → Option Rs) (hk112 : ∀ (u4 : Int32) (u5 : Int32) (u6 : Int32) (u7 : Int32) (u8 : Int32) (u9 : Int32) (u10 : Int32) (u11 : Int32) (h : Hp), PW w x 112 [some (.ref (w.2.1 22)), none, some (.int a2), some (.int a3), some (.int u4), some (.int u5), some (.int u6), some (.int u7), some (.int u8), some (.int u9), some (.int u10), some (.int u11)] [] h ((k112 u4 u5 u6 u7 u8 u9 u10 u11 h))) : ∀ (u4 : Int32) (u5 : Int32) (u6 : Int32) (u7 : Int32) (u8 : Int32) (u9 : Int32) (u11 : Int32) (t0 : Int32) (t1 : Int32) (h : Hp), PW w x 170 [some (.ref (w.2.1 22)), none, some (.int a2), some (.int a3), some (.int u4), some (.int u5), some (.int u6), some (.int u7), some (.int u8), some (.int u9), none, some (.int u11)] [.int t0, .int t1] h ((fX5_closed_J170 N a1 a2 a3 k92 k112 u4 u5 u6 u7 u8 u9 u11 t0 t1 h)) := by
  intro u4 u5 u6 u7 u8 u9 u11 t0 t1 h
  unfold fX5_closed_J170
  refine PW.eq (apply_ite (fun z_ => (fX5_closed_J178 N a1 a2 a3 k92 k112 u4 u5 u6 u7 u8 u9 u11 z_ h)) _ _ _) ?_
  refine pw_icmp_ne (tgt := 177) C dX5_closed_170 (by decide) (fun c14 => ?_) (fun c14 => ?_)
  · refine pw_iconst (v := 1) C dX5_closed_173 (by decide) ?_
    refine pw_goto (tgt := 178) C dX5_closed_174 (by decide) ?_
    exact kX5_closed_J178 C hR hN N a1 a2 a3 hM k92 hk92 k112 hk112 u4 u5 u6 u7 u8 u9 u11 1 h
  · refine pw_iconst (v := 0) C dX5_closed_177 (by decide) ?_
    exact kX5_closed_J178 C hR hN N a1 a2 a3 hM k92 hk92 k112 hk112 u4 u5 u6 u7 u8 u9 u11 0 h
set_option maxRecDepth 100000 in
set_option maxHeartbeats 4000000 in
theorem kX5_closed_J160 {w : Wd} {x : Cz} (C : Ok w x cX5_closed RX5 2) (hR : OkI w x .int) (hN : xN x = 12) (N : Nat) (a1 : Int32) (a2 : Int32) (a3 : Int32) (hM : LM w) (k92 : Int32 → Int32 → Int32 → Int32 → Hp → Option Rs) (hk92 : ∀ (u4 : Int32) (u5 : Int32) (u6 : Int32) (u7 : Int32) (h : Hp), PW w x 92 [some (.ref (w.2.1 22)), none, some (.int a2), some (.int a3), some (.int u4), some (.int u5), some (.int u6), some (.int u7), none, none, none, none] [] h ((k92 u4 u5 u6 u7 h))) (k112 : Int32 → Int32 → Int32 → Int32 → Int32 → Int32 → Int32 → Int32 → Hp → Option Rs) (hk112 : ∀ (u4 : Int32) (u5 : Int32) (u6 : Int32) (u7 : Int32) (u8 : Int32) (u9 : Int32) (u10 : Int32) (u11 : Int32) (h : Hp), PW w x 112 [some (.ref (w.2.1 22)), none, some (.int a2), some (.int a3), some (.int u4), some (.int u5), some (.int u6), some (.int u7), some (.int u8), some (.int u9), some (.int u10), some (.int u11)] [] h ((k112 u4 u5 u6 u7 u8 u9 u10 u11 h))) : ∀ (u4 : Int32) (u5 : Int32) (u6 : Int32) (u7 : Int32) (u8 : Int32) (u9 : Int32) (u11 : Int32) (t0 : Int32) (h : Hp), PW w x 160 [some (.ref (w.2.1 22)), none, some (.int a2), some (.int a3), some (.int u4), some (.int u5), some (.int u6), some (.int u7), some (.int u8), some (.int u9), none, some (.int u11)] [.int t0] h ((fX5_closed_J160 N a1 a2 a3 k92 k112 u4 u5 u6 u7 u8 u9 u11 t0 h)) := by
  intro u4 u5 u6 u7 u8 u9 u11 t0 h
  unfold fX5_closed_J160
  refine pw_iload C dX5_closed_160 rfl ?_
  refine PW.eq (apply_ite (fun z_ => (fX5_closed_J170 N a1 a2 a3 k92 k112 u4 u5 u6 u7 u8 u9 u11 z_ t0 h)) _ _ _) ?_
  refine pw_if_le (tgt := 169) C dX5_closed_162 (by decide) (fun c15 => ?_) (fun c15 => ?_)
  · refine pw_iconst (v := 1) C dX5_closed_165 (by decide) ?_
    refine pw_goto (tgt := 170) C dX5_closed_166 (by decide) ?_
    exact kX5_closed_J170 C hR hN N a1 a2 a3 hM k92 hk92 k112 hk112 u4 u5 u6 u7 u8 u9 u11 1 t0 h
  · refine pw_iconst (v := 0) C dX5_closed_169 (by decide) ?_
    exact kX5_closed_J170 C hR hN N a1 a2 a3 hM k92 hk92 k112 hk112 u4 u5 u6 u7 u8 u9 u11 0 t0 h
set_option maxRecDepth 100000 in
set_option maxHeartbeats 4000000 in
theorem kX5_closed_L112 {w : Wd} {x : Cz} (C : Ok w x cX5_closed RX5 2) (hR : OkI w x .int) (hN : xN x = 12) (N : Nat) (a1 : Int32) (a2 : Int32) (a3 : Int32) (hM : LM w) (k92 : Int32 → Int32 → Int32 → Int32 → Hp → Option Rs) (hk92 : ∀ (u4 : Int32) (u5 : Int32) (u6 : Int32) (u7 : Int32) (h : Hp), PW w x 92 [some (.ref (w.2.1 22)), none, some (.int a2), some (.int a3), some (.int u4), some (.int u5), some (.int u6), some (.int u7), none, none, none, none] [] h ((k92 u4 u5 u6 u7 h))) : ∀ (n : Nat) (u4 : Int32) (u5 : Int32) (u6 : Int32) (u7 : Int32) (u8 : Int32) (u9 : Int32) (u10 : Int32) (u11 : Int32) (h : Hp), PW w x 112 [some (.ref (w.2.1 22)), none, some (.int a2), some (.int a3), some (.int u4), some (.int u5), some (.int u6), some (.int u7), some (.int u8), some (.int u9), some (.int u10), some (.int u11)] [] h ((fX5_closed_L112 N a1 a2 a3 k92 n u4 u5 u6 u7 u8 u9 u10 u11 h)) := by
  intro n
  induction n with
  | zero => intro u4 u5 u6 u7 u8 u9 u10 u11 h; rw [fX5_closed_L112]; exact pw_none
  | succ n ih =>
    intro u4 u5 u6 u7 u8 u9 u10 u11 h
    rw [fX5_closed_L112]
    refine pw_iload C dX5_closed_112 rfl ?_
    refine pw_iload_n C dX5_closed_114 rfl rfl ?_
    refine pw_icmp_ge (tgt := 219) C dX5_closed_115 (by decide) (fun c16 => ?_) (fun c16 => ?_)
    · refine pw_iload C dX5_closed_118 rfl ?_
      refine pw_if_eq (tgt := 219) C dX5_closed_120 (by decide) (fun c17 => ?_) (fun c17 => ?_)
      · exact pw_lv (kX5_closed_J219 C hR hN N a1 a2 a3 hM k92 hk92 u4 u5 u6 u7 u8 u9 u10 h) ⟨rfl, rfl, rfl, rfl, rfl, rfl, rfl, rfl, rfl, rfl, trivial⟩
      · refine pw_iload C dX5_closed_123 rfl ?_
        refine pw_iload C dX5_closed_125 rfl ?_
        refine pw_ishr C dX5_closed_127 ?_
        refine pw_iconst (v := 1) C dX5_closed_128 (by decide) ?_
        refine pw_iand C dX5_closed_129 ?_
        refine pw_iconst (v := 1) C dX5_closed_130 (by decide) ?_
        refine pw_icmp_ne (tgt := 213) C dX5_closed_131 (by decide) (fun c18 => ?_) (fun c18 => ?_)
        · refine pw_iload C dX5_closed_134 rfl ?_
          refine pw_iload C dX5_closed_136 rfl ?_
          refine pw_icmp_ge (tgt := 177) C dX5_closed_138 (by decide) (fun c19 => ?_) (fun c19 => ?_)
          · refine pw_aload_n C dX5_closed_141 rfl rfl ?_
            refine pw_getr (q2 := 31) C (hM 22 _ rfl (by decide)) rfl (k := 14) (by decide) rfl fl_X5_34 dX5_closed_142 ?_
            refine pw_iload C dX5_closed_145 rfl ?_
            refine pw_ialdb C (hM 31 _ rfl (by decide)) dX5_closed_147 (fun v5 => ?_)
            refine pw_bipush (v := 10) C dX5_closed_148 (by decide) ?_
            refine pw_idiv C dX5_closed_150 (by decide) ?_
            refine pw_iconst (v := 1) C dX5_closed_151 (by decide) ?_
            refine PW.eq (apply_ite (fun z_ => (fX5_closed_J160 N a1 a2 a3 k92 (fX5_closed_L112 N a1 a2 a3 k92 n) u4 u5 u6 u7 u8 u9 u11 z_ h)) _ _ _) ?_
            refine pw_icmp_ne (tgt := 159) C dX5_closed_152 (by decide) (fun c20 => ?_) (fun c20 => ?_)
            · refine pw_iconst (v := 1) C dX5_closed_155 (by decide) ?_
              refine pw_goto (tgt := 160) C dX5_closed_156 (by decide) ?_
              exact pw_lv (kX5_closed_J160 C hR hN N a1 a2 a3 hM k92 hk92 (fX5_closed_L112 N a1 a2 a3 k92 n) ih u4 u5 u6 u7 u8 u9 u11 1 h) ⟨rfl, rfl, rfl, rfl, rfl, rfl, rfl, rfl, rfl, rfl, trivial⟩
            · refine pw_iconst (v := 0) C dX5_closed_159 (by decide) ?_
              exact pw_lv (kX5_closed_J160 C hR hN N a1 a2 a3 hM k92 hk92 (fX5_closed_L112 N a1 a2 a3 k92 n) ih u4 u5 u6 u7 u8 u9 u11 0 h) ⟨rfl, rfl, rfl, rfl, rfl, rfl, rfl, rfl, rfl, rfl, trivial⟩
          · refine pw_iconst (v := 0) C dX5_closed_177 (by decide) ?_
            exact pw_lv (kX5_closed_J178 C hR hN N a1 a2 a3 hM k92 hk92 (fX5_closed_L112 N a1 a2 a3 k92 n) ih u4 u5 u6 u7 u8 u9 u11 0 h) ⟨rfl, rfl, rfl, rfl, rfl, rfl, rfl, rfl, rfl, rfl, trivial⟩
        · refine pw_iinc (lv2 := [some (.ref (w.2.1 22)), none, some (.int a2), some (.int a3), some (.int u4), some (.int u5), some (.int u6), some (.int u7), some (.int u8), some (.int u9), some (.int u10), some (.int (u11 + 1))]) C dX5_closed_213 rfl rfl hN (by decide) rfl rfl ?_
          refine pw_goto (tgt := 112) C dX5_closed_216 (by decide) ?_
          exact ih u4 u5 u6 u7 u8 u9 u10 (u11 + 1) h
    · exact pw_lv (kX5_closed_J219 C hR hN N a1 a2 a3 hM k92 hk92 u4 u5 u6 u7 u8 u9 u10 h) ⟨rfl, rfl, rfl, rfl, rfl, rfl, rfl, rfl, rfl, rfl, trivial⟩
set_option maxRecDepth 100000 in
set_option maxHeartbeats 4000000 in
theorem kX5_closed_L92 {w : Wd} {x : Cz} (C : Ok w x cX5_closed RX5 2) (hR : OkI w x .int) (hN : xN x = 12) (N : Nat) (a1 : Int32) (a2 : Int32) (a3 : Int32) (hM : LM w)  : ∀ (n : Nat) (u4 : Int32) (u5 : Int32) (u6 : Int32) (u7 : Int32) (h : Hp), PW w x 92 [some (.ref (w.2.1 22)), none, some (.int a2), some (.int a3), some (.int u4), some (.int u5), some (.int u6), some (.int u7), none, none, none, none] [] h ((fX5_closed_L92 N a1 a2 a3 n u4 u5 u6 u7 h)) := by
  intro n
  induction n with
  | zero => intro u4 u5 u6 u7 h; rw [fX5_closed_L92]; exact pw_none
  | succ n ih =>
    intro u4 u5 u6 u7 h
    rw [fX5_closed_L92]
    refine pw_iload C dX5_closed_92 rfl ?_
    refine pw_iconst (v := 1) C dX5_closed_94 (by decide) ?_
    refine pw_iload_n C dX5_closed_95 rfl rfl ?_
    refine pw_ishl C dX5_closed_96 ?_
    refine pw_icmp_ge (tgt := 263) C dX5_closed_97 (by decide) (fun c21 => ?_) (fun c21 => ?_)
    · refine pw_iconst (v := 0) C dX5_closed_100 (by decide) ?_
      refine pw_istore (lv2 := [some (.ref (w.2.1 22)), none, some (.int a2), some (.int a3), some (.int u4), some (.int u5), some (.int u6), some (.int u7), some (.int 0), none, none, none]) C dX5_closed_101 hN (by decide) rfl rfl ?_
      refine pw_iconst (v := 0) C dX5_closed_103 (by decide) ?_
      refine pw_istore (lv2 := [some (.ref (w.2.1 22)), none, some (.int a2), some (.int a3), some (.int u4), some (.int u5), some (.int u6), some (.int u7), some (.int 0), some (.int 0), none, none]) C dX5_closed_104 hN (by decide) rfl rfl ?_
      refine pw_iconst (v := 1) C dX5_closed_106 (by decide) ?_
      refine pw_istore (lv2 := [some (.ref (w.2.1 22)), none, some (.int a2), some (.int a3), some (.int u4), some (.int u5), some (.int u6), some (.int u7), some (.int 0), some (.int 0), some (.int 1), none]) C dX5_closed_107 hN (by decide) rfl rfl ?_
      refine pw_iconst (v := 0) C dX5_closed_109 (by decide) ?_
      refine pw_istore (lv2 := [some (.ref (w.2.1 22)), none, some (.int a2), some (.int a3), some (.int u4), some (.int u5), some (.int u6), some (.int u7), some (.int 0), some (.int 0), some (.int 1), some (.int 0)]) C dX5_closed_110 hN (by decide) rfl rfl ?_
      exact kX5_closed_L112 C hR hN N a1 a2 a3 hM (fX5_closed_L92 N a1 a2 a3 n) ih N u4 u5 u6 u7 0 0 1 0 h
    · refine pw_iload_n C dX5_closed_263 rfl rfl ?_
      refine pw_if_ne (tgt := 272) C dX5_closed_264 (by decide) (fun c22 => ?_) (fun c22 => ?_)
      · refine pw_iload C dX5_closed_267 rfl ?_
        refine pw_goto (tgt := 274) C dX5_closed_269 (by decide) ?_
        exact pw_iret C hR dX5_closed_274
      · refine pw_iload C dX5_closed_272 rfl ?_
        exact pw_iret C hR dX5_closed_274
set_option maxRecDepth 100000 in
set_option maxHeartbeats 4000000 in
theorem kX5_closed_L35 {w : Wd} {x : Cz} (C : Ok w x cX5_closed RX5 2) (hR : OkI w x .int) (hN : xN x = 12) (N : Nat) (a1 : Int32) (a2 : Int32) (a3 : Int32) (hM : LM w)  : ∀ (n : Nat) (u4 : Int32) (u5 : Int32) (h : Hp), PW w x 35 [some (.ref (w.2.1 22)), some (.int a1), some (.int a2), some (.int a3), some (.int u4), some (.int u5), none, none, none, none, none, none] [] h ((fX5_closed_L35 N a1 a2 a3 n u4 u5 h)) := by
  intro n
  induction n with
  | zero => intro u4 u5 h; rw [fX5_closed_L35]; exact pw_none
  | succ n ih =>
    intro u4 u5 h
    rw [fX5_closed_L35]
    refine pw_iload C dX5_closed_35 rfl ?_
    refine pw_aload_n C dX5_closed_37 rfl rfl ?_
    refine pw_getr (q2 := 23) C (hM 22 _ rfl (by decide)) rfl (k := 0) (by decide) rfl fl_X5_7 dX5_closed_38 ?_
    refine pw_bipush (v := 18) C dX5_closed_41 (by decide) ?_
    refine pw_iload_n C dX5_closed_43 rfl rfl ?_
    refine pw_iadd C dX5_closed_44 ?_
    refine pw_ialdb C (hM 23 _ rfl (by decide)) dX5_closed_45 (fun v1 => ?_)
    refine pw_icmp_ge (tgt := 82) C dX5_closed_46 (by decide) (fun c23 => ?_) (fun c23 => ?_)
    · refine pw_aload_n C dX5_closed_49 rfl rfl ?_
      refine pw_iload_n C dX5_closed_50 rfl rfl ?_
      refine pw_iload C dX5_closed_51 rfl ?_
      refine pw_callVp (as := [.int a1, .int u5]) (rest := []) C dX5_closed_53 ml_X5_134 cw_X5_knot0 im_X5_knot0 sl_X5_knot0 (hM 22 _ rfl (by decide)) rfl ⟨by decide, by decide⟩ (c_X5_knot0 h a1 u5 hM) rfl rfl (Nat.le_of_ble_eq_true rfl) (fun v2 => ?_)
      refine pw_if_eq (tgt := 76) C dX5_closed_56 (by decide) (fun c24 => ?_) (fun c24 => ?_)
      · refine pw_iinc (lv2 := [some (.ref (w.2.1 22)), some (.int a1), some (.int a2), some (.int a3), some (.int u4), some (.int (u5 + 1)), none, none, none, none, none, none]) C dX5_closed_76 rfl rfl hN (by decide) rfl rfl ?_
        refine pw_goto (tgt := 35) C dX5_closed_79 (by decide) ?_
        exact ih u4 (u5 + 1) h
      · refine pw_aload_n C dX5_closed_59 rfl rfl ?_
        refine pw_getr (q2 := 31) C (hM 22 _ rfl (by decide)) rfl (k := 14) (by decide) rfl fl_X5_34 dX5_closed_60 ?_
        refine pw_iload C dX5_closed_63 rfl ?_
        refine pw_aload_n C dX5_closed_65 rfl rfl ?_
        refine pw_iload_n C dX5_closed_66 rfl rfl ?_
        refine pw_iload C dX5_closed_67 rfl ?_
        refine pw_callVp (as := [.int a1, .int u5]) (rest := [.int u4, .ref (w.2.1 31)]) C dX5_closed_69 ml_X5_134 cw_X5_knot0 im_X5_knot0 sl_X5_knot0 (hM 22 _ rfl (by decide)) rfl ⟨by decide, by decide⟩ (c_X5_knot0 h a1 u5 hM) rfl rfl (Nat.le_of_ble_eq_true rfl) (fun v3 => ?_)
        refine pw_iast C (hM 31 _ rfl (by decide)) dX5_closed_72 ?_
        refine pw_nameh (fun g4 => ?_)
        refine pw_iinc (lv2 := [some (.ref (w.2.1 22)), some (.int a1), some (.int a2), some (.int a3), some (.int (u4 + 1)), some (.int u5), none, none, none, none, none, none]) C dX5_closed_73 rfl rfl hN (by decide) rfl rfl ?_
        refine pw_iinc (lv2 := [some (.ref (w.2.1 22)), some (.int a1), some (.int a2), some (.int a3), some (.int (u4 + 1)), some (.int (u5 + 1)), none, none, none, none, none, none]) C dX5_closed_76 rfl rfl hN (by decide) rfl rfl ?_
        refine pw_goto (tgt := 35) C dX5_closed_79 (by decide) ?_
        exact ih (u4 + 1) (u5 + 1) g4
    · refine pw_iconst (v := 0) C dX5_closed_82 (by decide) ?_
      refine pw_istore (lv2 := [some (.ref (w.2.1 22)), some (.int a1), some (.int a2), some (.int a3), some (.int u4), some (.int 0), none, none, none, none, none, none]) C dX5_closed_83 hN (by decide) rfl rfl ?_
      refine pw_bipush (v := (-4)) C dX5_closed_85 (by decide) ?_
      refine pw_istore (lv2 := [some (.ref (w.2.1 22)), some (.int a1), some (.int a2), some (.int a3), some (.int u4), some (.int 0), some (.int (-4)), none, none, none, none, none]) C dX5_closed_87 hN (by decide) rfl rfl ?_
      refine pw_iconst (v := 0) C dX5_closed_89 (by decide) ?_
      refine pw_istore (lv2 := [some (.ref (w.2.1 22)), some (.int a1), some (.int a2), some (.int a3), some (.int u4), some (.int 0), some (.int (-4)), some (.int 0), none, none, none, none]) C dX5_closed_90 hN (by decide) rfl rfl ?_
      exact pw_lv (kX5_closed_L92 C hR hN N a1 a2 a3 hM N u4 0 (-4) 0 h) ⟨rfl, rfl, rfl, rfl, rfl, rfl, rfl, trivial⟩
set_option maxRecDepth 100000 in
set_option maxHeartbeats 4000000 in
theorem c_X5_closed {l : Launch} {w : Wd} {A : Nat → Prop} (N : Nat) (h : Hp) (a1 : Int32) (a2 : Int32) (a3 : Int32) (hM : LM w) : ConI l yX5_closed cX5_closed 12 .int 2 w A [.ref (w.2.1 22), .int a1, .int a2, .int a3] h ((fX5_closed N h a1 a2 a3)) := by
  refine ConI.of (lv0 := [some (.ref (w.2.1 22)), some (.int a1), some (.int a2), some (.int a3), none, none, none, none, none, none, none, none]) (by decide +kernel) (Nat.le_of_ble_eq_true rfl) rfl (fun x C hR hN => ?_)
  unfold fX5_closed
  refine pw_aload_n C dX5_closed_0 rfl rfl ?_
  refine pw_iload_n C dX5_closed_1 rfl rfl ?_
  refine pw_callVt (as := [.int a1]) (rest := []) C dX5_closed_2 ml_X5_156 cw_X5_isCord im_X5_isCord sl_X5_isCord (hM 22 _ rfl (by decide)) rfl ⟨by decide, by decide⟩ (c_X5_isCord h a1 hM) rfl rfl (Nat.le_of_ble_eq_true rfl) ?_
  refine pw_if_eq (tgt := 27) C dX5_closed_5 (by decide) (fun c25 => ?_) (fun c25 => ?_)
  · refine pw_iconst (v := (-1)) C dX5_closed_27 (by decide) ?_
    exact pw_iret C hR dX5_closed_28
  · refine pw_iload_n C dX5_closed_8 rfl rfl ?_
    refine pw_i2l C dX5_closed_9 ?_
    refine pw_lconst (v := 1) C dX5_closed_10 (by decide) ?_
    refine pw_ldc2 (C := C) cl_X5_233 dX5_closed_11 ?_
    refine pw_callSt (as := [.long (a2).toInt64, .long 1, .long 6]) (rest := []) C dX5_closed_14 ml_X5_54 cw_X5_in st_X5_in ⟨by decide, by decide⟩ (c_X5_in h (a2).toInt64 1 6) rfl rfl (Nat.le_of_ble_eq_true rfl) ?_
    refine pw_if_eq (tgt := 27) C dX5_closed_17 (by decide) (fun c26 => ?_) (fun c26 => ?_)
    · refine pw_iconst (v := (-1)) C dX5_closed_27 (by decide) ?_
      exact pw_iret C hR dX5_closed_28
    · refine pw_iload_n C dX5_closed_20 rfl rfl ?_
      refine pw_callSt (as := [.int a3]) (rest := []) C dX5_closed_21 ml_X5_230 cw_X5_isTwo st_X5_isTwo ⟨by decide, by decide⟩ (c_X5_isTwo h a3) rfl rfl (Nat.le_of_ble_eq_true rfl) ?_
      refine pw_if_ne (tgt := 29) C dX5_closed_24 (by decide) (fun c27 => ?_) (fun c27 => ?_)
      · refine pw_iconst (v := (-1)) C dX5_closed_27 (by decide) ?_
        exact pw_iret C hR dX5_closed_28
      · refine pw_iconst (v := 0) C dX5_closed_29 (by decide) ?_
        refine pw_istore (lv2 := [some (.ref (w.2.1 22)), some (.int a1), some (.int a2), some (.int a3), some (.int 0), none, none, none, none, none, none, none]) C dX5_closed_30 hN (by decide) rfl rfl ?_
        refine pw_iconst (v := 0) C dX5_closed_32 (by decide) ?_
        refine pw_istore (lv2 := [some (.ref (w.2.1 22)), some (.int a1), some (.int a2), some (.int a3), some (.int 0), some (.int 0), none, none, none, none, none, none]) C dX5_closed_33 hN (by decide) rfl rfl ?_
        exact kX5_closed_L35 C hR hN N a1 a2 a3 hM N 0 0 h
set_option maxRecDepth 100000 in
set_option maxHeartbeats 4000000 in
theorem kX5_areAlikeBelow_L10 {w : Wd} {x : Cz} (C : Ok w x cX5_areAlikeBelow RX5 2) (hR : OkI w x .boolean) (hN : xN x = 5) (N : Nat) (h : Hp) (a1 : Int32) (a2 : Int32) (hM : LM w)  : ∀ (n : Nat) (u3 : Int32) (u4 : Int32), PW w x 10 [some (.ref (w.2.1 22)), some (.int a1), some (.int a2), some (.int u3), some (.int u4)] [] h (Option.map (fun v => (v, h)) (fX5_areAlikeBelow_L10 N h a1 a2 n u3 u4)) := by
  intro n
  induction n with
  | zero => intro u3 u4; rw [fX5_areAlikeBelow_L10]; exact pw_none
  | succ n ih =>
    intro u3 u4
    rw [fX5_areAlikeBelow_L10]
    refine pw_iload_n C dX5_areAlikeBelow_10 rfl rfl ?_
    refine pm_if_eq (tgt := 49) C dX5_areAlikeBelow_11 (by decide) (fun c6 => ?_) (fun c6 => ?_)
    · refine pw_iload_n C dX5_areAlikeBelow_49 rfl rfl ?_
      exact pm_zret C hR dX5_areAlikeBelow_50
    · refine pw_iload C dX5_areAlikeBelow_14 rfl ?_
      refine pw_aload_n C dX5_areAlikeBelow_16 rfl rfl ?_
      refine pw_iload_n C dX5_areAlikeBelow_17 rfl rfl ?_
      refine pm_callVp (as := [.int a1]) (rest := [.int u4]) C dX5_areAlikeBelow_18 ml_X5_162 cw_X5_hanging im_X5_hanging sl_X5_hanging (hM 22 _ rfl (by decide)) rfl ⟨by decide, by decide⟩ (c_X5_hanging N h a1 hM) rfl rfl (Nat.le_of_ble_eq_true rfl) (fun v2 => ?_)
      refine pm_icmp_ge (tgt := 49) C dX5_areAlikeBelow_21 (by decide) (fun c7 => ?_) (fun c7 => ?_)
      · refine pw_aload_n C dX5_areAlikeBelow_24 rfl rfl ?_
        refine pw_aload_n C dX5_areAlikeBelow_25 rfl rfl ?_
        refine pw_iload_n C dX5_areAlikeBelow_26 rfl rfl ?_
        refine pw_iload C dX5_areAlikeBelow_27 rfl ?_
        refine pm_callVp (as := [.int a1, .int u4]) (rest := [.ref (w.2.1 22)]) C dX5_areAlikeBelow_29 ml_X5_247 cw_X5_hangingAt im_X5_hangingAt sl_X5_hangingAt (hM 22 _ rfl (by decide)) rfl ⟨by decide, by decide⟩ (c_X5_hangingAt N h a1 u4 hM) rfl rfl (Nat.le_of_ble_eq_true rfl) (fun v3 => ?_)
        refine pw_aload_n C dX5_areAlikeBelow_32 rfl rfl ?_
        refine pw_iload_n C dX5_areAlikeBelow_33 rfl rfl ?_
        refine pw_iload C dX5_areAlikeBelow_34 rfl ?_
        refine pm_callVp (as := [.int a2, .int u4]) (rest := [.int v3, .ref (w.2.1 22)]) C dX5_areAlikeBelow_36 ml_X5_247 cw_X5_hangingAt im_X5_hangingAt sl_X5_hangingAt (hM 22 _ rfl (by decide)) rfl ⟨by decide, by decide⟩ (c_X5_hangingAt N h a2 u4 hM) rfl rfl (Nat.le_of_ble_eq_true rfl) (fun v4 => ?_)
        refine pm_callVp (as := [.int v3, .int v4]) (rest := []) C dX5_areAlikeBelow_39 ml_X5_244 cw_X5_areAlike im_X5_areAlike sl_X5_areAlike (hM 22 _ rfl (by decide)) rfl ⟨by decide, by decide⟩ (c_X5_areAlike N h v3 v4 hM) rfl rfl (Nat.le_of_ble_eq_true rfl) (fun v5 => ?_)
        refine pw_istore_n (lv2 := [some (.ref (w.2.1 22)), some (.int a1), some (.int a2), some (.int v5), some (.int u4)]) C dX5_areAlikeBelow_42 rfl hN (by decide) rfl rfl ?_
        refine pw_iinc (lv2 := [some (.ref (w.2.1 22)), some (.int a1), some (.int a2), some (.int v5), some (.int (u4 + 1))]) C dX5_areAlikeBelow_43 rfl rfl hN (by decide) rfl rfl ?_
        refine pw_goto (tgt := 10) C dX5_areAlikeBelow_46 (by decide) ?_
        exact ih v5 (u4 + 1)
      · refine pw_iload_n C dX5_areAlikeBelow_49 rfl rfl ?_
        exact pm_zret C hR dX5_areAlikeBelow_50
set_option maxRecDepth 100000 in
set_option maxHeartbeats 4000000 in
theorem c_X5_areAlikeBelow {l : Launch} {w : Wd} {A : Nat → Prop} (N : Nat) (h : Hp) (a1 : Int32) (a2 : Int32) (hM : LM w) : ConI l yX5_areAlikeBelow cX5_areAlikeBelow 5 .boolean 2 w A [.ref (w.2.1 22), .int a1, .int a2] h (Option.map (fun v => (v, h)) (fX5_areAlikeBelow N h a1 a2)) := by
  refine ConI.of (lv0 := [some (.ref (w.2.1 22)), some (.int a1), some (.int a2), none, none]) (by decide +kernel) (Nat.le_of_ble_eq_true rfl) rfl (fun x C hR hN => ?_)
  unfold fX5_areAlikeBelow
  refine pw_aload_n C dX5_areAlikeBelow_0 rfl rfl ?_
  refine pw_iload_n C dX5_areAlikeBelow_1 rfl rfl ?_
  refine pw_iload_n C dX5_areAlikeBelow_2 rfl rfl ?_
  refine pm_callVp (as := [.int a1, .int a2]) (rest := []) C dX5_areAlikeBelow_3 ml_X5_244 cw_X5_areAlike im_X5_areAlike sl_X5_areAlike (hM 22 _ rfl (by decide)) rfl ⟨by decide, by decide⟩ (c_X5_areAlike N h a1 a2 hM) rfl rfl (Nat.le_of_ble_eq_true rfl) (fun v1 => ?_)
  refine pw_istore_n (lv2 := [some (.ref (w.2.1 22)), some (.int a1), some (.int a2), some (.int v1), none]) C dX5_areAlikeBelow_6 rfl hN (by decide) rfl rfl ?_
  refine pw_iconst (v := 0) C dX5_areAlikeBelow_7 (by decide) ?_
  refine pw_istore (lv2 := [some (.ref (w.2.1 22)), some (.int a1), some (.int a2), some (.int v1), some (.int 0)]) C dX5_areAlikeBelow_8 hN (by decide) rfl rfl ?_
  exact kX5_areAlikeBelow_L10 C hR hN N h a1 a2 hM N v1 0
