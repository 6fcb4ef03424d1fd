set_option maxRecDepth 100000 in
set_option maxHeartbeats 4000000 in
theorem c_J9_floorMod_7cf53 {l : Launch} {w : Wd} {A : Nat → Prop} (h : Hp) (a0 : Int32) (a1 : Int32)  : ConI l yJ9_floorMod_7cf53 cJ9_floorMod_7cf53 3 .int 0 w A [.int a0, .int a1] h (Option.map (fun v => (v, h)) (fJ9_floorMod_7cf53 h a0 a1)) := by
  refine ConI.of (lv0 := [some (.int a0), some (.int a1), none]) (by decide +kernel) (Nat.le_of_ble_eq_true rfl) rfl (fun x C hR hN => ?_)
  unfold fJ9_floorMod_7cf53
  refine pw_iload_n C dJ9_floorMod_7cf53_0 rfl rfl ?_
  refine pw_iload_n C dJ9_floorMod_7cf53_1 rfl rfl ?_
  refine pm_ck (fun hc => ?_)
  refine pw_irem C dJ9_floorMod_7cf53_2 hc ?_
  refine pw_istore_n (lv2 := [some (.int a0), some (.int a1), some (.int (a0 - a0 / a1 * a1))]) C dJ9_floorMod_7cf53_3 rfl hN (by decide) rfl rfl ?_
  refine pw_iload_n C dJ9_floorMod_7cf53_4 rfl rfl ?_
  refine pw_iload_n C dJ9_floorMod_7cf53_5 rfl rfl ?_
  refine pw_ixor C dJ9_floorMod_7cf53_6 ?_
  refine pm_if_ge (tgt := 18) C dJ9_floorMod_7cf53_7 (by decide) (fun c1 => ?_) (fun c1 => ?_)
  · refine pw_iload_n C dJ9_floorMod_7cf53_10 rfl rfl ?_
    refine pm_if_eq (tgt := 18) C dJ9_floorMod_7cf53_11 (by decide) (fun c2 => ?_) (fun c2 => ?_)
    · refine pw_iload_n C dJ9_floorMod_7cf53_18 rfl rfl ?_
      exact pm_iret C hR dJ9_floorMod_7cf53_19
    · refine pw_iload_n C dJ9_floorMod_7cf53_14 rfl rfl ?_
      refine pw_iload_n C dJ9_floorMod_7cf53_15 rfl rfl ?_
      refine pw_iadd C dJ9_floorMod_7cf53_16 ?_
      exact pm_iret C hR dJ9_floorMod_7cf53_17
  · refine pw_iload_n C dJ9_floorMod_7cf53_18 rfl rfl ?_
    exact pm_iret C hR dJ9_floorMod_7cf53_19
set_option maxRecDepth 100000 in
set_option maxHeartbeats 4000000 in
theorem kJ7_fill_53178_L5 {w : Wd} {x : Cz} (C : Ok w x cJ7_fill_53178 RJ7 0) (hR : OkV w x) (hN : xN x = 4) (N : Nat) (q0 n0 : Nat) (a1 : Int32) (hq0 : w.2.2.1[q0]? = some (1, n0, []))  : ∀ (n : Nat) (u2 : Int32) (u3 : Int32) (h : Hp), PW w x 5 [some (.ref (w.2.1 q0)), some (.int a1), some (.int u2), some (.int u3)] [] h ((fJ7_fill_53178_L5 N q0 n0 a1 n u2 u3 h)) := by
  intro n
  induction n with
  | zero => intro u2 u3 h; rw [fJ7_fill_53178_L5]; exact pw_none
  | succ n ih =>
    intro u2 u3 h
    rw [fJ7_fill_53178_L5]
    refine pw_iload_n C dJ7_fill_53178_5 rfl rfl ?_
    refine pw_iload_n C dJ7_fill_53178_6 rfl rfl ?_
    refine pw_icmp_ge (tgt := 20) C dJ7_fill_53178_7 (by decide) (fun c2 => ?_) (fun c2 => ?_)
    · refine pw_aload_n C dJ7_fill_53178_10 rfl rfl ?_
      refine pw_iload_n C dJ7_fill_53178_11 rfl rfl ?_
      refine pw_iload_n C dJ7_fill_53178_12 rfl rfl ?_
      refine pw_iast C hq0 dJ7_fill_53178_13 ?_
      refine pw_nameh (fun g1 => ?_)
      refine pw_iinc (lv2 := [some (.ref (w.2.1 q0)), some (.int a1), some (.int (u2 + 1)), some (.int u3)]) C dJ7_fill_53178_14 rfl rfl hN (by decide) rfl rfl ?_
      refine pw_goto (tgt := 5) C dJ7_fill_53178_17 (by decide) ?_
      exact ih (u2 + 1) u3 g1
    · exact pw_vret C hR dJ7_fill_53178_20
set_option maxRecDepth 100000 in
set_option maxHeartbeats 4000000 in
theorem c_J7_fill_53178 {l : Launch} {w : Wd} {A : Nat → Prop} (N : Nat) (h : Hp) (q0 n0 : Nat) (a1 : Int32) (hq0 : w.2.2.1[q0]? = some (1, n0, [])) : ConV l yJ7_fill_53178 cJ7_fill_53178 4 0 w A [.ref (w.2.1 q0), .int a1] h ((fJ7_fill_53178 N h q0 n0 a1)) := by
  refine ConV.of (lv0 := [some (.ref (w.2.1 q0)), some (.int a1), none, none]) (by decide +kernel) (Nat.le_of_ble_eq_true rfl) rfl (fun x C hR hN => ?_)
  unfold fJ7_fill_53178
  refine pw_iconst (v := 0) C dJ7_fill_53178_0 (by decide) ?_
  refine pw_istore_n (lv2 := [some (.ref (w.2.1 q0)), some (.int a1), some (.int 0), none]) C dJ7_fill_53178_1 rfl hN (by decide) rfl rfl ?_
  refine pw_aload_n C dJ7_fill_53178_2 rfl rfl ?_
  refine pw_ialen (v := (Int32.ofNat n0)) C hq0 rfl dJ7_fill_53178_3 ?_
  refine pw_istore_n (lv2 := [some (.ref (w.2.1 q0)), some (.int a1), some (.int 0), some (.int (Int32.ofNat n0))]) C dJ7_fill_53178_4 rfl hN (by decide) rfl rfl ?_
  exact kJ7_fill_53178_L5 C hR hN N q0 n0 a1 hq0 N 0 (Int32.ofNat n0) h
set_option maxRecDepth 100000 in
set_option maxHeartbeats 4000000 in
theorem c_X2_add {l : Launch} {w : Wd} {A : Nat → Prop} (h : Hp) (a1 : Int32) (a2 : Int32) (hL : LX w) : ConV l yX2_add cX2_add 3 1 w A [.ref (w.2.1 12), .int a1, .int a2] h ((fX2_add h a1 a2)) := by
  refine ConV.of (lv0 := [some (.ref (w.2.1 12)), some (.int a1), some (.int a2)]) (by decide +kernel) (Nat.le_of_ble_eq_true rfl) rfl (fun x C hR hN => ?_)
  unfold fX2_add
  refine pw_aload_n C dX2_add_0 rfl rfl ?_
  refine pw_getr (q2 := 13) C (hL 12 _ rfl) rfl (k := 0) (by decide) rfl fl_X2_11 dX2_add_1 ?_
  refine pw_aload_n C dX2_add_4 rfl rfl ?_
  refine pw_geti C (hL 12 _ rfl) rfl (k := 5) (by decide) rfl fl_X2_27 dX2_add_5 ?_
  refine pw_iload_n C dX2_add_8 rfl rfl ?_
  refine pw_callSNw (host := "ToldInKnots") (as := [.ref (w.2.1 13), .int (h 12 5), .int a1]) (rest := []) C dX2_add_9 (by decide +kernel) cw_X4_put st_X4_put ⟨by decide, by decide⟩ (c_X4_put h 13 16 (h 12 5) a1 (hL 13 _ rfl)) rfl rfl (Nat.le_of_ble_eq_true rfl) ?_
  refine pw_nameh (fun g1 => ?_)
  refine pw_aload_n C dX2_add_12 rfl rfl ?_
  refine pw_getr (q2 := 14) C (hL 12 _ rfl) rfl (k := 1) (by decide) rfl fl_X2_15 dX2_add_13 ?_
  refine pw_aload_n C dX2_add_16 rfl rfl ?_
  refine pw_geti C (hL 12 _ rfl) rfl (k := 5) (by decide) rfl fl_X2_27 dX2_add_17 ?_
  refine pw_iload_n C dX2_add_20 rfl rfl ?_
  refine pw_callSNw (host := "ToldInKnots") (as := [.ref (w.2.1 14), .int (g1 12 5), .int a2]) (rest := []) C dX2_add_21 (by decide +kernel) cw_X4_put st_X4_put ⟨by decide, by decide⟩ (c_X4_put g1 14 16 (g1 12 5) a2 (hL 14 _ rfl)) rfl rfl (Nat.le_of_ble_eq_true rfl) ?_
  refine pw_nameh (fun g2 => ?_)
  refine pw_aload_n C dX2_add_24 rfl rfl ?_
  refine pw_dup C dX2_add_25 rfl ?_
  refine pw_geti C (hL 12 _ rfl) rfl (k := 5) (by decide) rfl fl_X2_27 dX2_add_26 ?_
  refine pw_iconst (v := 1) C dX2_add_29 (by decide) ?_
  refine pw_iadd C dX2_add_30 ?_
  refine pw_puti C (hL 12 _ rfl) rfl (k := 5) (by decide) rfl fl_X2_27 dX2_add_31 rfl (by decide) ?_
  refine pw_nameh (fun g3 => ?_)
  exact pw_vret C hR dX2_add_34
set_option maxRecDepth 100000 in
set_option maxHeartbeats 4000000 in
theorem kX2_mergeWith_J106 {w : Wd} {x : Cz} (C : Ok w x cX2_mergeWith RX2 1) (hR : OkV w x) (hN : xN x = 9) (N : Nat) (a1 : Int32) (hL : LX w) (k15 : Int32 → Int32 → Int32 → Int32 → Hp → Option Rs) (hk15 : ∀ (u2 : Int32) (u3 : Int32) (u4 : Int32) (u5 : Int32) (h : Hp), PW w x 15 [some (.ref (w.2.1 12)), some (.int a1), some (.int u2), some (.int u3), some (.int u4), some (.int u5), none, none, none] [] h ((k15 u2 u3 u4 u5 h))) : ∀ (u3 : Int32) (u4 : Int32) (u5 : Int32) (u8 : Int32) (t0 : Int32) (t1 : Int32) (h : Hp), PW w x 106 [some (.ref (w.2.1 12)), some (.int a1), none, some (.int u3), some (.int u4), some (.int u5), none, none, some (.int u8)] [.int t0, .int t1] h ((fX2_mergeWith_J106 N a1 k15 u3 u4 u5 u8 t0 t1 h)) := by
  intro u3 u4 u5 u8 t0 t1 h
  unfold fX2_mergeWith_J106
  refine pw_iadd C dX2_mergeWith_106 ?_
  refine pw_istore_n (lv2 := [some (.ref (w.2.1 12)), some (.int a1), some (.int (t1 + t0)), some (.int u3), some (.int u4), some (.int u5), none, none, some (.int u8)]) C dX2_mergeWith_107 rfl hN (by decide) rfl rfl ?_
  refine pw_iload_n C dX2_mergeWith_108 rfl rfl ?_
  refine pw_iload C dX2_mergeWith_109 rfl ?_
  refine PW.eq (apply_ite (fun z_ => (k15 (t1 + t0) z_ u4 (u5 + 1) h)) _ _ _) ?_
  refine pw_if_eq (tgt := 118) C dX2_mergeWith_111 (by decide) (fun c13 => ?_) (fun c13 => ?_)
  · refine pw_iconst (v := 1) C dX2_mergeWith_118 (by decide) ?_
    refine pw_iadd C dX2_mergeWith_119 ?_
    refine pw_istore_n (lv2 := [some (.ref (w.2.1 12)), some (.int a1), some (.int (t1 + t0)), some (.int (u3 + 1)), some (.int u4), some (.int u5), none, none, some (.int u8)]) C dX2_mergeWith_120 rfl hN (by decide) rfl rfl ?_
    refine pw_iinc (lv2 := [some (.ref (w.2.1 12)), some (.int a1), some (.int (t1 + t0)), some (.int (u3 + 1)), some (.int u4), some (.int (u5 + 1)), none, none, some (.int u8)]) C dX2_mergeWith_121 rfl rfl hN (by decide) rfl rfl ?_
    refine pw_goto (tgt := 15) C dX2_mergeWith_124 (by decide) ?_
    exact pw_lv (hk15 (t1 + t0) (u3 + 1) u4 (u5 + 1) h) ⟨rfl, rfl, rfl, rfl, rfl, rfl, trivial⟩
  · refine pw_iconst (v := 0) C dX2_mergeWith_114 (by decide) ?_
    refine pw_goto (tgt := 119) C dX2_mergeWith_115 (by decide) ?_
    refine pw_iadd C dX2_mergeWith_119 ?_
    refine pw_istore_n (lv2 := [some (.ref (w.2.1 12)), some (.int a1), some (.int (t1 + t0)), some (.int (u3 + 0)), some (.int u4), some (.int u5), none, none, some (.int u8)]) C dX2_mergeWith_120 rfl hN (by decide) rfl rfl ?_
    refine pw_iinc (lv2 := [some (.ref (w.2.1 12)), some (.int a1), some (.int (t1 + t0)), some (.int (u3 + 0)), some (.int u4), some (.int (u5 + 1)), none, none, some (.int u8)]) C dX2_mergeWith_121 rfl rfl hN (by decide) rfl rfl ?_
    refine pw_goto (tgt := 15) C dX2_mergeWith_124 (by decide) ?_
    exact pw_lv (hk15 (t1 + t0) (u3 + 0) u4 (u5 + 1) h) ⟨rfl, rfl, rfl, rfl, rfl, rfl, trivial⟩
set_option maxRecDepth 100000 in
set_option maxHeartbeats 4000000 in
theorem kX2_mergeWith_J92 {w : Wd} {x : Cz} (C : Ok w x cX2_mergeWith RX2 1) (hR : OkV w x) (hN : xN x = 9) (N : Nat) (a1 : Int32) (hL : LX w) (k15 : Int32 → Int32 → Int32 → Int32 → Hp → Option Rs) (hk15 : ∀ (u2 : Int32) (u3 : Int32) (u4 : Int32) (u5 : Int32) (h : Hp), PW w x 15 [some (.ref (w.2.1 12)), some (.int a1), some (.int u2), some (.int u3), some (.int u4), some (.int u5), none, none, none] [] h ((k15 u2 u3 u4 u5 h))) : ∀ (u2 : Int32) (u3 : Int32) (u4 : Int32) (u5 : Int32) (u8 : Int32) (t0 : Int32) (t1 : Int32) (h : Hp), PW w x 92 [some (.ref (w.2.1 12)), some (.int a1), some (.int u2), some (.int u3), some (.int u4), some (.int u5), none, none, some (.int u8)] [.int t0, .int t1, .ref (w.2.1 ((h 12 4).toNatClampNeg))] h ((fX2_mergeWith_J92 N a1 k15 u2 u3 u4 u5 u8 t0 t1 h)) := by
  intro u2 u3 u4 u5 u8 t0 t1 h
  unfold fX2_mergeWith_J92
  refine pw_ck (fun hc11 => ?_)
  refine pw_callSNw (host := "ToldInKnots") (as := [.ref (w.2.1 ((h 12 4).toNatClampNeg)), .int t1, .int t0]) (rest := []) C dX2_mergeWith_92 (by decide +kernel) cw_X4_put st_X4_put ⟨by decide, by decide⟩ (c_X4_put h ((h 12 4).toNatClampNeg) 256 t1 t0 (dynK hL hc11)) rfl rfl (Nat.le_of_ble_eq_true rfl) ?_
  refine pw_nameh (fun g12 => ?_)
  refine pw_iload_n C dX2_mergeWith_95 rfl rfl ?_
  refine pw_iload C dX2_mergeWith_96 rfl ?_
  refine PW.eq (apply_ite (fun z_ => (fX2_mergeWith_J106 N a1 k15 u3 u4 u5 u8 z_ u2 g12)) _ _ _) ?_
  refine pw_if_eq (tgt := 105) C dX2_mergeWith_98 (by decide) (fun c14 => ?_) (fun c14 => ?_)
  · refine pw_iconst (v := 0) C dX2_mergeWith_105 (by decide) ?_
    exact pw_lv (kX2_mergeWith_J106 C hR hN N a1 hL k15 hk15 u3 u4 u5 u8 0 u2 g12) ⟨rfl, rfl, rfl, rfl, rfl, rfl, trivial⟩
  · refine pw_iconst (v := 1) C dX2_mergeWith_101 (by decide) ?_
    refine pw_goto (tgt := 106) C dX2_mergeWith_102 (by decide) ?_
    exact pw_lv (kX2_mergeWith_J106 C hR hN N a1 hL k15 hk15 u3 u4 u5 u8 1 u2 g12) ⟨rfl, rfl, rfl, rfl, rfl, rfl, trivial⟩
set_option maxRecDepth 100000 in
set_option maxHeartbeats 4000000 in
theorem kX2_mergeWith_J72 {w : Wd} {x : Cz} (C : Ok w x cX2_mergeWith RX2 1) (hR : OkV w x) (hN : xN x = 9) (N : Nat) (a1 : Int32) (hL : LX w) (k15 : Int32 → Int32 → Int32 → Int32 → Hp → Option Rs) (hk15 : ∀ (u2 : Int32) (u3 : Int32) (u4 : Int32) (u5 : Int32) (h : Hp), PW w x 15 [some (.ref (w.2.1 12)), some (.int a1), some (.int u2), some (.int u3), some (.int u4), some (.int u5), none, none, none] [] h ((k15 u2 u3 u4 u5 h))) : ∀ (u2 : Int32) (u3 : Int32) (u4 : Int32) (u5 : Int32) (u6 : Int32) (u7 : Int32) (t0 : Int32) (h : Hp), PW w x 72 [some (.ref (w.2.1 12)), some (.int a1), some (.int u2), some (.int u3), some (.int u4), some (.int u5), some (.int u6), some (.int u7), none] [.int t0] h ((fX2_mergeWith_J72 N a1 k15 u2 u3 u4 u5 u6 u7 t0 h)) := by
  intro u2 u3 u4 u5 u6 u7 t0 h
  unfold fX2_mergeWith_J72
  refine pw_istore (lv2 := [some (.ref (w.2.1 12)), some (.int a1), some (.int u2), some (.int u3), some (.int u4), some (.int u5), some (.int u6), some (.int u7), some (.int t0)]) C dX2_mergeWith_72 hN (by decide) rfl rfl ?_
  refine pw_aload_n C dX2_mergeWith_74 rfl rfl ?_
  refine pw_ck (fun hc10 => ?_)
  refine pw_getd C (hL 12 _ rfl) rfl (k := 4) (by decide) rfl fl_X2_24 dX2_mergeWith_75 ?_
  refine pw_iload C dX2_mergeWith_78 rfl ?_
  refine pw_iload C dX2_mergeWith_80 rfl ?_
  refine PW.eq (apply_ite (fun z_ => (fX2_mergeWith_J92 N a1 k15 u2 u3 u4 u5 t0 z_ u5 h)) _ _ _) ?_
  refine pw_if_eq (tgt := 90) C dX2_mergeWith_82 (by decide) (fun c15 => ?_) (fun c15 => ?_)
  · refine pw_iload C dX2_mergeWith_90 rfl ?_
    exact pw_lv (kX2_mergeWith_J92 C hR hN N a1 hL k15 hk15 u2 u3 u4 u5 t0 u7 u5 h) ⟨rfl, rfl, rfl, rfl, rfl, rfl, rfl, trivial⟩
  · refine pw_iload C dX2_mergeWith_85 rfl ?_
    refine pw_goto (tgt := 92) C dX2_mergeWith_87 (by decide) ?_
    exact pw_lv (kX2_mergeWith_J92 C hR hN N a1 hL k15 hk15 u2 u3 u4 u5 t0 u6 u5 h) ⟨rfl, rfl, rfl, rfl, rfl, rfl, rfl, trivial⟩
set_option maxRecDepth 100000 in
set_option maxHeartbeats 4000000 in
theorem kX2_mergeWith_L15 {w : Wd} {x : Cz} (C : Ok w x cX2_mergeWith RX2 1) (hR : OkV w x) (hN : xN x = 9) (N : Nat) (a1 : Int32) (hL : LX w)  : ∀ (n : Nat) (u2 : Int32) (u3 : Int32) (u4 : Int32) (u5 : Int32) (h : Hp), PW w x 15 [some (.ref (w.2.1 12)), some (.int a1), some (.int u2), some (.int u3), some (.int u4), some (.int u5), none, none, none] [] h ((fX2_mergeWith_L15 N a1 n u2 u3 u4 u5 h)) := by
  intro n
  induction n with
  | zero => intro u2 u3 u4 u5 h; rw [fX2_mergeWith_L15]; exact pw_none
  | succ n ih =>
    intro u2 u3 u4 u5 h
    rw [fX2_mergeWith_L15]
    refine pw_iload C dX2_mergeWith_15 rfl ?_
    refine pw_iload C dX2_mergeWith_17 rfl ?_
    refine pw_icmp_ge (tgt := 127) C dX2_mergeWith_19 (by decide) (fun c16 => ?_) (fun c16 => ?_)
    · refine pw_aload_n C dX2_mergeWith_22 rfl rfl ?_
      refine pw_ck (fun hc1 => ?_)
      refine pw_getd C (hL 12 _ rfl) rfl (k := 3) (by decide) rfl fl_X2_21 dX2_mergeWith_23 ?_
      refine pw_iload_n C dX2_mergeWith_26 rfl rfl ?_
      refine pw_callSNt (host := "ToldInKnots") (as := [.ref (w.2.1 ((h 12 3).toNatClampNeg)), .int u2]) (rest := []) C dX2_mergeWith_27 (by decide +kernel) cw_X4_at st_X4_at ⟨by decide, by decide⟩ (c_X4_at h ((h 12 3).toNatClampNeg) 256 u2 (dynK hL hc1)) rfl rfl (Nat.le_of_ble_eq_true rfl) ?_
      refine pw_name (fun v2 => ?_)
      refine pw_istore (lv2 := [some (.ref (w.2.1 12)), some (.int a1), some (.int u2), some (.int u3), some (.int u4), some (.int u5), some (.int v2), none, none]) C dX2_mergeWith_30 hN (by decide) rfl rfl ?_
      refine pw_aload_n C dX2_mergeWith_32 rfl rfl ?_
      refine pw_ck (fun hc3 => ?_)
      refine pw_getd C (hL 12 _ rfl) rfl (k := 3) (by decide) rfl fl_X2_21 dX2_mergeWith_33 ?_
      refine pw_iload_n C dX2_mergeWith_36 rfl rfl ?_
      refine pw_callSNt (host := "ToldInKnots") (as := [.ref (w.2.1 ((h 12 3).toNatClampNeg)), .int u3]) (rest := []) C dX2_mergeWith_37 (by decide +kernel) cw_X4_at st_X4_at ⟨by decide, by decide⟩ (c_X4_at h ((h 12 3).toNatClampNeg) 256 u3 (dynK hL hc3)) rfl rfl (Nat.le_of_ble_eq_true rfl) ?_
      refine pw_iload_n C dX2_mergeWith_40 rfl rfl ?_
      refine pw_iadd C dX2_mergeWith_41 ?_
      refine pw_name (fun v4 => ?_)
      refine pw_istore (lv2 := [some (.ref (w.2.1 12)), some (.int a1), some (.int u2), some (.int u3), some (.int u4), some (.int u5), some (.int v2), some (.int v4), none]) C dX2_mergeWith_42 hN (by decide) rfl rfl ?_
      refine pw_iload_n C dX2_mergeWith_44 rfl rfl ?_
      refine pw_aload_n C dX2_mergeWith_45 rfl rfl ?_
      refine pw_geti C (hL 12 _ rfl) rfl (k := 6) (by decide) rfl fl_X2_72 dX2_mergeWith_46 ?_
      refine PW.eq (apply_ite (fun z_ => (fX2_mergeWith_J72 N a1 (fX2_mergeWith_L15 N a1 n) u2 u3 u4 u5 v2 v4 z_ h)) _ _ _) ?_
      refine pw_icmp_ge (tgt := 71) C dX2_mergeWith_49 (by decide) (fun c17 => ?_) (fun c17 => ?_)
      · refine pw_iload_n C dX2_mergeWith_52 rfl rfl ?_
        refine pw_aload_n C dX2_mergeWith_53 rfl rfl ?_
        refine pw_geti C (hL 12 _ rfl) rfl (k := 6) (by decide) rfl fl_X2_72 dX2_mergeWith_54 ?_
        refine PW.eq (apply_ite (fun z_ => (fX2_mergeWith_J72 N a1 (fX2_mergeWith_L15 N a1 n) u2 u3 u4 u5 v2 v4 z_ h)) _ _ _) ?_
        refine pw_icmp_ge (tgt := 67) C dX2_mergeWith_57 (by decide) (fun c18 => ?_) (fun c18 => ?_)
        · refine pw_iload C dX2_mergeWith_60 rfl ?_
          refine pw_iload C dX2_mergeWith_62 rfl ?_
          refine PW.eq (apply_ite (fun z_ => (fX2_mergeWith_J72 N a1 (fX2_mergeWith_L15 N a1 n) u2 u3 u4 u5 v2 v4 z_ h)) _ _ _) ?_
          refine pw_icmp_ge (tgt := 71) C dX2_mergeWith_64 (by decide) (fun c19 => ?_) (fun c19 => ?_)
          · refine pw_iconst (v := 1) C dX2_mergeWith_67 (by decide) ?_
            refine pw_goto (tgt := 72) C dX2_mergeWith_68 (by decide) ?_
            exact kX2_mergeWith_J72 C hR hN N a1 hL (fX2_mergeWith_L15 N a1 n) ih u2 u3 u4 u5 v2 v4 1 h
          · refine pw_iconst (v := 0) C dX2_mergeWith_71 (by decide) ?_
            exact kX2_mergeWith_J72 C hR hN N a1 hL (fX2_mergeWith_L15 N a1 n) ih u2 u3 u4 u5 v2 v4 0 h
        · refine pw_iconst (v := 1) C dX2_mergeWith_67 (by decide) ?_
          refine pw_goto (tgt := 72) C dX2_mergeWith_68 (by decide) ?_
          exact kX2_mergeWith_J72 C hR hN N a1 hL (fX2_mergeWith_L15 N a1 n) ih u2 u3 u4 u5 v2 v4 1 h
      · refine pw_iconst (v := 0) C dX2_mergeWith_71 (by decide) ?_
        exact kX2_mergeWith_J72 C hR hN N a1 hL (fX2_mergeWith_L15 N a1 n) ih u2 u3 u4 u5 v2 v4 0 h
    · refine pw_aload_n C dX2_mergeWith_127 rfl rfl ?_
      refine pw_ck (fun hc5 => ?_)
      refine pw_getd C (hL 12 _ rfl) rfl (k := 4) (by decide) rfl fl_X2_24 dX2_mergeWith_128 ?_
      refine pw_astore (lv2 := [some (.ref (w.2.1 12)), some (.int a1), some (.int u2), some (.int u3), some (.int u4), some (.ref (w.2.1 ((h 12 4).toNatClampNeg))), none, none, none]) C dX2_mergeWith_131 hN (by decide) rfl rfl ?_
      refine pw_aload_n C dX2_mergeWith_133 rfl rfl ?_
      refine pw_aload_n C dX2_mergeWith_134 rfl rfl ?_
      refine pw_ck (fun hc6 => ?_)
      refine pw_getd C (hL 12 _ rfl) rfl (k := 3) (by decide) rfl fl_X2_21 dX2_mergeWith_135 ?_
      refine pw_ck (fun hc => ?_)
      refine pw_putd C (hL 12 _ rfl) rfl (k := 4) (by decide) rfl fl_X2_24 dX2_mergeWith_138 rfl (by decide) hc ?_
      refine pw_nameh (fun g7 => ?_)
      refine pw_aload_n C dX2_mergeWith_141 rfl rfl ?_
      refine pw_aload C dX2_mergeWith_142 rfl ?_
      refine pw_ck (fun hc => ?_)
      refine pw_putd C (hL 12 _ rfl) rfl (k := 3) (by decide) rfl fl_X2_21 dX2_mergeWith_144 rfl (by decide) hc ?_
      refine pw_nameh (fun g8 => ?_)
      refine pw_aload_n C dX2_mergeWith_147 rfl rfl ?_
      refine pw_iload C dX2_mergeWith_148 rfl ?_
      refine pw_puti C (hL 12 _ rfl) rfl (k := 6) (by decide) rfl fl_X2_72 dX2_mergeWith_150 rfl (by decide) ?_
      refine pw_nameh (fun g9 => ?_)
      exact pw_vret C hR dX2_mergeWith_153
set_option maxRecDepth 100000 in
set_option maxHeartbeats 4000000 in
theorem c_X2_mergeWith {l : Launch} {w : Wd} {A : Nat → Prop} (N : Nat) (h : Hp) (a1 : Int32) (hL : LX w) : ConV l yX2_mergeWith cX2_mergeWith 9 1 w A [.ref (w.2.1 12), .int a1] h ((fX2_mergeWith N h a1)) := by
  refine ConV.of (lv0 := [some (.ref (w.2.1 12)), some (.int a1), none, none, none, none, none, none, none]) (by decide +kernel) (Nat.le_of_ble_eq_true rfl) rfl (fun x C hR hN => ?_)
  unfold fX2_mergeWith
  refine pw_iconst (v := 0) C dX2_mergeWith_0 (by decide) ?_
  refine pw_istore_n (lv2 := [some (.ref (w.2.1 12)), some (.int a1), some (.int 0), none, none, none, none, none, none]) C dX2_mergeWith_1 rfl hN (by decide) rfl rfl ?_
  refine pw_iconst (v := 0) C dX2_mergeWith_2 (by decide) ?_
  refine pw_istore_n (lv2 := [some (.ref (w.2.1 12)), some (.int a1), some (.int 0), some (.int 0), none, none, none, none, none]) C dX2_mergeWith_3 rfl hN (by decide) rfl rfl ?_
  refine pw_iconst (v := 2) C dX2_mergeWith_4 (by decide) ?_
  refine pw_aload_n C dX2_mergeWith_5 rfl rfl ?_
  refine pw_geti C (hL 12 _ rfl) rfl (k := 6) (by decide) rfl fl_X2_72 dX2_mergeWith_6 ?_
  refine pw_imul C dX2_mergeWith_9 ?_
  refine pw_istore (lv2 := [some (.ref (w.2.1 12)), some (.int a1), some (.int 0), some (.int 0), some (.int (2 * (h 12 6))), none, none, none, none]) C dX2_mergeWith_10 hN (by decide) rfl rfl ?_
  refine pw_iconst (v := 0) C dX2_mergeWith_12 (by decide) ?_
  refine pw_istore (lv2 := [some (.ref (w.2.1 12)), some (.int a1), some (.int 0), some (.int 0), some (.int (2 * (h 12 6))), some (.int 0), none, none, none]) C dX2_mergeWith_13 hN (by decide) rfl rfl ?_
  exact kX2_mergeWith_L15 C hR hN N a1 hL N 0 0 (2 * (h 12 6)) 0 h
set_option maxRecDepth 100000 in
set_option maxHeartbeats 4000000 in
theorem kX2_spreadHigh_L30 {w : Wd} {x : Cz} (C : Ok w x cX2_spreadHigh RX2 1) (hR : OkI w x .int) (hN : xN x = 4) (N : Nat) (hL : LX w) (k14 : Int32 → Int32 → Hp → Option Rs) (hk14 : ∀ (u1 : Int32) (u2 : Int32) (h : Hp), PW w x 14 [some (.ref (w.2.1 12)), some (.int u1), some (.int u2), none] [] h ((k14 u1 u2 h))) : ∀ (n : Nat) (u1 : Int32) (u2 : Int32) (u3 : Int32) (h : Hp), PW w x 30 [some (.ref (w.2.1 12)), some (.int u1), some (.int u2), some (.int u3)] [] h ((fX2_spreadHigh_L30 N k14 n u1 u2 u3 h)) := by
  intro n
  induction n with
  | zero => intro u1 u2 u3 h; rw [fX2_spreadHigh_L30]; exact pw_none
  | succ n ih =>
    intro u1 u2 u3 h
    rw [fX2_spreadHigh_L30]
    refine pw_iload_n C dX2_spreadHigh_30 rfl rfl ?_
    refine pw_iload_n C dX2_spreadHigh_31 rfl rfl ?_
    refine pw_icmp_ge (tgt := 68) C dX2_spreadHigh_32 (by decide) (fun c3 => ?_) (fun c3 => ?_)
    · refine pw_aload_n C dX2_spreadHigh_35 rfl rfl ?_
      refine pw_getr (q2 := 15) C (hL 12 _ rfl) rfl (k := 2) (by decide) rfl fl_X2_18 dX2_spreadHigh_36 ?_
      refine pw_iload_n C dX2_spreadHigh_39 rfl rfl ?_
      refine pw_iload_n C dX2_spreadHigh_40 rfl rfl ?_
      refine pw_iadd C dX2_spreadHigh_41 ?_
      refine pw_aload_n C dX2_spreadHigh_42 rfl rfl ?_
      refine pw_getr (q2 := 15) C (hL 12 _ rfl) rfl (k := 2) (by decide) rfl fl_X2_18 dX2_spreadHigh_43 ?_
      refine pw_iload_n C dX2_spreadHigh_46 rfl rfl ?_
      refine pw_callSNt (host := "ToldInKnots") (as := [.ref (w.2.1 15), .int u3]) (rest := [.int (u1 + u3), .ref (w.2.1 15)]) C dX2_spreadHigh_47 (by decide +kernel) cw_X4_at st_X4_at ⟨by decide, by decide⟩ (c_X4_at h 15 256 u3 (hL 15 _ rfl)) rfl rfl (Nat.le_of_ble_eq_true rfl) ?_
      refine pw_aload_n C dX2_spreadHigh_50 rfl rfl ?_
      refine pw_getr (q2 := 14) C (hL 12 _ rfl) rfl (k := 1) (by decide) rfl fl_X2_15 dX2_spreadHigh_51 ?_
      refine pw_iload_n C dX2_spreadHigh_54 rfl rfl ?_
      refine pw_callSNt (host := "ToldInKnots") (as := [.ref (w.2.1 14), .int u2]) (rest := [.int (atF h 15 256 u3), .int (u1 + u3), .ref (w.2.1 15)]) C dX2_spreadHigh_55 (by decide +kernel) cw_X4_at st_X4_at ⟨by decide, by decide⟩ (c_X4_at h 14 16 u2 (hL 14 _ rfl)) rfl rfl (Nat.le_of_ble_eq_true rfl) ?_
      refine pw_iadd C dX2_spreadHigh_58 ?_
      refine pw_callSNw (host := "ToldInKnots") (as := [.ref (w.2.1 15), .int (u1 + u3), .int ((atF h 15 256 u3) + (atF h 14 16 u2))]) (rest := []) C dX2_spreadHigh_59 (by decide +kernel) cw_X4_put st_X4_put ⟨by decide, by decide⟩ (c_X4_put h 15 256 (u1 + u3) ((atF h 15 256 u3) + (atF h 14 16 u2)) (hL 15 _ rfl)) rfl rfl (Nat.le_of_ble_eq_true rfl) ?_
      refine pw_nameh (fun g2 => ?_)
      refine pw_iinc (lv2 := [some (.ref (w.2.1 12)), some (.int u1), some (.int u2), some (.int (u3 + 1))]) C dX2_spreadHigh_62 rfl rfl hN (by decide) rfl rfl ?_
      refine pw_goto (tgt := 30) C dX2_spreadHigh_65 (by decide) ?_
      exact ih u1 u2 (u3 + 1) g2
    · refine pw_iload_n C dX2_spreadHigh_68 rfl rfl ?_
      refine pw_iconst (v := 2) C dX2_spreadHigh_69 (by decide) ?_
      refine pw_imul C dX2_spreadHigh_70 ?_
      refine pw_istore_n (lv2 := [some (.ref (w.2.1 12)), some (.int (u1 * 2)), some (.int u2), some (.int u3)]) C dX2_spreadHigh_71 rfl hN (by decide) rfl rfl ?_
      refine pw_iinc (lv2 := [some (.ref (w.2.1 12)), some (.int (u1 * 2)), some (.int (u2 + 1)), some (.int u3)]) C dX2_spreadHigh_72 rfl rfl hN (by decide) rfl rfl ?_
      refine pw_goto (tgt := 14) C dX2_spreadHigh_75 (by decide) ?_
      exact pw_lv (hk14 (u1 * 2) (u2 + 1) h) ⟨rfl, rfl, rfl, trivial⟩
set_option maxRecDepth 100000 in
set_option maxHeartbeats 4000000 in
theorem kX2_spreadHigh_L14 {w : Wd} {x : Cz} (C : Ok w x cX2_spreadHigh RX2 1) (hR : OkI w x .int) (hN : xN x = 4) (N : Nat) (hL : LX w)  : ∀ (n : Nat) (u1 : Int32) (u2 : Int32) (h : Hp), PW w x 14 [some (.ref (w.2.1 12)), some (.int u1), some (.int u2), none] [] h ((fX2_spreadHigh_L14 N n u1 u2 h)) := by
  intro n
  induction n with
  | zero => intro u1 u2 h; rw [fX2_spreadHigh_L14]; exact pw_none
  | succ n ih =>
    intro u1 u2 h
    rw [fX2_spreadHigh_L14]
    refine pw_iload_n C dX2_spreadHigh_14 rfl rfl ?_
    refine pw_aload_n C dX2_spreadHigh_15 rfl rfl ?_
    refine pw_geti C (hL 12 _ rfl) rfl (k := 5) (by decide) rfl fl_X2_27 dX2_spreadHigh_16 ?_
    refine pw_icmp_ge (tgt := 78) C dX2_spreadHigh_19 (by decide) (fun c4 => ?_) (fun c4 => ?_)
    · refine pw_iload_n C dX2_spreadHigh_22 rfl rfl ?_
      refine pw_bipush (v := 16) C dX2_spreadHigh_23 (by decide) ?_
      refine pw_icmp_ge (tgt := 78) C dX2_spreadHigh_25 (by decide) (fun c5 => ?_) (fun c5 => ?_)
      · refine pw_iconst (v := 0) C dX2_spreadHigh_28 (by decide) ?_
        refine pw_istore_n (lv2 := [some (.ref (w.2.1 12)), some (.int u1), some (.int u2), some (.int 0)]) C dX2_spreadHigh_29 rfl hN (by decide) rfl rfl ?_
        exact kX2_spreadHigh_L30 C hR hN N hL (fX2_spreadHigh_L14 N n) ih N u1 u2 0 h
      · refine pw_iload_n C dX2_spreadHigh_78 rfl rfl ?_
        exact pw_iret C hR dX2_spreadHigh_79
    · refine pw_iload_n C dX2_spreadHigh_78 rfl rfl ?_
      exact pw_iret C hR dX2_spreadHigh_79
set_option maxRecDepth 100000 in
set_option maxHeartbeats 4000000 in
theorem c_X2_spreadHigh {l : Launch} {w : Wd} {A : Nat → Prop} (N : Nat) (h : Hp) (hL : LX w) : ConI l yX2_spreadHigh cX2_spreadHigh 4 .int 1 w A [.ref (w.2.1 12)] h ((fX2_spreadHigh N h)) := by
  refine ConI.of (lv0 := [some (.ref (w.2.1 12)), none, none, none]) (by decide +kernel) (Nat.le_of_ble_eq_true rfl) rfl (fun x C hR hN => ?_)
  unfold fX2_spreadHigh
  refine pw_iconst (v := 1) C dX2_spreadHigh_0 (by decide) ?_
  refine pw_istore_n (lv2 := [some (.ref (w.2.1 12)), some (.int 1), none, none]) C dX2_spreadHigh_1 rfl hN (by decide) rfl rfl ?_
  refine pw_aload_n C dX2_spreadHigh_2 rfl rfl ?_
  refine pw_getr (q2 := 15) C (hL 12 _ rfl) rfl (k := 2) (by decide) rfl fl_X2_18 dX2_spreadHigh_3 ?_
  refine pw_iconst (v := 0) C dX2_spreadHigh_6 (by decide) ?_
  refine pw_iconst (v := 0) C dX2_spreadHigh_7 (by decide) ?_
  refine pw_callSNw (host := "ToldInKnots") (as := [.ref (w.2.1 15), .int 0, .int 0]) (rest := []) C dX2_spreadHigh_8 (by decide +kernel) cw_X4_put st_X4_put ⟨by decide, by decide⟩ (c_X4_put h 15 256 0 0 (hL 15 _ rfl)) rfl rfl (Nat.le_of_ble_eq_true rfl) ?_
  refine pw_nameh (fun g1 => ?_)
  refine pw_bipush (v := 8) C dX2_spreadHigh_11 (by decide) ?_
  refine pw_istore_n (lv2 := [some (.ref (w.2.1 12)), some (.int 1), some (.int 8), none]) C dX2_spreadHigh_13 rfl hN (by decide) rfl rfl ?_
  exact kX2_spreadHigh_L14 C hR hN N hL N 1 8 g1
set_option maxRecDepth 100000 in
set_option maxHeartbeats 4000000 in
theorem c_X2_sumAt {l : Launch} {w : Wd} {A : Nat → Prop} (h : Hp) (a1 : Int32) (hL : LX w) : ConI l yX2_sumAt cX2_sumAt 2 .int 1 w A [.ref (w.2.1 12), .int a1] h (Option.map (fun v => (v, h)) (fX2_sumAt h a1)) := by
  refine ConI.of (lv0 := [some (.ref (w.2.1 12)), some (.int a1)]) (by decide +kernel) (Nat.le_of_ble_eq_true rfl) rfl (fun x C hR hN => ?_)
  unfold fX2_sumAt
  refine pw_aload_n C dX2_sumAt_0 rfl rfl ?_
  refine pm_ck (fun hc1 => ?_)
  refine pw_getd C (hL 12 _ rfl) rfl (k := 3) (by decide) rfl fl_X2_21 dX2_sumAt_1 ?_
  refine pw_iload_n C dX2_sumAt_4 rfl rfl ?_
  refine pw_callSNt (host := "ToldInKnots") (as := [.ref (w.2.1 ((h 12 3).toNatClampNeg)), .int a1]) (rest := []) C dX2_sumAt_5 (by decide +kernel) cw_X4_at st_X4_at ⟨by decide, by decide⟩ (c_X4_at h ((h 12 3).toNatClampNeg) 256 a1 (dynK hL hc1)) rfl rfl (Nat.le_of_ble_eq_true rfl) ?_
  refine pw_bipush (v := 12) C dX2_sumAt_8 (by decide) ?_
  refine pw_ishr C dX2_sumAt_10 ?_
  exact pm_iret C hR dX2_sumAt_11
set_option maxRecDepth 100000 in
set_option maxHeartbeats 4000000 in
theorem c_X2_bitsAt {l : Launch} {w : Wd} {A : Nat → Prop} (h : Hp) (a1 : Int32) (hL : LX w) : ConI l yX2_bitsAt cX2_bitsAt 2 .int 1 w A [.ref (w.2.1 12), .int a1] h (Option.map (fun v => (v, h)) (fX2_bitsAt h a1)) := by
  refine ConI.of (lv0 := [some (.ref (w.2.1 12)), some (.int a1)]) (by decide +kernel) (Nat.le_of_ble_eq_true rfl) rfl (fun x C hR hN => ?_)
  unfold fX2_bitsAt
  refine pw_aload_n C dX2_bitsAt_0 rfl rfl ?_
  refine pm_ck (fun hc1 => ?_)
  refine pw_getd C (hL 12 _ rfl) rfl (k := 3) (by decide) rfl fl_X2_21 dX2_bitsAt_1 ?_
  refine pw_iload_n C dX2_bitsAt_4 rfl rfl ?_
  refine pw_callSNt (host := "ToldInKnots") (as := [.ref (w.2.1 ((h 12 3).toNatClampNeg)), .int a1]) (rest := []) C dX2_bitsAt_5 (by decide +kernel) cw_X4_at st_X4_at ⟨by decide, by decide⟩ (c_X4_at h ((h 12 3).toNatClampNeg) 256 a1 (dynK hL hc1)) rfl rfl (Nat.le_of_ble_eq_true rfl) ?_
  refine pw_sipush (v := 255) C dX2_bitsAt_8 (by decide) ?_
  refine pw_iand C dX2_bitsAt_11 ?_
  exact pm_iret C hR dX2_bitsAt_12
set_option maxRecDepth 100000 in
set_option maxHeartbeats 4000000 in
theorem kX2_asCords_L4 {w : Wd} {x : Cz} (C : Ok w x cX2_asCords RX2 1) (hR : OkI w x .int) (hN : xN x = 4) (N : Nat) (h : Hp) (a1 : Int32) (hL : LX w)  : ∀ (n : Nat) (u2 : Int32) (u3 : Int32), PW w x 4 [some (.ref (w.2.1 12)), some (.int a1), some (.int u2), some (.int u3)] [] h (Option.map (fun v => (v, h)) (fX2_asCords_L4 N h a1 n u2 u3)) := by
  intro n
  induction n with
  | zero => intro u2 u3; rw [fX2_asCords_L4]; exact pw_none
  | succ n ih =>
    intro u2 u3
    rw [fX2_asCords_L4]
    refine pw_iload_n C dX2_asCords_4 rfl rfl ?_
    refine pw_aload_n C dX2_asCords_5 rfl rfl ?_
    refine pw_geti C (hL 12 _ rfl) rfl (k := 5) (by decide) rfl fl_X2_27 dX2_asCords_6 ?_
    refine pm_icmp_ge (tgt := 35) C dX2_asCords_9 (by decide) (fun c2 => ?_) (fun c2 => ?_)
    · refine pw_iload_n C dX2_asCords_12 rfl rfl ?_
      refine pw_iload_n C dX2_asCords_13 rfl rfl ?_
      refine pw_iload_n C dX2_asCords_14 rfl rfl ?_
      refine pw_ishr C dX2_asCords_15 ?_
      refine pw_iconst (v := 1) C dX2_asCords_16 (by decide) ?_
      refine pw_iand C dX2_asCords_17 ?_
      refine pw_aload_n C dX2_asCords_18 rfl rfl ?_
      refine pw_getr (q2 := 13) C (hL 12 _ rfl) rfl (k := 0) (by decide) rfl fl_X2_11 dX2_asCords_19 ?_
      refine pw_iload_n C dX2_asCords_22 rfl rfl ?_
      refine pw_callSNt (host := "ToldInKnots") (as := [.ref (w.2.1 13), .int u3]) (rest := [.int ((a1 >>> (u3 &&& 31)) &&& 1), .int u2]) C dX2_asCords_23 (by decide +kernel) cw_X4_at st_X4_at ⟨by decide, by decide⟩ (c_X4_at h 13 16 u3 (hL 13 _ rfl)) rfl rfl (Nat.le_of_ble_eq_true rfl) ?_
      refine pw_ishl C dX2_asCords_26 ?_
      refine pw_ior C dX2_asCords_27 ?_
      refine pm_name (fun v1 => ?_)
      refine pw_istore_n (lv2 := [some (.ref (w.2.1 12)), some (.int a1), some (.int v1), some (.int u3)]) C dX2_asCords_28 rfl hN (by decide) rfl rfl ?_
      refine pw_iinc (lv2 := [some (.ref (w.2.1 12)), some (.int a1), some (.int v1), some (.int (u3 + 1))]) C dX2_asCords_29 rfl rfl hN (by decide) rfl rfl ?_
      refine pw_goto (tgt := 4) C dX2_asCords_32 (by decide) ?_
      exact ih v1 (u3 + 1)
    · refine pw_iload_n C dX2_asCords_35 rfl rfl ?_
      exact pm_iret C hR dX2_asCords_36
set_option maxRecDepth 100000 in
set_option maxHeartbeats 4000000 in
theorem c_X2_asCords {l : Launch} {w : Wd} {A : Nat → Prop} (N : Nat) (h : Hp) (a1 : Int32) (hL : LX w) : ConI l yX2_asCords cX2_asCords 4 .int 1 w A [.ref (w.2.1 12), .int a1] h (Option.map (fun v => (v, h)) (fX2_asCords N h a1)) := by
  refine ConI.of (lv0 := [some (.ref (w.2.1 12)), some (.int a1), none, none]) (by decide +kernel) (Nat.le_of_ble_eq_true rfl) rfl (fun x C hR hN => ?_)
  unfold fX2_asCords
  refine pw_iconst (v := 0) C dX2_asCords_0 (by decide) ?_
  refine pw_istore_n (lv2 := [some (.ref (w.2.1 12)), some (.int a1), some (.int 0), none]) C dX2_asCords_1 rfl hN (by decide) rfl rfl ?_
  refine pw_iconst (v := 0) C dX2_asCords_2 (by decide) ?_
  refine pw_istore_n (lv2 := [some (.ref (w.2.1 12)), some (.int a1), some (.int 0), some (.int 0)]) C dX2_asCords_3 rfl hN (by decide) rfl rfl ?_
  exact kX2_asCords_L4 C hR hN N h a1 hL N 0 0
set_option maxRecDepth 100000 in
set_option maxHeartbeats 4000000 in
theorem kX4_choices_L4 {w : Wd} {x : Cz} (C : Ok w x cX4_choices RX4 1) (hR : OkI w x .int) (hN : xN x = 4) (N : Nat) (h : Hp) (a0 : Int32) (a1 : Int32)   : ∀ (n : Nat) (u2 : Int32) (u3 : Int32), PW w x 4 [some (.int a0), some (.int a1), some (.int u2), some (.int u3)] [] h (Option.map (fun v => (v, h)) (fX4_choices_L4 N h a0 a1 n u2 u3)) := by
  intro n
  induction n with
  | zero => intro u2 u3; rw [fX4_choices_L4]; exact pw_none
  | succ n ih =>
    intro u2 u3
    rw [fX4_choices_L4]
    refine pw_iload_n C dX4_choices_4 rfl rfl ?_
    refine pw_iconst (v := 1) C dX4_choices_5 (by decide) ?_
    refine pw_iload_n C dX4_choices_6 rfl rfl ?_
    refine pw_ishl C dX4_choices_7 ?_
    refine pm_icmp_ge (tgt := 33) C dX4_choices_8 (by decide) (fun c2 => ?_) (fun c2 => ?_)
    · refine pw_iload_n C dX4_choices_11 rfl rfl ?_
      refine pw_iload_n C dX4_choices_12 rfl rfl ?_
      refine pm_callSp (as := [.int u3]) (rest := [.int u2]) C dX4_choices_13 ml_X4_306 cw_J6_bitCount_0f7a4 st_J6_bitCount_0f7a4 ⟨by decide, by decide⟩ (c_J6_bitCount_0f7a4 h u3) rfl rfl (Nat.le_of_ble_eq_true rfl) (fun v1 => ?_)
      refine pw_iload_n C dX4_choices_16 rfl rfl ?_
      refine PW.eq (apply_ite (fun z_ => Option.map (fun v => (v, h)) (fX4_choices_L4 N h a0 a1 n z_ (u3 + 1))) _ _ _) ?_
      refine pw_icmp_ne (tgt := 24) C dX4_choices_17 (by decide) (fun c3 => ?_) (fun c3 => ?_)
      · refine pw_iconst (v := 1) C dX4_choices_20 (by decide) ?_
        refine pw_goto (tgt := 25) C dX4_choices_21 (by decide) ?_
        refine pw_iadd C dX4_choices_25 ?_
        refine pw_istore_n (lv2 := [some (.int a0), some (.int a1), some (.int (u2 + 1)), some (.int u3)]) C dX4_choices_26 rfl hN (by decide) rfl rfl ?_
        refine pw_iinc (lv2 := [some (.int a0), some (.int a1), some (.int (u2 + 1)), some (.int (u3 + 1))]) C dX4_choices_27 rfl rfl hN (by decide) rfl rfl ?_
        refine pw_goto (tgt := 4) C dX4_choices_30 (by decide) ?_
        exact ih (u2 + 1) (u3 + 1)
      · refine pw_iconst (v := 0) C dX4_choices_24 (by decide) ?_
        refine pw_iadd C dX4_choices_25 ?_
        refine pw_istore_n (lv2 := [some (.int a0), some (.int a1), some (.int (u2 + 0)), some (.int u3)]) C dX4_choices_26 rfl hN (by decide) rfl rfl ?_
        refine pw_iinc (lv2 := [some (.int a0), some (.int a1), some (.int (u2 + 0)), some (.int (u3 + 1))]) C dX4_choices_27 rfl rfl hN (by decide) rfl rfl ?_
        refine pw_goto (tgt := 4) C dX4_choices_30 (by decide) ?_
        exact ih (u2 + 0) (u3 + 1)
    · refine pw_iload_n C dX4_choices_33 rfl rfl ?_
      exact pm_iret C hR dX4_choices_34
set_option maxRecDepth 100000 in
set_option maxHeartbeats 4000000 in
theorem c_X4_choices {l : Launch} {w : Wd} {A : Nat → Prop} (N : Nat) (h : Hp) (a0 : Int32) (a1 : Int32)  : ConI l yX4_choices cX4_choices 4 .int 1 w A [.int a0, .int a1] h (Option.map (fun v => (v, h)) (fX4_choices N h a0 a1)) := by
  refine ConI.of (lv0 := [some (.int a0), some (.int a1), none, none]) (by decide +kernel) (Nat.le_of_ble_eq_true rfl) rfl (fun x C hR hN => ?_)
  unfold fX4_choices
  refine pw_iconst (v := 0) C dX4_choices_0 (by decide) ?_
  refine pw_istore_n (lv2 := [some (.int a0), some (.int a1), some (.int 0), none]) C dX4_choices_1 rfl hN (by decide) rfl rfl ?_
  refine pw_iconst (v := 0) C dX4_choices_2 (by decide) ?_
  refine pw_istore_n (lv2 := [some (.int a0), some (.int a1), some (.int 0), some (.int 0)]) C dX4_choices_3 rfl hN (by decide) rfl rfl ?_
  exact kX4_choices_L4 C hR hN N h a0 a1 N 0 0
set_option maxRecDepth 100000 in
set_option maxHeartbeats 4000000 in
theorem c_X4_knotsIn {l : Launch} {w : Wd} {A : Nat → Prop} (h : Hp) (a0 : Int32)  : ConI l yX4_knotsIn cX4_knotsIn 1 .int 1 w A [.int a0] h (some ((fX4_knotsIn h a0), h)) := by
  refine ConI.of (lv0 := [some (.int a0)]) (by decide +kernel) (Nat.le_of_ble_eq_true rfl) rfl (fun x C hR hN => ?_)
  unfold fX4_knotsIn
  refine pw_iload_n C dX4_knotsIn_0 rfl rfl ?_
  refine pw_callSt (as := [.int a0]) (rest := []) C dX4_knotsIn_1 ml_X4_217 cw_X4_kindOf st_X4_kindOf ⟨by decide, by decide⟩ (c_X4_kindOf h a0) rfl rfl (Nat.le_of_ble_eq_true rfl) ?_
  refine pw_iconst (v := 3) C dX4_knotsIn_4 (by decide) ?_
  refine pt_icmp_ne (tgt := 12) C dX4_knotsIn_5 (by decide) (fun c1 => ?_) (fun c1 => ?_)
  · refine pw_iconst (v := 2) C dX4_knotsIn_8 (by decide) ?_
    refine pw_goto (tgt := 16) C dX4_knotsIn_9 (by decide) ?_
    exact pt_iret C hR dX4_knotsIn_16
  · refine pw_iload_n C dX4_knotsIn_12 rfl rfl ?_
    refine pw_callSt (as := [.int a0]) (rest := []) C dX4_knotsIn_13 ml_X4_220 cw_X4_countOf st_X4_countOf ⟨by decide, by decide⟩ (c_X4_countOf h a0) rfl rfl (Nat.le_of_ble_eq_true rfl) ?_
    exact pt_iret C hR dX4_knotsIn_16
set_option maxRecDepth 100000 in
set_option maxHeartbeats 4000000 in
theorem kX4_isWellPlaced_J28 {w : Wd} {x : Cz} (C : Ok w x cX4_isWellPlaced RX4 1) (hR : OkI w x .boolean) (hN : xN x = 3) (h : Hp) (a0 : Int32) (a1 : Int32)   : ∀ (t0 : Int32) (t1 : Int32), PW w x 28 [none, none, none] [.int t0, .int t1] h (some ((fX4_isWellPlaced_J28 h a0 a1 t0 t1), h)) := by
  intro t0 t1
  unfold fX4_isWellPlaced_J28
  refine pt_icmp_ne (tgt := 35) C dX4_isWellPlaced_28 (by decide) (fun c1 => ?_) (fun c1 => ?_)
  · refine pw_iconst (v := 1) C dX4_isWellPlaced_31 (by decide) ?_
    refine pw_goto (tgt := 36) C dX4_isWellPlaced_32 (by decide) ?_
    exact pt_zret' C hR dX4_isWellPlaced_36 (by decide)
  · refine pw_iconst (v := 0) C dX4_isWellPlaced_35 (by decide) ?_
    exact pt_zret' C hR dX4_isWellPlaced_36 (by decide)
set_option maxRecDepth 100000 in
set_option maxHeartbeats 4000000 in
theorem kX4_isWellPlaced_J19 {w : Wd} {x : Cz} (C : Ok w x cX4_isWellPlaced RX4 1) (hR : OkI w x .boolean) (hN : xN x = 3) (h : Hp) (a0 : Int32) (a1 : Int32)   : ∀ (t0 : Int32), PW w x 19 [none, some (.int a1), none] [.int t0] h (some ((fX4_isWellPlaced_J19 h a0 a1 t0), h)) := by
  intro t0
  unfold fX4_isWellPlaced_J19
  refine pw_iload_n C dX4_isWellPlaced_19 rfl rfl ?_
  refine PW.eq (apply_ite (fun z_ => some ((fX4_isWellPlaced_J28 h a0 a1 z_ t0), h)) _ _ _) ?_
  refine pw_if_le (tgt := 27) C dX4_isWellPlaced_20 (by decide) (fun c2 => ?_) (fun c2 => ?_)
  · refine pw_iconst (v := 1) C dX4_isWellPlaced_23 (by decide) ?_
    refine pw_goto (tgt := 28) C dX4_isWellPlaced_24 (by decide) ?_
    exact pw_lv (kX4_isWellPlaced_J28 C hR hN h a0 a1 1 t0) trivial
  · refine pw_iconst (v := 0) C dX4_isWellPlaced_27 (by decide) ?_
    exact pw_lv (kX4_isWellPlaced_J28 C hR hN h a0 a1 0 t0) trivial
set_option maxRecDepth 100000 in
set_option maxHeartbeats 4000000 in
theorem c_X4_isWellPlaced {l : Launch} {w : Wd} {A : Nat → Prop} (h : Hp) (a0 : Int32) (a1 : Int32)  : ConI l yX4_isWellPlaced cX4_isWellPlaced 3 .boolean 1 w A [.int a0, .int a1] h (some ((fX4_isWellPlaced h a0 a1), h)) := by
  refine ConI.of (lv0 := [some (.int a0), some (.int a1), none]) (by decide +kernel) (Nat.le_of_ble_eq_true rfl) rfl (fun x C hR hN => ?_)
  unfold fX4_isWellPlaced
  refine pw_iload_n C dX4_isWellPlaced_0 rfl rfl ?_
  refine pw_callSt (as := [.int a0]) (rest := []) C dX4_isWellPlaced_1 ml_X4_217 cw_X4_kindOf st_X4_kindOf ⟨by decide, by decide⟩ (c_X4_kindOf h a0) rfl rfl (Nat.le_of_ble_eq_true rfl) ?_
  refine pw_istore_n (lv2 := [some (.int a0), some (.int a1), some (.int (fX4_kindOf h a0))]) C dX4_isWellPlaced_4 rfl hN (by decide) rfl rfl ?_
  refine pw_iload_n C dX4_isWellPlaced_5 rfl rfl ?_
  refine pt_if_eq (tgt := 31) C dX4_isWellPlaced_6 (by decide) (fun c3 => ?_) (fun c3 => ?_)
  · refine pw_iconst (v := 1) C dX4_isWellPlaced_31 (by decide) ?_
    refine pw_goto (tgt := 36) C dX4_isWellPlaced_32 (by decide) ?_
    exact pt_zret' C hR dX4_isWellPlaced_36 (by decide)
  · refine pw_iload_n C dX4_isWellPlaced_9 rfl rfl ?_
    refine pw_iconst (v := 1) C dX4_isWellPlaced_10 (by decide) ?_
    refine PW.eq (apply_ite (fun z_ => some ((fX4_isWellPlaced_J19 h a0 a1 z_), h)) _ _ _) ?_
    refine pw_icmp_ne (tgt := 18) C dX4_isWellPlaced_11 (by decide) (fun c4 => ?_) (fun c4 => ?_)
    · refine pw_iconst (v := 1) C dX4_isWellPlaced_14 (by decide) ?_
      refine pw_goto (tgt := 19) C dX4_isWellPlaced_15 (by decide) ?_
      exact pw_lv (kX4_isWellPlaced_J19 C hR hN h a0 a1 1) ⟨rfl, trivial⟩
    · refine pw_iconst (v := 0) C dX4_isWellPlaced_18 (by decide) ?_
      exact pw_lv (kX4_isWellPlaced_J19 C hR hN h a0 a1 0) ⟨rfl, trivial⟩
set_option maxRecDepth 100000 in
set_option maxHeartbeats 4000000 in
theorem kX4_copyRow_J33 {w : Wd} {x : Cz} (C : Ok w x cX4_copyRow RX4 1) (hR : OkV w x) (hN : xN x = 5) (q0 n0 : Nat) (a1 : Int32) (q2 n2 : Nat) (a3 : Int32) (hq0 : w.2.2.1[q0]? = some (1, n0, [])) (hq2 : w.2.2.1[q2]? = some (1, n2, []))  : ∀ (t0 : Int32) (h : Hp), PW w x 33 [some (.ref (w.2.1 q0)), some (.int a1), some (.ref (w.2.1 q2)), some (.int a3), none] [.int t0] h ((fX4_copyRow_J33 q0 n0 a1 q2 n2 a3 t0 h)) := by
  intro t0 h
  unfold fX4_copyRow_J33
  refine pw_istore (lv2 := [some (.ref (w.2.1 q0)), some (.int a1), some (.ref (w.2.1 q2)), some (.int a3), some (.int t0)]) C dX4_copyRow_33 hN (by decide) rfl rfl ?_
  refine pw_iload C dX4_copyRow_35 rfl ?_
  refine pw_if_eq (tgt := 50) C dX4_copyRow_37 (by decide) (fun c2 => ?_) (fun c2 => ?_)
  · exact pw_vret C hR dX4_copyRow_50
  · refine pw_aload_n C dX4_copyRow_40 rfl rfl ?_
    refine pw_iload_n C dX4_copyRow_41 rfl rfl ?_
    refine pw_aload_n C dX4_copyRow_42 rfl rfl ?_
    refine pw_iload_n C dX4_copyRow_43 rfl rfl ?_
    refine pw_sipush (v := 179) C dX4_copyRow_44 (by decide) ?_
    refine pw_copy C hq0 hq2 (by decide) ml_X4_314 (Nat.le_of_ble_eq_true rfl) dX4_copyRow_47 ?_
    refine pw_nameh (fun g1 => ?_)
    exact pw_vret C hR dX4_copyRow_50
set_option maxRecDepth 100000 in
set_option maxHeartbeats 4000000 in
theorem c_X4_copyRow {l : Launch} {w : Wd} {A : Nat → Prop} (h : Hp) (q0 n0 : Nat) (a1 : Int32) (q2 n2 : Nat) (a3 : Int32) (hq0 : w.2.2.1[q0]? = some (1, n0, [])) (hq2 : w.2.2.1[q2]? = some (1, n2, [])) : ConV l yX4_copyRow cX4_copyRow 5 1 w A [.ref (w.2.1 q0), .int a1, .ref (w.2.1 q2), .int a3] h ((fX4_copyRow h q0 n0 a1 q2 n2 a3)) := by
  refine ConV.of (lv0 := [some (.ref (w.2.1 q0)), some (.int a1), some (.ref (w.2.1 q2)), some (.int a3), none]) (by decide +kernel) (Nat.le_of_ble_eq_true rfl) rfl (fun x C hR hN => ?_)
  unfold fX4_copyRow
  refine pw_iload_n C dX4_copyRow_0 rfl rfl ?_
  refine PW.eq (apply_ite (fun z_ => (fX4_copyRow_J33 q0 n0 a1 q2 n2 a3 z_ h)) _ _ _) ?_
  refine pw_if_lt (tgt := 32) C dX4_copyRow_1 (by decide) (fun c3 => ?_) (fun c3 => ?_)
  · refine pw_iconst (v := 0) C dX4_copyRow_32 (by decide) ?_
    exact kX4_copyRow_J33 C hR hN q0 n0 a1 q2 n2 a3 hq0 hq2 0 h
  · refine pw_iload_n C dX4_copyRow_4 rfl rfl ?_
    refine pw_sipush (v := 179) C dX4_copyRow_5 (by decide) ?_
    refine pw_iadd C dX4_copyRow_8 ?_
    refine pw_aload_n C dX4_copyRow_9 rfl rfl ?_
    refine pw_ialen (v := (Int32.ofNat n0)) C hq0 rfl dX4_copyRow_10 ?_
    refine PW.eq (apply_ite (fun z_ => (fX4_copyRow_J33 q0 n0 a1 q2 n2 a3 z_ h)) _ _ _) ?_
    refine pw_icmp_gt (tgt := 32) C dX4_copyRow_11 (by decide) (fun c4 => ?_) (fun c4 => ?_)
    · refine pw_iconst (v := 0) C dX4_copyRow_32 (by decide) ?_
      exact kX4_copyRow_J33 C hR hN q0 n0 a1 q2 n2 a3 hq0 hq2 0 h
    · refine pw_iload_n C dX4_copyRow_14 rfl rfl ?_
      refine PW.eq (apply_ite (fun z_ => (fX4_copyRow_J33 q0 n0 a1 q2 n2 a3 z_ h)) _ _ _) ?_
      refine pw_if_lt (tgt := 32) C dX4_copyRow_15 (by decide) (fun c5 => ?_) (fun c5 => ?_)
      · refine pw_iconst (v := 0) C dX4_copyRow_32 (by decide) ?_
        exact kX4_copyRow_J33 C hR hN q0 n0 a1 q2 n2 a3 hq0 hq2 0 h
      · refine pw_iload_n C dX4_copyRow_18 rfl rfl ?_
        refine pw_sipush (v := 179) C dX4_copyRow_19 (by decide) ?_
        refine pw_iadd C dX4_copyRow_22 ?_
        refine pw_aload_n C dX4_copyRow_23 rfl rfl ?_
        refine pw_ialen (v := (Int32.ofNat n2)) C hq2 rfl dX4_copyRow_24 ?_
        refine PW.eq (apply_ite (fun z_ => (fX4_copyRow_J33 q0 n0 a1 q2 n2 a3 z_ h)) _ _ _) ?_
        refine pw_icmp_gt (tgt := 32) C dX4_copyRow_25 (by decide) (fun c6 => ?_) (fun c6 => ?_)
        · refine pw_iconst (v := 0) C dX4_copyRow_32 (by decide) ?_
          exact kX4_copyRow_J33 C hR hN q0 n0 a1 q2 n2 a3 hq0 hq2 0 h
        · refine pw_iconst (v := 1) C dX4_copyRow_28 (by decide) ?_
          refine pw_goto (tgt := 33) C dX4_copyRow_29 (by decide) ?_
          exact kX4_copyRow_J33 C hR hN q0 n0 a1 q2 n2 a3 hq0 hq2 1 h
set_option maxRecDepth 100000 in
set_option maxHeartbeats 4000000 in
theorem c_X5_isTwo {l : Launch} {w : Wd} {A : Nat → Prop} (h : Hp) (a0 : Int32)  : ConI l yX5_isTwo cX5_isTwo 1 .boolean 1 w A [.int a0] h (some ((fX5_isTwo h a0), h)) := by
  refine ConI.of (lv0 := [some (.int a0)]) (by decide +kernel) (Nat.le_of_ble_eq_true rfl) rfl (fun x C hR hN => ?_)
  unfold fX5_isTwo
  refine pw_iload_n C dX5_isTwo_0 rfl rfl ?_
  refine pw_i2l C dX5_isTwo_1 ?_
  refine pw_lconst (v := 0) C dX5_isTwo_2 (by decide) ?_
  refine pw_lconst (v := 1) C dX5_isTwo_3 (by decide) ?_
  refine pw_callSt (as := [.long (a0).toInt64, .long 0, .long 1]) (rest := []) C dX5_isTwo_4 ml_X5_54 cw_X5_in st_X5_in ⟨by decide, by decide⟩ (c_X5_in h (a0).toInt64 0 1) rfl rfl (Nat.le_of_ble_eq_true rfl) ?_
  exact pt_zret' C hR dX5_isTwo_7 (in01 _ _ _ _)
set_option maxRecDepth 100000 in
set_option maxHeartbeats 4000000 in
theorem c_X5_write {l : Launch} {w : Wd} {A : Nat → Prop} (h : Hp) (a1 : Int32) (hM : LM w) : ConI l yX5_write cX5_write 2 .int 1 w A [.ref (w.2.1 22), .int a1] h ((fX5_write h a1)) := by
  refine ConI.of (lv0 := [some (.ref (w.2.1 22)), some (.int a1)]) (by decide +kernel) (Nat.le_of_ble_eq_true rfl) rfl (fun x C hR hN => ?_)
  unfold fX5_write
  refine pw_iload_n C dX5_write_0 rfl rfl ?_
  refine pw_i2l C dX5_write_1 ?_
  refine pw_ldc2 (C := C) cl_X5_58 dX5_write_2 ?_
  refine pw_ldc2 (C := C) cl_X5_60 dX5_write_5 ?_
  refine pw_callSt (as := [.long (a1).toInt64, .long 32, .long 126]) (rest := []) C dX5_write_8 ml_X5_54 cw_X5_in st_X5_in ⟨by decide, by decide⟩ (c_X5_in h (a1).toInt64 32 126) rfl rfl (Nat.le_of_ble_eq_true rfl) ?_
  refine pw_if_ne (tgt := 16) C dX5_write_11 (by decide) (fun c3 => ?_) (fun c3 => ?_)
  · refine pw_iconst (v := (-1)) C dX5_write_14 (by decide) ?_
    exact pw_iret C hR dX5_write_15
  · refine pw_aload_n C dX5_write_16 rfl rfl ?_
    refine pw_geti C (hM 22 _ rfl (by decide)) rfl (k := 6) (by decide) rfl fl_X5_62 dX5_write_17 ?_
    refine pw_sipush (v := 200) C dX5_write_20 (by decide) ?_
    refine pw_icmp_ne (tgt := 29) C dX5_write_23 (by decide) (fun c4 => ?_) (fun c4 => ?_)
    · refine pw_bipush (v := (-3)) C dX5_write_26 (by decide) ?_
      exact pw_iret C hR dX5_write_28
    · refine pw_aload_n C dX5_write_29 rfl rfl ?_
      refine pw_getr (q2 := 26) C (hM 22 _ rfl (by decide)) rfl (k := 5) (by decide) rfl fl_X5_19 dX5_write_30 ?_
      refine pw_aload_n C dX5_write_33 rfl rfl ?_
      refine pw_geti C (hM 22 _ rfl (by decide)) rfl (k := 6) (by decide) rfl fl_X5_62 dX5_write_34 ?_
      refine pw_iload_n C dX5_write_37 rfl rfl ?_
      refine pw_iast C (hM 26 _ rfl (by decide)) dX5_write_38 ?_
      refine pw_nameh (fun g1 => ?_)
      refine pw_aload_n C dX5_write_39 rfl rfl ?_
      refine pw_dup C dX5_write_40 rfl ?_
      refine pw_geti C (hM 22 _ rfl (by decide)) rfl (k := 6) (by decide) rfl fl_X5_62 dX5_write_41 ?_
      refine pw_iconst (v := 1) C dX5_write_44 (by decide) ?_
      refine pw_iadd C dX5_write_45 ?_
      refine pw_puti C (hM 22 _ rfl (by decide)) rfl (k := 6) (by decide) rfl fl_X5_62 dX5_write_46 rfl (by decide) ?_
      refine pw_nameh (fun g2 => ?_)
      refine pw_aload_n C dX5_write_49 rfl rfl ?_
      refine pw_geti C (hM 22 _ rfl (by decide)) rfl (k := 6) (by decide) rfl fl_X5_62 dX5_write_50 ?_
      exact pw_iret C hR dX5_write_53
set_option maxRecDepth 100000 in
set_option maxHeartbeats 4000000 in
theorem kX5_takesColour_J102 {w : Wd} {x : Cz} (C : Ok w x cX5_takesColour RX5 1) (hR : OkI w x .boolean) (hN : xN x = 3) (a1 : Int32) (hM : LM w)  : ∀ (u2 : Int32) (t0 : Int32) (t1 : Int32) (h : Hp), PW w x 102 [some (.ref (w.2.1 22)), none, some (.int u2)] [.int t0, .int t1, .ref (w.2.1 27)] h ((fX5_takesColour_J102 a1 u2 t0 t1 h)) := by
  intro u2 t0 t1 h
  unfold fX5_takesColour_J102
  refine pw_iast C (hM 27 _ rfl (by decide)) dX5_takesColour_102 ?_
  refine pw_nameh (fun g6 => ?_)
  refine pw_aload_n C dX5_takesColour_103 rfl rfl ?_
  refine pw_getr (q2 := 27) C (hM 22 _ rfl (by decide)) rfl (k := 7) (by decide) rfl fl_X5_22 dX5_takesColour_104 ?_
  refine pw_sipush (v := 146) C dX5_takesColour_107 (by decide) ?_
  refine pw_iload_n C dX5_takesColour_110 rfl rfl ?_
  refine pw_iadd C dX5_takesColour_111 ?_
  refine pw_iload_n C dX5_takesColour_112 rfl rfl ?_
  refine pw_iast C (hM 27 _ rfl (by decide)) dX5_takesColour_113 ?_
  refine pw_nameh (fun g7 => ?_)
  refine pw_aload_n C dX5_takesColour_114 rfl rfl ?_
  refine pw_getr (q2 := 28) C (hM 22 _ rfl (by decide)) rfl (k := 11) (by decide) rfl fl_X5_25 dX5_takesColour_115 ?_
  refine pw_aload_n C dX5_takesColour_118 rfl rfl ?_
  refine pw_geti C (hM 22 _ rfl (by decide)) rfl (k := 9) (by decide) rfl fl_X5_69 dX5_takesColour_119 ?_
  refine pw_iload_n C dX5_takesColour_122 rfl rfl ?_
  refine pw_iast C (hM 28 _ rfl (by decide)) dX5_takesColour_123 ?_
  refine pw_nameh (fun g8 => ?_)
  refine pw_aload_n C dX5_takesColour_124 rfl rfl ?_
  refine pw_getr (q2 := 27) C (hM 22 _ rfl (by decide)) rfl (k := 7) (by decide) rfl fl_X5_22 dX5_takesColour_125 ?_
  refine pw_iconst (v := 0) C dX5_takesColour_128 (by decide) ?_
  refine pw_dup2_11 C dX5_takesColour_129 rfl rfl ?_
  refine pw_ialdc (k := 0) C (hM 27 _ rfl (by decide)) (by decide +kernel) dX5_takesColour_130 ?_
  refine pw_iconst (v := 1) C dX5_takesColour_131 (by decide) ?_
  refine pw_iadd C dX5_takesColour_132 ?_
  refine pw_iastc (k := 0) C (hM 27 _ rfl (by decide)) (by decide +kernel) dX5_takesColour_133 ?_
  refine pw_nameh (fun g9 => ?_)
  refine pw_aload_n C dX5_takesColour_134 rfl rfl ?_
  refine pw_iconst (v := 2) C dX5_takesColour_135 (by decide) ?_
  refine pw_callViq (as := [.int 2]) (rest := []) C dX5_takesColour_136 ml_X5_76 cw_X5_goesTo im_X5_goesTo sl_X5_goesTo (hM 22 _ rfl (by decide)) rfl ⟨by decide, by decide⟩ (c_X5_goesTo g9 2 hM) rfl rfl (Nat.le_of_ble_eq_true rfl) (fun z10 => ?_)
  exact pw_zret C hR dX5_takesColour_139
set_option maxRecDepth 100000 in
set_option maxHeartbeats 4000000 in
theorem kX5_takesColour_J56 {w : Wd} {x : Cz} (C : Ok w x cX5_takesColour RX5 1) (hR : OkI w x .boolean) (hN : xN x = 3) (a1 : Int32) (hM : LM w)  : ∀ (u2 : Int32) (t0 : Int32) (t1 : Int32) (h : Hp), PW w x 56 [some (.ref (w.2.1 22)), none, some (.int u2)] [.int t0, .int t1, .ref (w.2.1 27)] h ((fX5_takesColour_J56 a1 u2 t0 t1 h)) := by
  intro u2 t0 t1 h
  unfold fX5_takesColour_J56
  refine pw_iast C (hM 27 _ rfl (by decide)) dX5_takesColour_56 ?_
  refine pw_nameh (fun g4 => ?_)
  refine pw_aload_n C dX5_takesColour_57 rfl rfl ?_
  refine pw_getr (q2 := 27) C (hM 22 _ rfl (by decide)) rfl (k := 7) (by decide) rfl fl_X5_22 dX5_takesColour_58 ?_
  refine pw_bipush (v := 114) C dX5_takesColour_61 (by decide) ?_
  refine pw_iload_n C dX5_takesColour_63 rfl rfl ?_
  refine pw_iadd C dX5_takesColour_64 ?_
  refine pw_aload_n C dX5_takesColour_65 rfl rfl ?_
  refine pw_getr (q2 := 27) C (hM 22 _ rfl (by decide)) rfl (k := 7) (by decide) rfl fl_X5_22 dX5_takesColour_66 ?_
  refine pw_iconst (v := 1) C dX5_takesColour_69 (by decide) ?_
  refine pw_ialdc (k := 1) C (hM 27 _ rfl (by decide)) (by decide +kernel) dX5_takesColour_70 ?_
  refine pw_iconst (v := 1) C dX5_takesColour_71 (by decide) ?_
  refine pw_isub C dX5_takesColour_72 ?_
  refine pw_iast C (hM 27 _ rfl (by decide)) dX5_takesColour_73 ?_
  refine pw_nameh (fun g5 => ?_)
  refine pw_aload_n C dX5_takesColour_74 rfl rfl ?_
  refine pw_getr (q2 := 27) C (hM 22 _ rfl (by decide)) rfl (k := 7) (by decide) rfl fl_X5_22 dX5_takesColour_75 ?_
  refine pw_sipush (v := 130) C dX5_takesColour_78 (by decide) ?_
  refine pw_iload_n C dX5_takesColour_81 rfl rfl ?_
  refine pw_iadd C dX5_takesColour_82 ?_
  refine pw_aload_n C dX5_takesColour_83 rfl rfl ?_
  refine pw_geti C (hM 22 _ rfl (by decide)) rfl (k := 9) (by decide) rfl fl_X5_69 dX5_takesColour_84 ?_
  refine PW.eq (apply_ite (fun z_ => (fX5_takesColour_J102 a1 u2 z_ (130 + u2) g5)) _ _ _) ?_
  refine pw_if_ne (tgt := 101) C dX5_takesColour_87 (by decide) (fun c11 => ?_) (fun c11 => ?_)
  · refine pw_aload_n C dX5_takesColour_90 rfl rfl ?_
    refine pw_geti C (hM 22 _ rfl (by decide)) rfl (k := 10) (by decide) rfl fl_X5_72 dX5_takesColour_91 ?_
    refine PW.eq (apply_ite (fun z_ => (fX5_takesColour_J102 a1 u2 z_ (130 + u2) g5)) _ _ _) ?_
    refine pw_if_eq (tgt := 101) C dX5_takesColour_94 (by decide) (fun c12 => ?_) (fun c12 => ?_)
    · refine pw_iconst (v := 0) C dX5_takesColour_101 (by decide) ?_
      exact kX5_takesColour_J102 C hR hN a1 hM u2 0 (130 + u2) g5
    · refine pw_iconst (v := 1) C dX5_takesColour_97 (by decide) ?_
      refine pw_goto (tgt := 102) C dX5_takesColour_98 (by decide) ?_
      exact kX5_takesColour_J102 C hR hN a1 hM u2 1 (130 + u2) g5
  · refine pw_iconst (v := 0) C dX5_takesColour_101 (by decide) ?_
    exact kX5_takesColour_J102 C hR hN a1 hM u2 0 (130 + u2) g5
set_option maxRecDepth 100000 in
set_option maxHeartbeats 4000000 in
theorem c_X5_takesColour {l : Launch} {w : Wd} {A : Nat → Prop} (h : Hp) (a1 : Int32) (hM : LM w) : ConI l yX5_takesColour cX5_takesColour 3 .boolean 1 w A [.ref (w.2.1 22), .int a1] h ((fX5_takesColour h a1)) := by
  refine ConI.of (lv0 := [some (.ref (w.2.1 22)), some (.int a1), none]) (by decide +kernel) (Nat.le_of_ble_eq_true rfl) rfl (fun x C hR hN => ?_)
  unfold fX5_takesColour
  refine pw_aload_n C dX5_takesColour_0 rfl rfl ?_
  refine pw_getr (q2 := 27) C (hM 22 _ rfl (by decide)) rfl (k := 7) (by decide) rfl fl_X5_22 dX5_takesColour_1 ?_
  refine pw_iconst (v := 0) C dX5_takesColour_4 (by decide) ?_
  refine pw_ialdc (k := 0) C (hM 27 _ rfl (by decide)) (by decide +kernel) dX5_takesColour_5 ?_
  refine pw_istore_n (lv2 := [some (.ref (w.2.1 22)), some (.int a1), some (.int (h 27 0))]) C dX5_takesColour_6 rfl hN (by decide) rfl rfl ?_
  refine pw_aload_n C dX5_takesColour_7 rfl rfl ?_
  refine pw_getr (q2 := 27) C (hM 22 _ rfl (by decide)) rfl (k := 7) (by decide) rfl fl_X5_22 dX5_takesColour_8 ?_
  refine pw_iconst (v := 2) C dX5_takesColour_11 (by decide) ?_
  refine pw_iload_n C dX5_takesColour_12 rfl rfl ?_
  refine pw_iadd C dX5_takesColour_13 ?_
  refine pw_iload_n C dX5_takesColour_14 rfl rfl ?_
  refine pw_iast C (hM 27 _ rfl (by decide)) dX5_takesColour_15 ?_
  refine pw_nameh (fun g1 => ?_)
  refine pw_aload_n C dX5_takesColour_16 rfl rfl ?_
  refine pw_getr (q2 := 27) C (hM 22 _ rfl (by decide)) rfl (k := 7) (by decide) rfl fl_X5_22 dX5_takesColour_17 ?_
  refine pw_bipush (v := 18) C dX5_takesColour_20 (by decide) ?_
  refine pw_iload_n C dX5_takesColour_22 rfl rfl ?_
  refine pw_iadd C dX5_takesColour_23 ?_
  refine pw_iconst (v := 0) C dX5_takesColour_24 (by decide) ?_
  refine pw_iast C (hM 27 _ rfl (by decide)) dX5_takesColour_25 ?_
  refine pw_nameh (fun g2 => ?_)
  refine pw_aload_n C dX5_takesColour_26 rfl rfl ?_
  refine pw_getr (q2 := 27) C (hM 22 _ rfl (by decide)) rfl (k := 7) (by decide) rfl fl_X5_22 dX5_takesColour_27 ?_
  refine pw_bipush (v := 98) C dX5_takesColour_30 (by decide) ?_
  refine pw_iload_n C dX5_takesColour_32 rfl rfl ?_
  refine pw_iadd C dX5_takesColour_33 ?_
  refine pw_aload_n C dX5_takesColour_34 rfl rfl ?_
  refine pw_geti C (hM 22 _ rfl (by decide)) rfl (k := 9) (by decide) rfl fl_X5_69 dX5_takesColour_35 ?_
  refine pw_if_ne (tgt := 45) C dX5_takesColour_38 (by decide) (fun c13 => ?_) (fun c13 => ?_)
  · refine pw_iconst (v := (-1)) C dX5_takesColour_41 (by decide) ?_
    refine pw_goto (tgt := 56) C dX5_takesColour_42 (by decide) ?_
    exact pw_lv (kX5_takesColour_J56 C hR hN a1 hM (h 27 0) (-1) (98 + (h 27 0)) g2) ⟨rfl, rfl, trivial⟩
  · refine pw_aload_n C dX5_takesColour_45 rfl rfl ?_
    refine pw_getr (q2 := 28) C (hM 22 _ rfl (by decide)) rfl (k := 11) (by decide) rfl fl_X5_25 dX5_takesColour_46 ?_
    refine pw_aload_n C dX5_takesColour_49 rfl rfl ?_
    refine pw_geti C (hM 22 _ rfl (by decide)) rfl (k := 9) (by decide) rfl fl_X5_69 dX5_takesColour_50 ?_
    refine pw_iconst (v := 1) C dX5_takesColour_53 (by decide) ?_
    refine pw_isub C dX5_takesColour_54 ?_
    refine pw_ialdb C (hM 28 _ rfl (by decide)) dX5_takesColour_55 (fun v3 => ?_)
    exact pw_lv (kX5_takesColour_J56 C hR hN a1 hM (h 27 0) v3 (98 + (h 27 0)) g2) ⟨rfl, rfl, trivial⟩
set_option maxRecDepth 100000 in
set_option maxHeartbeats 4000000 in
theorem kX5_takesCluster_L7 {w : Wd} {x : Cz} (C : Ok w x cX5_takesCluster RX5 1) (hR : OkI w x .boolean) (hN : xN x = 4) (N : Nat) (a1 : Int32) (hM : LM w)  : ∀ (n : Nat) (u2 : Int32) (u3 : Int32) (h : Hp), PW w x 7 [some (.ref (w.2.1 22)), some (.int a1), some (.int u2), some (.int u3)] [] h ((fX5_takesCluster_L7 N a1 n u2 u3 h)) := by
  intro n
  induction n with
  | zero => intro u2 u3 h; rw [fX5_takesCluster_L7]; exact pw_none
  | succ n ih =>
    intro u2 u3 h
    rw [fX5_takesCluster_L7]
    refine pw_iload_n C dX5_takesCluster_7 rfl rfl ?_
    refine pw_if_le (tgt := 45) C dX5_takesCluster_8 (by decide) (fun c7 => ?_) (fun c7 => ?_)
    · refine pw_aload_n C dX5_takesCluster_11 rfl rfl ?_
      refine pw_getr (q2 := 27) C (hM 22 _ rfl (by decide)) rfl (k := 7) (by decide) rfl fl_X5_22 dX5_takesCluster_12 ?_
      refine pw_bipush (v := 34) C dX5_takesCluster_15 (by decide) ?_
      refine pw_iconst (v := 4) C dX5_takesCluster_17 (by decide) ?_
      refine pw_iload_n C dX5_takesCluster_18 rfl rfl ?_
      refine pw_imul C dX5_takesCluster_19 ?_
      refine pw_iadd C dX5_takesCluster_20 ?_
      refine pw_iload_n C dX5_takesCluster_21 rfl rfl ?_
      refine pw_iadd C dX5_takesCluster_22 ?_
      refine pw_aload_n C dX5_takesCluster_23 rfl rfl ?_
      refine pw_getr (q2 := 27) C (hM 22 _ rfl (by decide)) rfl (k := 7) (by decide) rfl fl_X5_22 dX5_takesCluster_24 ?_
      refine pw_bipush (v := 34) C dX5_takesCluster_27 (by decide) ?_
      refine pw_iconst (v := 4) C dX5_takesCluster_29 (by decide) ?_
      refine pw_iload_n C dX5_takesCluster_30 rfl rfl ?_
      refine pw_imul C dX5_takesCluster_31 ?_
      refine pw_iadd C dX5_takesCluster_32 ?_
      refine pw_iload_n C dX5_takesCluster_33 rfl rfl ?_
      refine pw_iadd C dX5_takesCluster_34 ?_
      refine pw_iconst (v := 1) C dX5_takesCluster_35 (by decide) ?_
      refine pw_isub C dX5_takesCluster_36 ?_
      refine pw_ialdb C (hM 27 _ rfl (by decide)) dX5_takesCluster_37 (fun v1 => ?_)
      refine pw_iast C (hM 27 _ rfl (by decide)) dX5_takesCluster_38 ?_
      refine pw_nameh (fun g2 => ?_)
      refine pw_iinc (lv2 := [some (.ref (w.2.1 22)), some (.int a1), some (.int u2), some (.int (u3 + (-1)))]) C dX5_takesCluster_39 rfl rfl hN (by decide) rfl rfl ?_
      refine pw_goto (tgt := 7) C dX5_takesCluster_42 (by decide) ?_
      exact ih u2 (u3 + (-1)) g2
    · refine pw_aload_n C dX5_takesCluster_45 rfl rfl ?_
      refine pw_getr (q2 := 27) C (hM 22 _ rfl (by decide)) rfl (k := 7) (by decide) rfl fl_X5_22 dX5_takesCluster_46 ?_
      refine pw_bipush (v := 34) C dX5_takesCluster_49 (by decide) ?_
      refine pw_iconst (v := 4) C dX5_takesCluster_51 (by decide) ?_
      refine pw_iload_n C dX5_takesCluster_52 rfl rfl ?_
      refine pw_imul C dX5_takesCluster_53 ?_
      refine pw_iadd C dX5_takesCluster_54 ?_
      refine pw_iload_n C dX5_takesCluster_55 rfl rfl ?_
      refine pw_iast C (hM 27 _ rfl (by decide)) dX5_takesCluster_56 ?_
      refine pw_nameh (fun g3 => ?_)
      refine pw_aload_n C dX5_takesCluster_57 rfl rfl ?_
      refine pw_getr (q2 := 27) C (hM 22 _ rfl (by decide)) rfl (k := 7) (by decide) rfl fl_X5_22 dX5_takesCluster_58 ?_
      refine pw_bipush (v := 18) C dX5_takesCluster_61 (by decide) ?_
      refine pw_iload_n C dX5_takesCluster_63 rfl rfl ?_
      refine pw_iadd C dX5_takesCluster_64 ?_
      refine pw_dup2_11 C dX5_takesCluster_65 rfl rfl ?_
      refine pw_ialdb C (hM 27 _ rfl (by decide)) dX5_takesCluster_66 (fun v4 => ?_)
      refine pw_iconst (v := 1) C dX5_takesCluster_67 (by decide) ?_
      refine pw_iadd C dX5_takesCluster_68 ?_
      refine pw_iast C (hM 27 _ rfl (by decide)) dX5_takesCluster_69 ?_
      refine pw_nameh (fun g5 => ?_)
      refine pw_aload_n C dX5_takesCluster_70 rfl rfl ?_
      refine pw_iconst (v := 3) C dX5_takesCluster_71 (by decide) ?_
      refine pw_callViq (as := [.int 3]) (rest := []) C dX5_takesCluster_72 ml_X5_76 cw_X5_goesTo im_X5_goesTo sl_X5_goesTo (hM 22 _ rfl (by decide)) rfl ⟨by decide, by decide⟩ (c_X5_goesTo g5 3 hM) rfl rfl (Nat.le_of_ble_eq_true rfl) (fun z6 => ?_)
      exact pw_zret C hR dX5_takesCluster_75
set_option maxRecDepth 100000 in
set_option maxHeartbeats 4000000 in
theorem c_X5_takesCluster {l : Launch} {w : Wd} {A : Nat → Prop} (N : Nat) (h : Hp) (a1 : Int32) (hM : LM w) : ConI l yX5_takesCluster cX5_takesCluster 4 .boolean 1 w A [.ref (w.2.1 22), .int a1] h ((fX5_takesCluster N h a1)) := by
  refine ConI.of (lv0 := [some (.ref (w.2.1 22)), some (.int a1), none, none]) (by decide +kernel) (Nat.le_of_ble_eq_true rfl) rfl (fun x C hR hN => ?_)
  unfold fX5_takesCluster
  refine pw_aload_n C dX5_takesCluster_0 rfl rfl ?_
  refine pw_callVt (as := []) (rest := []) C dX5_takesCluster_1 ml_X5_80 cw_X5_newest im_X5_newest sl_X5_newest (hM 22 _ rfl (by decide)) rfl ⟨by decide, by decide⟩ (c_X5_newest h hM) rfl rfl (Nat.le_of_ble_eq_true rfl) ?_
  refine pw_istore_n (lv2 := [some (.ref (w.2.1 22)), some (.int a1), some (.int (fX5_newest h)), none]) C dX5_takesCluster_4 rfl hN (by decide) rfl rfl ?_
  refine pw_iconst (v := 3) C dX5_takesCluster_5 (by decide) ?_
  refine pw_istore_n (lv2 := [some (.ref (w.2.1 22)), some (.int a1), some (.int (fX5_newest h)), some (.int 3)]) C dX5_takesCluster_6 rfl hN (by decide) rfl rfl ?_
  exact kX5_takesCluster_L7 C hR hN N a1 hM N (fX5_newest h) 3 h
set_option maxRecDepth 100000 in
set_option maxHeartbeats 4000000 in
theorem c_X5_takesGroup {l : Launch} {w : Wd} {A : Nat → Prop} (h : Hp) (a1 : Int32) (hM : LM w) : ConI l yX5_takesGroup cX5_takesGroup 2 .boolean 1 w A [.ref (w.2.1 22), .int a1] h ((fX5_takesGroup h a1)) := by
  refine ConI.of (lv0 := [some (.ref (w.2.1 22)), some (.int a1)]) (by decide +kernel) (Nat.le_of_ble_eq_true rfl) rfl (fun x C hR hN => ?_)
  unfold fX5_takesGroup
  refine pw_iload_n C dX5_takesGroup_0 rfl rfl ?_
  refine pw_bipush (v := 91) C dX5_takesGroup_1 (by decide) ?_
  refine pw_icmp_ne (tgt := 16) C dX5_takesGroup_3 (by decide) (fun c5 => ?_) (fun c5 => ?_)
  · refine pw_aload_n C dX5_takesGroup_6 rfl rfl ?_
    refine pw_getr (q2 := 27) C (hM 22 _ rfl (by decide)) rfl (k := 7) (by decide) rfl fl_X5_22 dX5_takesGroup_7 ?_
    refine pw_iconst (v := 1) C dX5_takesGroup_10 (by decide) ?_
    refine pw_ialdc (k := 1) C (hM 27 _ rfl (by decide)) (by decide +kernel) dX5_takesGroup_11 ?_
    refine pw_iconst (v := 5) C dX5_takesGroup_12 (by decide) ?_
    refine pw_icmp_ne (tgt := 18) C dX5_takesGroup_13 (by decide) (fun c6 => ?_) (fun c6 => ?_)
    · refine pw_iconst (v := 0) C dX5_takesGroup_16 (by decide) ?_
      exact pw_zret' C hR dX5_takesGroup_17 (by decide)
    · refine pw_aload_n C dX5_takesGroup_18 rfl rfl ?_
      refine pw_getr (q2 := 27) C (hM 22 _ rfl (by decide)) rfl (k := 7) (by decide) rfl fl_X5_22 dX5_takesGroup_19 ?_
      refine pw_iconst (v := 1) C dX5_takesGroup_22 (by decide) ?_
      refine pw_dup2_11 C dX5_takesGroup_23 rfl rfl ?_
      refine pw_ialdc (k := 1) C (hM 27 _ rfl (by decide)) (by decide +kernel) dX5_takesGroup_24 ?_
      refine pw_iconst (v := 1) C dX5_takesGroup_25 (by decide) ?_
      refine pw_iadd C dX5_takesGroup_26 ?_
      refine pw_iastc (k := 1) C (hM 27 _ rfl (by decide)) (by decide +kernel) dX5_takesGroup_27 ?_
      refine pw_nameh (fun g1 => ?_)
      refine pw_aload_n C dX5_takesGroup_28 rfl rfl ?_
      refine pw_iconst (v := 0) C dX5_takesGroup_29 (by decide) ?_
      refine pw_putz C (hM 22 _ rfl (by decide)) rfl (k := 10) (by decide) rfl fl_X5_72 dX5_takesGroup_30 rfl (by decide) (by decide) ?_
      refine pw_nameh (fun g2 => ?_)
      refine pw_aload_n C dX5_takesGroup_33 rfl rfl ?_
      refine pw_iconst (v := 0) C dX5_takesGroup_34 (by decide) ?_
      refine pw_puti C (hM 22 _ rfl (by decide)) rfl (k := 9) (by decide) rfl fl_X5_69 dX5_takesGroup_35 rfl (by decide) ?_
      refine pw_nameh (fun g3 => ?_)
      refine pw_aload_n C dX5_takesGroup_38 rfl rfl ?_
      refine pw_iconst (v := 1) C dX5_takesGroup_39 (by decide) ?_
      refine pw_callViq (as := [.int 1]) (rest := []) C dX5_takesGroup_40 ml_X5_76 cw_X5_goesTo im_X5_goesTo sl_X5_goesTo (hM 22 _ rfl (by decide)) rfl ⟨by decide, by decide⟩ (c_X5_goesTo g3 1 hM) rfl rfl (Nat.le_of_ble_eq_true rfl) (fun z4 => ?_)
      exact pw_zret C hR dX5_takesGroup_43
  · refine pw_iconst (v := 0) C dX5_takesGroup_16 (by decide) ?_
    exact pw_zret' C hR dX5_takesGroup_17 (by decide)
set_option maxRecDepth 100000 in
set_option maxHeartbeats 4000000 in
theorem c_X5_begins {l : Launch} {w : Wd} {A : Nat → Prop} (N : Nat) (h : Hp) (hM : LM w) : ConV l yX5_begins cX5_begins 1 1 w A [.ref (w.2.1 22)] h ((fX5_begins N h)) := by
  refine ConV.of (lv0 := [some (.ref (w.2.1 22))]) (by decide +kernel) (Nat.le_of_ble_eq_true rfl) rfl (fun x C hR hN => ?_)
  unfold fX5_begins
  refine pw_aload_n C dX5_begins_0 rfl rfl ?_
  refine pw_getr (q2 := 27) C (hM 22 _ rfl (by decide)) rfl (k := 7) (by decide) rfl fl_X5_22 dX5_begins_1 ?_
  refine pw_iconst (v := 0) C dX5_begins_4 (by decide) ?_
  refine pw_aload_n C dX5_begins_5 rfl rfl ?_
  refine pw_getr (q2 := 23) C (hM 22 _ rfl (by decide)) rfl (k := 0) (by decide) rfl fl_X5_7 dX5_begins_6 ?_
  refine pw_iconst (v := 0) C dX5_begins_9 (by decide) ?_
  refine pw_callSvq (as := [.ref (w.2.1 27), .int 0, .ref (w.2.1 23), .int 0]) (rest := []) C dX5_begins_10 ml_X5_118 cw_X5_copies st_X5_copies ⟨by decide, by decide⟩ (c_X5_copies N h 27 162 0 23 162 0 (hM 27 _ rfl (by decide)) (hM 23 _ rfl (by decide))) rfl rfl (Nat.le_of_ble_eq_true rfl) (fun z1 => ?_)
  refine pw_aload_n C dX5_begins_13 rfl rfl ?_
  refine pw_iconst (v := 0) C dX5_begins_14 (by decide) ?_
  refine pw_puti C (hM 22 _ rfl (by decide)) rfl (k := 2) (by decide) rfl fl_X5_122 dX5_begins_15 rfl (by decide) ?_
  refine pw_nameh (fun g2 => ?_)
  refine pw_aload_n C dX5_begins_18 rfl rfl ?_
  refine pw_iconst (v := 0) C dX5_begins_19 (by decide) ?_
  refine pw_puti C (hM 22 _ rfl (by decide)) rfl (k := 4) (by decide) rfl fl_X5_125 dX5_begins_20 rfl (by decide) ?_
  refine pw_nameh (fun g3 => ?_)
  exact pw_vret C hR dX5_begins_23
set_option maxRecDepth 100000 in
set_option maxHeartbeats 4000000 in
theorem c_X5_isCord {l : Launch} {w : Wd} {A : Nat → Prop} (h : Hp) (a1 : Int32) (hM : LM w) : ConI l yX5_isCord cX5_isCord 2 .boolean 1 w A [.ref (w.2.1 22), .int a1] h (some ((fX5_isCord h a1), h)) := by
  refine ConI.of (lv0 := [some (.ref (w.2.1 22)), some (.int a1)]) (by decide +kernel) (Nat.le_of_ble_eq_true rfl) rfl (fun x C hR hN => ?_)
  unfold fX5_isCord
  refine pw_iload_n C dX5_isCord_0 rfl rfl ?_
  refine pw_i2l C dX5_isCord_1 ?_
  refine pw_lconst (v := 0) C dX5_isCord_2 (by decide) ?_
  refine pw_aload_n C dX5_isCord_3 rfl rfl ?_
  refine pw_getr (q2 := 23) C (hM 22 _ rfl (by decide)) rfl (k := 0) (by decide) rfl fl_X5_7 dX5_isCord_4 ?_
  refine pw_iconst (v := 0) C dX5_isCord_7 (by decide) ?_
  refine pw_ialdc (k := 0) C (hM 23 _ rfl (by decide)) (by decide +kernel) dX5_isCord_8 ?_
  refine pw_iconst (v := 1) C dX5_isCord_9 (by decide) ?_
  refine pw_isub C dX5_isCord_10 ?_
  refine pw_i2l C dX5_isCord_11 ?_
  refine pw_callSt (as := [.long (a1).toInt64, .long 0, .long (((h 23 0) - 1)).toInt64]) (rest := []) C dX5_isCord_12 ml_X5_54 cw_X5_in st_X5_in ⟨by decide, by decide⟩ (c_X5_in h (a1).toInt64 0 (((h 23 0) - 1)).toInt64) rfl rfl (Nat.le_of_ble_eq_true rfl) ?_
  exact pt_zret' C hR dX5_isCord_15 (in01 _ _ _ _)
set_option maxRecDepth 100000 in
set_option maxHeartbeats 4000000 in
theorem c_X5_isGroup {l : Launch} {w : Wd} {A : Nat → Prop} (h : Hp) (a1 : Int32) (hM : LM w) : ConI l yX5_isGroup cX5_isGroup 2 .boolean 1 w A [.ref (w.2.1 22), .int a1] h (some ((fX5_isGroup h a1), h)) := by
  refine ConI.of (lv0 := [some (.ref (w.2.1 22)), some (.int a1)]) (by decide +kernel) (Nat.le_of_ble_eq_true rfl) rfl (fun x C hR hN => ?_)
  unfold fX5_isGroup
  refine pw_iload_n C dX5_isGroup_0 rfl rfl ?_
  refine pw_i2l C dX5_isGroup_1 ?_
  refine pw_lconst (v := 0) C dX5_isGroup_2 (by decide) ?_
  refine pw_aload_n C dX5_isGroup_3 rfl rfl ?_
  refine pw_getr (q2 := 23) C (hM 22 _ rfl (by decide)) rfl (k := 0) (by decide) rfl fl_X5_7 dX5_isGroup_4 ?_
  refine pw_iconst (v := 1) C dX5_isGroup_7 (by decide) ?_
  refine pw_ialdc (k := 1) C (hM 23 _ rfl (by decide)) (by decide +kernel) dX5_isGroup_8 ?_
  refine pw_iconst (v := 1) C dX5_isGroup_9 (by decide) ?_
  refine pw_isub C dX5_isGroup_10 ?_
  refine pw_i2l C dX5_isGroup_11 ?_
  refine pw_callSt (as := [.long (a1).toInt64, .long 0, .long (((h 23 1) - 1)).toInt64]) (rest := []) C dX5_isGroup_12 ml_X5_54 cw_X5_in st_X5_in ⟨by decide, by decide⟩ (c_X5_in h (a1).toInt64 0 (((h 23 1) - 1)).toInt64) rfl rfl (Nat.le_of_ble_eq_true rfl) ?_
  exact pt_zret' C hR dX5_isGroup_15 (in01 _ _ _ _)
set_option maxRecDepth 100000 in
set_option maxHeartbeats 4000000 in
theorem c_X5_isPlain {l : Launch} {w : Wd} {A : Nat → Prop} (h : Hp) (a1 : Int32) (hM : LM w) : ConI l yX5_isPlain cX5_isPlain 2 .boolean 1 w A [.ref (w.2.1 22), .int a1] h (Option.map (fun v => (v, h)) (fX5_isPlain h a1)) := by
  refine ConI.of (lv0 := [some (.ref (w.2.1 22)), some (.int a1)]) (by decide +kernel) (Nat.le_of_ble_eq_true rfl) rfl (fun x C hR hN => ?_)
  unfold fX5_isPlain
  refine pw_aload_n C dX5_isPlain_0 rfl rfl ?_
  refine pw_iload_n C dX5_isPlain_1 rfl rfl ?_
  refine pm_callVp (as := [.int a1]) (rest := []) C dX5_isPlain_2 ml_X5_131 cw_X5_isPendant im_X5_isPendant sl_X5_isPendant (hM 22 _ rfl (by decide)) rfl ⟨by decide, by decide⟩ (c_X5_isPendant h a1 hM) rfl rfl (Nat.le_of_ble_eq_true rfl) (fun v1 => ?_)
  refine pm_if_eq (tgt := 25) C dX5_isPlain_5 (by decide) (fun c3 => ?_) (fun c3 => ?_)
  · refine pw_iconst (v := 0) C dX5_isPlain_25 (by decide) ?_
    exact pm_zret' C hR dX5_isPlain_26 (by decide)
  · refine pw_aload_n C dX5_isPlain_8 rfl rfl ?_
    refine pw_getr (q2 := 23) C (hM 22 _ rfl (by decide)) rfl (k := 0) (by decide) rfl fl_X5_7 dX5_isPlain_9 ?_
    refine pw_sipush (v := 130) C dX5_isPlain_12 (by decide) ?_
    refine pw_iload_n C dX5_isPlain_15 rfl rfl ?_
    refine pw_iadd C dX5_isPlain_16 ?_
    refine pm_ialdb C (hM 23 _ rfl (by decide)) dX5_isPlain_17 (fun v2 => ?_)
    refine pm_if_ne (tgt := 25) C dX5_isPlain_18 (by decide) (fun c4 => ?_) (fun c4 => ?_)
    · refine pw_iconst (v := 1) C dX5_isPlain_21 (by decide) ?_
      refine pw_goto (tgt := 26) C dX5_isPlain_22 (by decide) ?_
      exact pm_zret' C hR dX5_isPlain_26 (by decide)
    · refine pw_iconst (v := 0) C dX5_isPlain_25 (by decide) ?_
      exact pm_zret' C hR dX5_isPlain_26 (by decide)
set_option maxRecDepth 100000 in
set_option maxHeartbeats 4000000 in
theorem kX5_told_J79 {w : Wd} {x : Cz} (C : Ok w x cX5_told RX5 1) (hR : OkI w x .int) (hN : xN x = 9) (N : Nat) (h : Hp) (a1 : Int32) (a2 : Int32) (hM : LM w) (k19 : Int32 → Int32 → Int32 → Int32 → Option Int32) (hk19 : ∀ (u3 : Int32) (u4 : Int32) (u5 : Int32) (u6 : Int32), PW w x 19 [some (.ref (w.2.1 22)), some (.int a1), some (.int a2), some (.int u3), some (.int u4), some (.int u5), some (.int u6), none, none] [] h (Option.map (fun v => (v, h)) (k19 u3 u4 u5 u6))) : ∀ (u3 : Int32) (u4 : Int32) (u5 : Int32) (u6 : Int32) (u7 : Int32), PW w x 79 [some (.ref (w.2.1 22)), some (.int a1), some (.int a2), some (.int u3), some (.int u4), some (.int u5), some (.int u6), some (.int u7), none] [] h (Option.map (fun v => (v, h)) (fX5_told_J79 N h a1 a2 k19 u3 u4 u5 u6 u7)) := by
  intro u3 u4 u5 u6 u7
  unfold fX5_told_J79
  refine pw_iload C dX5_told_79 rfl ?_
  refine pw_iload C dX5_told_81 rfl ?_
  refine pw_bipush (v := 10) C dX5_told_83 (by decide) ?_
  refine pw_irem C dX5_told_85 (by decide) ?_
  refine pw_iload C dX5_told_86 rfl ?_
  refine pw_imul C dX5_told_88 ?_
  refine pw_iadd C dX5_told_89 ?_
  refine pm_name (fun v3 => ?_)
  refine pw_istore (lv2 := [some (.ref (w.2.1 22)), some (.int a1), some (.int a2), some (.int u3), some (.int v3), some (.int u5), some (.int u6), some (.int u7), none]) C dX5_told_90 hN (by decide) rfl rfl ?_
  refine pw_iload C dX5_told_92 rfl ?_
  refine pw_bipush (v := 10) C dX5_told_94 (by decide) ?_
  refine pw_imul C dX5_told_96 ?_
  refine pw_istore (lv2 := [some (.ref (w.2.1 22)), some (.int a1), some (.int a2), some (.int u3), some (.int v3), some (.int (u5 * 10)), some (.int u6), some (.int u7), none]) C dX5_told_97 hN (by decide) rfl rfl ?_
  refine pw_iinc (lv2 := [some (.ref (w.2.1 22)), some (.int a1), some (.int a2), some (.int u3), some (.int v3), some (.int (u5 * 10)), some (.int (u6 + 1)), some (.int u7), none]) C dX5_told_99 rfl rfl hN (by decide) rfl rfl ?_
  refine pw_goto (tgt := 19) C dX5_told_102 (by decide) ?_
  exact pw_lv (hk19 u3 v3 (u5 * 10) (u6 + 1)) ⟨rfl, rfl, rfl, rfl, rfl, rfl, rfl, trivial⟩
set_option maxRecDepth 100000 in
set_option maxHeartbeats 4000000 in
theorem kX5_told_J65 {w : Wd} {x : Cz} (C : Ok w x cX5_told RX5 1) (hR : OkI w x .int) (hN : xN x = 9) (N : Nat) (h : Hp) (a1 : Int32) (a2 : Int32) (hM : LM w) (k19 : Int32 → Int32 → Int32 → Int32 → Option Int32) (hk19 : ∀ (u3 : Int32) (u4 : Int32) (u5 : Int32) (u6 : Int32), PW w x 19 [some (.ref (w.2.1 22)), some (.int a1), some (.int a2), some (.int u3), some (.int u4), some (.int u5), some (.int u6), none, none] [] h (Option.map (fun v => (v, h)) (k19 u3 u4 u5 u6))) : ∀ (u3 : Int32) (u4 : Int32) (u5 : Int32) (u6 : Int32) (u7 : Int32) (u8 : Int32), PW w x 65 [some (.ref (w.2.1 22)), some (.int a1), some (.int a2), some (.int u3), some (.int u4), some (.int u5), some (.int u6), some (.int u7), some (.int u8)] [] h (Option.map (fun v => (v, h)) (fX5_told_J65 N h a1 a2 k19 u3 u4 u5 u6 u7 u8)) := by
  intro u3 u4 u5 u6 u7 u8
  unfold fX5_told_J65
  refine pw_iload C dX5_told_65 rfl ?_
  refine pw_iconst (v := 1) C dX5_told_67 (by decide) ?_
  refine pm_icmp_le (tgt := 79) C dX5_told_68 (by decide) (fun c4 => ?_) (fun c4 => ?_)
  · refine pw_iload C dX5_told_71 rfl ?_
    refine pm_if_le (tgt := 79) C dX5_told_73 (by decide) (fun c5 => ?_) (fun c5 => ?_)
    · refine pw_bipush (v := (-4)) C dX5_told_76 (by decide) ?_
      exact pm_iret C hR dX5_told_78
    · exact pw_lv (kX5_told_J79 C hR hN N h a1 a2 hM k19 hk19 u3 u4 u5 u6 u7) ⟨rfl, rfl, rfl, rfl, rfl, rfl, rfl, rfl, trivial⟩
  · exact pw_lv (kX5_told_J79 C hR hN N h a1 a2 hM k19 hk19 u3 u4 u5 u6 u7) ⟨rfl, rfl, rfl, rfl, rfl, rfl, rfl, rfl, trivial⟩
set_option maxRecDepth 100000 in
set_option maxHeartbeats 4000000 in
theorem kX5_told_J42 {w : Wd} {x : Cz} (C : Ok w x cX5_told RX5 1) (hR : OkI w x .int) (hN : xN x = 9) (N : Nat) (h : Hp) (a1 : Int32) (a2 : Int32) (hM : LM w) (k19 : Int32 → Int32 → Int32 → Int32 → Option Int32) (hk19 : ∀ (u3 : Int32) (u4 : Int32) (u5 : Int32) (u6 : Int32), PW w x 19 [some (.ref (w.2.1 22)), some (.int a1), some (.int a2), some (.int u3), some (.int u4), some (.int u5), some (.int u6), none, none] [] h (Option.map (fun v => (v, h)) (k19 u3 u4 u5 u6))) : ∀ (u3 : Int32) (u4 : Int32) (u5 : Int32) (u6 : Int32) (t0 : Int32) (t1 : Int32), PW w x 42 [some (.ref (w.2.1 22)), some (.int a1), some (.int a2), some (.int u3), some (.int u4), some (.int u5), some (.int u6), none, none] [.int t0, .int t1, .ref (w.2.1 22)] h (Option.map (fun v => (v, h)) (fX5_told_J42 N h a1 a2 k19 u3 u4 u5 u6 t0 t1)) := by
  intro u3 u4 u5 u6 t0 t1
  unfold fX5_told_J42
  refine pm_callVp (as := [.int t1, .int t0]) (rest := []) C dX5_told_42 ml_X5_134 cw_X5_knot0 im_X5_knot0 sl_X5_knot0 (hM 22 _ rfl (by decide)) rfl ⟨by decide, by decide⟩ (c_X5_knot0 h t1 t0 hM) rfl rfl (Nat.le_of_ble_eq_true rfl) (fun v2 => ?_)
  refine pw_istore (lv2 := [some (.ref (w.2.1 22)), some (.int a1), some (.int a2), some (.int u3), some (.int u4), some (.int u5), some (.int u6), some (.int v2), none]) C dX5_told_45 hN (by decide) rfl rfl ?_
  refine pw_iload C dX5_told_47 rfl ?_
  refine pw_bipush (v := 10) C dX5_told_49 (by decide) ?_
  refine pw_idiv C dX5_told_51 (by decide) ?_
  refine pw_istore (lv2 := [some (.ref (w.2.1 22)), some (.int a1), some (.int a2), some (.int u3), some (.int u4), some (.int u5), some (.int u6), some (.int v2), some (.int (v2 / 10))]) C dX5_told_52 hN (by decide) rfl rfl ?_
  refine pw_iload C dX5_told_54 rfl ?_
  refine pw_iconst (v := 1) C dX5_told_56 (by decide) ?_
  refine pm_icmp_ne (tgt := 65) C dX5_told_57 (by decide) (fun c6 => ?_) (fun c6 => ?_)
  · refine pw_iload C dX5_told_60 rfl ?_
    refine pm_if_eq (tgt := 76) C dX5_told_62 (by decide) (fun c7 => ?_) (fun c7 => ?_)
    · refine pw_bipush (v := (-4)) C dX5_told_76 (by decide) ?_
      exact pm_iret C hR dX5_told_78
    · exact kX5_told_J65 C hR hN N h a1 a2 hM k19 hk19 u3 u4 u5 u6 v2 (v2 / 10)
  · exact kX5_told_J65 C hR hN N h a1 a2 hM k19 hk19 u3 u4 u5 u6 v2 (v2 / 10)
set_option maxRecDepth 100000 in
set_option maxHeartbeats 4000000 in
theorem kX5_told_L19 {w : Wd} {x : Cz} (C : Ok w x cX5_told RX5 1) (hR : OkI w x .int) (hN : xN x = 9) (N : Nat) (h : Hp) (a1 : Int32) (a2 : Int32) (hM : LM w)  : ∀ (n : Nat) (u3 : Int32) (u4 : Int32) (u5 : Int32) (u6 : Int32), PW w x 19 [some (.ref (w.2.1 22)), some (.int a1), some (.int a2), some (.int u3), some (.int u4), some (.int u5), some (.int u6), none, none] [] h (Option.map (fun v => (v, h)) (fX5_told_L19 N h a1 a2 n u3 u4 u5 u6)) := by
  intro n
  induction n with
  | zero => intro u3 u4 u5 u6; rw [fX5_told_L19]; exact pw_none
  | succ n ih =>
    intro u3 u4 u5 u6
    rw [fX5_told_L19]
    refine pw_iload C dX5_told_19 rfl ?_
    refine pw_iload_n C dX5_told_21 rfl rfl ?_
    refine pm_icmp_ge (tgt := 105) C dX5_told_22 (by decide) (fun c8 => ?_) (fun c8 => ?_)
    · refine pw_aload_n C dX5_told_25 rfl rfl ?_
      refine pw_iload_n C dX5_told_26 rfl rfl ?_
      refine pw_iload_n C dX5_told_27 rfl rfl ?_
      refine PW.eq (apply_ite (fun z_ => Option.map (fun v => (v, h)) (fX5_told_J42 N h a1 a2 (fX5_told_L19 N h a1 a2 n) u3 u4 u5 u6 z_ a1)) _ _ _) ?_
      refine pw_if_eq (tgt := 40) C dX5_told_28 (by decide) (fun c9 => ?_) (fun c9 => ?_)
      · refine pw_iload C dX5_told_40 rfl ?_
        exact kX5_told_J42 C hR hN N h a1 a2 hM (fX5_told_L19 N h a1 a2 n) ih u3 u4 u5 u6 u6 a1
      · refine pw_iload_n C dX5_told_31 rfl rfl ?_
        refine pw_iconst (v := 1) C dX5_told_32 (by decide) ?_
        refine pw_isub C dX5_told_33 ?_
        refine pw_iload C dX5_told_34 rfl ?_
        refine pw_isub C dX5_told_36 ?_
        refine pw_goto (tgt := 42) C dX5_told_37 (by decide) ?_
        exact kX5_told_J42 C hR hN N h a1 a2 hM (fX5_told_L19 N h a1 a2 n) ih u3 u4 u5 u6 ((u3 - 1) - u6) a1
    · refine pw_iload C dX5_told_105 rfl ?_
      exact pm_iret C hR dX5_told_107
set_option maxRecDepth 100000 in
set_option maxHeartbeats 4000000 in
theorem c_X5_told {l : Launch} {w : Wd} {A : Nat → Prop} (N : Nat) (h : Hp) (a1 : Int32) (a2 : Int32) (hM : LM w) : ConI l yX5_told cX5_told 9 .int 1 w A [.ref (w.2.1 22), .int a1, .int a2] h (Option.map (fun v => (v, h)) (fX5_told N h a1 a2)) := by
  refine ConI.of (lv0 := [some (.ref (w.2.1 22)), some (.int a1), some (.int a2), none, none, none, none, none, none]) (by decide +kernel) (Nat.le_of_ble_eq_true rfl) rfl (fun x C hR hN => ?_)
  unfold fX5_told
  refine pw_aload_n C dX5_told_0 rfl rfl ?_
  refine pw_getr (q2 := 23) C (hM 22 _ rfl (by decide)) rfl (k := 0) (by decide) rfl fl_X5_7 dX5_told_1 ?_
  refine pw_bipush (v := 18) C dX5_told_4 (by decide) ?_
  refine pw_iload_n C dX5_told_6 rfl rfl ?_
  refine pw_iadd C dX5_told_7 ?_
  refine pm_ialdb C (hM 23 _ rfl (by decide)) dX5_told_8 (fun v1 => ?_)
  refine pw_istore_n (lv2 := [some (.ref (w.2.1 22)), some (.int a1), some (.int a2), some (.int v1), none, none, none, none, none]) C dX5_told_9 rfl hN (by decide) rfl rfl ?_
  refine pw_iconst (v := 0) C dX5_told_10 (by decide) ?_
  refine pw_istore (lv2 := [some (.ref (w.2.1 22)), some (.int a1), some (.int a2), some (.int v1), some (.int 0), none, none, none, none]) C dX5_told_11 hN (by decide) rfl rfl ?_
  refine pw_iconst (v := 1) C dX5_told_13 (by decide) ?_
  refine pw_istore (lv2 := [some (.ref (w.2.1 22)), some (.int a1), some (.int a2), some (.int v1), some (.int 0), some (.int 1), none, none, none]) C dX5_told_14 hN (by decide) rfl rfl ?_
  refine pw_iconst (v := 0) C dX5_told_16 (by decide) ?_
  refine pw_istore (lv2 := [some (.ref (w.2.1 22)), some (.int a1), some (.int a2), some (.int v1), some (.int 0), some (.int 1), some (.int 0), none, none]) C dX5_told_17 hN (by decide) rfl rfl ?_
  exact kX5_told_L19 C hR hN N h a1 a2 hM N v1 0 1 0
