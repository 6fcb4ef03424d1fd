theorem cl_X1_9c : Cond.classLink RX1 9 RX0 ∈ TBL := tbl_in (List.mem_of_getElem? (i := 86) (by decide +kernel)) rfl
theorem it_X0 : Cond.instantiable RX0 1 ∈ TBL := tbl_in (List.mem_of_getElem? (i := 87) (by decide +kernel)) rfl
theorem ini_X0 : Cond.initialized RX0 ∈ TBL := tbl_in (List.mem_of_getElem? (i := 60) (by decide +kernel)) rfl
theorem im_X0_init : Cond.instanceMethod yX0_init ∈ TBL := tbl_in (List.mem_of_getElem? (i := 89) (by decide +kernel)) rfl
theorem cw_X0_init : CW yX0_init cX0_init 1 none 0 := ⟨tbl_in (List.mem_of_getElem? (i := 90) (by decide +kernel)) rfl, tbl_in (List.mem_of_getElem? (i := 60) (by decide +kernel)) rfl, ⟨by decide +kernel, by decide +kernel⟩, by decide +kernel⟩
theorem ml_X3_7 : Cond.methodLink RX3 7 Lib.Math.max.name ∈ TBL := tbl_in (List.mem_of_getElem? (i := 124) (by decide +kernel)) rfl
set_option maxRecDepth 100000 in
set_option maxHeartbeats 4000000 in
theorem c_X1_init (l : Launch) (D : va_G) (cI cC : ClassId) (h0 : Nat) : CtorM l yX1_init cX1_init 1 { frames := 3, cells := 3, slots := 183, locals := 100 } D cI cC [.ref h0] [(h0, .inr (1, [.null, .null, .int 0, .int 0, .int 0]))] (fun u => [(h0, .inr (1, [.ref (u 0), .ref (u 2), .int 0, .int 0, .int 0])), ((u 0), .inr (0, [.ref (u 1)])), ((u 1), .inl (cI, 179, .inl (fun _ => 0))), ((u 2), .inl (cI, 3, .inl (fun _ => 0)))]) 3 183 := by
  refine CtorM.of (by decide +kernel) (Nat.le_of_ble_eq_true rfl) ?_
  intro p e s m below meth c A hx hb hml hr hts hown hin hlk hK hNW hP hD hA ls hl hend
  have hS : va_S A s.heap s.heap [] := va_S.rf
  have hl : lv_has ls 1 [(0, .ref h0)] := hl
  refine lv_aload_n hx hb dX1_init_0 rfl (lv_at hl 0 rfl) ?_
  refine aw_obj hx hb hts hown hml ml_X1_3 hl rfl dX1_init_1 (Nat.le_of_ble_eq_true rfl) (Nat.le_of_ble_eq_true rfl) ?_
  refine lv_aload_n hx hb dX1_init_4 rfl (lv_at hl 0 rfl) ?_
  refine aw_new (ci := 0) (fs := [.null]) hx hb hts hown cl_X1_9c it_X0 ini_X0 tyX0 tyX0_ok hK hP hD hS hA rfl (by intro j hj; rcases j with _ | j; all_goals first | rfl | (exfalso; omega)) (Nat.le_of_ble_eq_true rfl) (Nat.le_of_ble_eq_true rfl) dX1_init_5 (fun q1 H hP hD hS => ?_)
  have hP : va_P D vwCl [(h0, .inr (1, [.null, .null, .int 0, .int 0, .int 0])), (q1, .inr (0, [.null]))] H := hP
  have hD : va_D A [(h0, .inr (1, [.null, .null, .int 0, .int 0, .int 0])), (q1, .inr (0, [.null]))] := hD
  refine lv_dup hx hb dX1_init_8 rfl ?_
  refine aw_initN (host := "ToldInKnots") (as := []) (rest := [.ref q1, .ref h0]) (wr := [(h0, .inr (1, [.null, .null, .int 0, .int 0, .int 0]))]) hx hb hml hown hts (c_X0_init l D cI cC q1) hK hNW cw_X0_init im_X0_init rfl (by decide +kernel) ⟨rfl, rfl⟩ ⟨Nat.le_of_ble_eq_true rfl, Nat.le_of_ble_eq_true rfl⟩ hP hD hS hA [1] [0] rfl rfl (by decide) (by decide) (by decide) rfl hl rfl (Nat.le_of_ble_eq_true rfl) dX1_init_9 ⟨Nat.le_of_ble_eq_true rfl, Nat.le_of_ble_eq_true rfl⟩ (fun u2 H locs hP hD hS => ?_)
  have hP : va_P D vwCl [(h0, .inr (1, [.null, .null, .int 0, .int 0, .int 0])), (q1, .inr (0, [.ref (u2 0)])), ((u2 0), .inl (cI, 179, .inl (fun _ => 0)))] H := hP
  have hD : va_D A [(h0, .inr (1, [.null, .null, .int 0, .int 0, .int 0])), (q1, .inr (0, [.ref (u2 0)])), ((u2 0), .inl (cI, 179, .inl (fun _ => 0)))] := hD
  refine aw_putF (CN := RX1) (ci := 1) (k := 0) (q0 := 0) (ty := (.object "ToldInKnots$Bundle")) hx hb hts hown hin hK hP hD hS rfl rfl (by decide) fl_X1_12 rfl rfl (by decide +kernel) rfl rfl (Nat.le_of_ble_eq_true rfl) dX1_init_12 (fun H locs hP hD hS => ?_)
  have hP : va_P D vwCl [(h0, .inr (1, [.ref q1, .null, .int 0, .int 0, .int 0])), (q1, .inr (0, [.ref (u2 0)])), ((u2 0), .inl (cI, 179, .inl (fun _ => 0)))] H := hP
  have hD : va_D A [(h0, .inr (1, [.ref q1, .null, .int 0, .int 0, .int 0])), (q1, .inr (0, [.ref (u2 0)])), ((u2 0), .inl (cI, 179, .inl (fun _ => 0)))] := hD
  refine lv_aload_n hx hb dX1_init_15 rfl (lv_at hl 0 rfl) ?_
  refine lv_iconst (v := 3) hx hb dX1_init_16 (by decide) ?_
  refine aw_newi hx hb hts hK hP hD hS hA 3 (by decide) (by decide) (Nat.le_of_ble_eq_true rfl) (Nat.le_of_ble_eq_true rfl) (Nat.le_of_ble_eq_true rfl) dX1_init_17 (fun q3 H hP hD hS => ?_)
  have hP : va_P D vwCl [(h0, .inr (1, [.ref q1, .null, .int 0, .int 0, .int 0])), (q1, .inr (0, [.ref (u2 0)])), ((u2 0), .inl (cI, 179, .inl (fun _ => 0))), (q3, .inl (cI, 3, .inl (fun _ => 0)))] H := hP
  have hD : va_D A [(h0, .inr (1, [.ref q1, .null, .int 0, .int 0, .int 0])), (q1, .inr (0, [.ref (u2 0)])), ((u2 0), .inl (cI, 179, .inl (fun _ => 0))), (q3, .inl (cI, 3, .inl (fun _ => 0)))] := hD
  refine aw_putF (CN := RX1) (ci := 1) (k := 1) (q0 := 0) (ty := (.array .int)) hx hb hts hown hin hK hP hD hS rfl rfl (by decide) fl_X1_18 rfl rfl (by decide +kernel) rfl rfl (Nat.le_of_ble_eq_true rfl) dX1_init_19 (fun H locs hP hD hS => ?_)
  have hP : va_P D vwCl [(h0, .inr (1, [.ref q1, .ref q3, .int 0, .int 0, .int 0])), (q1, .inr (0, [.ref (u2 0)])), ((u2 0), .inl (cI, 179, .inl (fun _ => 0))), (q3, .inl (cI, 3, .inl (fun _ => 0)))] H := hP
  have hD : va_D A [(h0, .inr (1, [.ref q1, .ref q3, .int 0, .int 0, .int 0])), (q1, .inr (0, [.ref (u2 0)])), ((u2 0), .inl (cI, 179, .inl (fun _ => 0))), (q3, .inl (cI, 3, .inl (fun _ => 0)))] := hD
  exact hend H locs (fun i => match i with | 0 => q1 | 1 => (u2 0) | _ => q3) _ _ hP hD hS dX1_init_22
set_option maxRecDepth 100000 in
set_option maxHeartbeats 4000000 in
theorem c_X2_init (l : Launch) (D : va_G) (cI cC : ClassId) (h0 : Nat) : CtorM l yX2_init cX2_init 1 { frames := 1, cells := 5, slots := 800, locals := 40 } D cI cC [.ref h0] [(h0, .inr (2, [.null, .null, .null, .null, .null, .int 0, .int 0, .int 0, .int 0]))] (fun u => [(h0, .inr (2, [.ref (u 0), .ref (u 1), .ref (u 2), .ref (u 3), .ref (u 4), .int 0, .int 0, .int 0, .int 0])), ((u 0), .inl (cI, 16, .inl (fun _ => 0))), ((u 1), .inl (cI, 16, .inl (fun _ => 0))), ((u 2), .inl (cI, 256, .inl (fun _ => 0))), ((u 3), .inl (cI, 256, .inl (fun _ => 0))), ((u 4), .inl (cI, 256, .inl (fun _ => 0)))]) 5 800 := by
  refine CtorM.of (by decide +kernel) (Nat.le_of_ble_eq_true rfl) ?_
  intro p e s m below meth c A hx hb hml hr hts hown hin hlk hK hNW hP hD hA ls hl hend
  have hS : va_S A s.heap s.heap [] := va_S.rf
  have hl : lv_has ls 1 [(0, .ref h0)] := hl
  refine lv_aload_n hx hb dX2_init_0 rfl (lv_at hl 0 rfl) ?_
  refine aw_obj hx hb hts hown hml ml_X2_5 hl rfl dX2_init_1 (Nat.le_of_ble_eq_true rfl) (Nat.le_of_ble_eq_true rfl) ?_
  refine lv_aload_n hx hb dX2_init_4 rfl (lv_at hl 0 rfl) ?_
  refine lv_bipush (v := 16) hx hb dX2_init_5 (by decide) ?_
  refine aw_newi hx hb hts hK hP hD hS hA 16 (by decide) (by decide) (Nat.le_of_ble_eq_true rfl) (Nat.le_of_ble_eq_true rfl) (Nat.le_of_ble_eq_true rfl) dX2_init_7 (fun q1 H hP hD hS => ?_)
  have hP : va_P D vwCl [(h0, .inr (2, [.null, .null, .null, .null, .null, .int 0, .int 0, .int 0, .int 0])), (q1, .inl (cI, 16, .inl (fun _ => 0)))] H := hP
  have hD : va_D A [(h0, .inr (2, [.null, .null, .null, .null, .null, .int 0, .int 0, .int 0, .int 0])), (q1, .inl (cI, 16, .inl (fun _ => 0)))] := hD
  refine aw_putF (CN := RX2) (ci := 2) (k := 0) (q0 := 0) (ty := (.array .int)) hx hb hts hown hin hK hP hD hS rfl rfl (by decide) fl_X2_11 rfl rfl (by decide +kernel) rfl rfl (Nat.le_of_ble_eq_true rfl) dX2_init_9 (fun H locs hP hD hS => ?_)
  have hP : va_P D vwCl [(h0, .inr (2, [.ref q1, .null, .null, .null, .null, .int 0, .int 0, .int 0, .int 0])), (q1, .inl (cI, 16, .inl (fun _ => 0)))] H := hP
  have hD : va_D A [(h0, .inr (2, [.ref q1, .null, .null, .null, .null, .int 0, .int 0, .int 0, .int 0])), (q1, .inl (cI, 16, .inl (fun _ => 0)))] := hD
  refine lv_aload_n hx hb dX2_init_12 rfl (lv_at hl 0 rfl) ?_
  refine lv_bipush (v := 16) hx hb dX2_init_13 (by decide) ?_
  refine aw_newi hx hb hts hK hP hD hS hA 16 (by decide) (by decide) (Nat.le_of_ble_eq_true rfl) (Nat.le_of_ble_eq_true rfl) (Nat.le_of_ble_eq_true rfl) dX2_init_15 (fun q2 H hP hD hS => ?_)
  have hP : va_P D vwCl [(h0, .inr (2, [.ref q1, .null, .null, .null, .null, .int 0, .int 0, .int 0, .int 0])), (q1, .inl (cI, 16, .inl (fun _ => 0))), (q2, .inl (cI, 16, .inl (fun _ => 0)))] H := hP
  have hD : va_D A [(h0, .inr (2, [.ref q1, .null, .null, .null, .null, .int 0, .int 0, .int 0, .int 0])), (q1, .inl (cI, 16, .inl (fun _ => 0))), (q2, .inl (cI, 16, .inl (fun _ => 0)))] := hD
  refine aw_putF (CN := RX2) (ci := 2) (k := 1) (q0 := 0) (ty := (.array .int)) hx hb hts hown hin hK hP hD hS rfl rfl (by decide) fl_X2_15 rfl rfl (by decide +kernel) rfl rfl (Nat.le_of_ble_eq_true rfl) dX2_init_17 (fun H locs hP hD hS => ?_)
  have hP : va_P D vwCl [(h0, .inr (2, [.ref q1, .ref q2, .null, .null, .null, .int 0, .int 0, .int 0, .int 0])), (q1, .inl (cI, 16, .inl (fun _ => 0))), (q2, .inl (cI, 16, .inl (fun _ => 0)))] H := hP
  have hD : va_D A [(h0, .inr (2, [.ref q1, .ref q2, .null, .null, .null, .int 0, .int 0, .int 0, .int 0])), (q1, .inl (cI, 16, .inl (fun _ => 0))), (q2, .inl (cI, 16, .inl (fun _ => 0)))] := hD
  refine lv_aload_n hx hb dX2_init_20 rfl (lv_at hl 0 rfl) ?_
  refine lv_sipush (v := 256) hx hb dX2_init_21 (by decide) ?_
  refine aw_newi hx hb hts hK hP hD hS hA 256 (by decide) (by decide) (Nat.le_of_ble_eq_true rfl) (Nat.le_of_ble_eq_true rfl) (Nat.le_of_ble_eq_true rfl) dX2_init_24 (fun q3 H hP hD hS => ?_)
  have hP : va_P D vwCl [(h0, .inr (2, [.ref q1, .ref q2, .null, .null, .null, .int 0, .int 0, .int 0, .int 0])), (q1, .inl (cI, 16, .inl (fun _ => 0))), (q2, .inl (cI, 16, .inl (fun _ => 0))), (q3, .inl (cI, 256, .inl (fun _ => 0)))] H := hP
  have hD : va_D A [(h0, .inr (2, [.ref q1, .ref q2, .null, .null, .null, .int 0, .int 0, .int 0, .int 0])), (q1, .inl (cI, 16, .inl (fun _ => 0))), (q2, .inl (cI, 16, .inl (fun _ => 0))), (q3, .inl (cI, 256, .inl (fun _ => 0)))] := hD
  refine aw_putF (CN := RX2) (ci := 2) (k := 2) (q0 := 0) (ty := (.array .int)) hx hb hts hown hin hK hP hD hS rfl rfl (by decide) fl_X2_18 rfl rfl (by decide +kernel) rfl rfl (Nat.le_of_ble_eq_true rfl) dX2_init_26 (fun H locs hP hD hS => ?_)
  have hP : va_P D vwCl [(h0, .inr (2, [.ref q1, .ref q2, .ref q3, .null, .null, .int 0, .int 0, .int 0, .int 0])), (q1, .inl (cI, 16, .inl (fun _ => 0))), (q2, .inl (cI, 16, .inl (fun _ => 0))), (q3, .inl (cI, 256, .inl (fun _ => 0)))] H := hP
  have hD : va_D A [(h0, .inr (2, [.ref q1, .ref q2, .ref q3, .null, .null, .int 0, .int 0, .int 0, .int 0])), (q1, .inl (cI, 16, .inl (fun _ => 0))), (q2, .inl (cI, 16, .inl (fun _ => 0))), (q3, .inl (cI, 256, .inl (fun _ => 0)))] := hD
  refine lv_aload_n hx hb dX2_init_29 rfl (lv_at hl 0 rfl) ?_
  refine lv_sipush (v := 256) hx hb dX2_init_30 (by decide) ?_
  refine aw_newi hx hb hts hK hP hD hS hA 256 (by decide) (by decide) (Nat.le_of_ble_eq_true rfl) (Nat.le_of_ble_eq_true rfl) (Nat.le_of_ble_eq_true rfl) dX2_init_33 (fun q4 H hP hD hS => ?_)
  have hP : va_P D vwCl [(h0, .inr (2, [.ref q1, .ref q2, .ref q3, .null, .null, .int 0, .int 0, .int 0, .int 0])), (q1, .inl (cI, 16, .inl (fun _ => 0))), (q2, .inl (cI, 16, .inl (fun _ => 0))), (q3, .inl (cI, 256, .inl (fun _ => 0))), (q4, .inl (cI, 256, .inl (fun _ => 0)))] H := hP
  have hD : va_D A [(h0, .inr (2, [.ref q1, .ref q2, .ref q3, .null, .null, .int 0, .int 0, .int 0, .int 0])), (q1, .inl (cI, 16, .inl (fun _ => 0))), (q2, .inl (cI, 16, .inl (fun _ => 0))), (q3, .inl (cI, 256, .inl (fun _ => 0))), (q4, .inl (cI, 256, .inl (fun _ => 0)))] := hD
  refine aw_put (CN := RX2) (ci := 2) (k := 3) (q0 := 0) (ty := (.array .int)) hx hb hts hown hK hP hD hS rfl rfl (by decide) fl_X2_21 rfl (by decide +kernel) rfl rfl (Nat.le_of_ble_eq_true rfl) dX2_init_35 (fun H locs hP hD hS => ?_)
  have hP : va_P D vwCl [(h0, .inr (2, [.ref q1, .ref q2, .ref q3, .ref q4, .null, .int 0, .int 0, .int 0, .int 0])), (q1, .inl (cI, 16, .inl (fun _ => 0))), (q2, .inl (cI, 16, .inl (fun _ => 0))), (q3, .inl (cI, 256, .inl (fun _ => 0))), (q4, .inl (cI, 256, .inl (fun _ => 0)))] H := hP
  have hD : va_D A [(h0, .inr (2, [.ref q1, .ref q2, .ref q3, .ref q4, .null, .int 0, .int 0, .int 0, .int 0])), (q1, .inl (cI, 16, .inl (fun _ => 0))), (q2, .inl (cI, 16, .inl (fun _ => 0))), (q3, .inl (cI, 256, .inl (fun _ => 0))), (q4, .inl (cI, 256, .inl (fun _ => 0)))] := hD
  refine lv_aload_n hx hb dX2_init_38 rfl (lv_at hl 0 rfl) ?_
  refine lv_sipush (v := 256) hx hb dX2_init_39 (by decide) ?_
  refine aw_newi hx hb hts hK hP hD hS hA 256 (by decide) (by decide) (Nat.le_of_ble_eq_true rfl) (Nat.le_of_ble_eq_true rfl) (Nat.le_of_ble_eq_true rfl) dX2_init_42 (fun q5 H hP hD hS => ?_)
  have hP : va_P D vwCl [(h0, .inr (2, [.ref q1, .ref q2, .ref q3, .ref q4, .null, .int 0, .int 0, .int 0, .int 0])), (q1, .inl (cI, 16, .inl (fun _ => 0))), (q2, .inl (cI, 16, .inl (fun _ => 0))), (q3, .inl (cI, 256, .inl (fun _ => 0))), (q4, .inl (cI, 256, .inl (fun _ => 0))), (q5, .inl (cI, 256, .inl (fun _ => 0)))] H := hP
  have hD : va_D A [(h0, .inr (2, [.ref q1, .ref q2, .ref q3, .ref q4, .null, .int 0, .int 0, .int 0, .int 0])), (q1, .inl (cI, 16, .inl (fun _ => 0))), (q2, .inl (cI, 16, .inl (fun _ => 0))), (q3, .inl (cI, 256, .inl (fun _ => 0))), (q4, .inl (cI, 256, .inl (fun _ => 0))), (q5, .inl (cI, 256, .inl (fun _ => 0)))] := hD
  refine aw_put (CN := RX2) (ci := 2) (k := 4) (q0 := 0) (ty := (.array .int)) hx hb hts hown hK hP hD hS rfl rfl (by decide) fl_X2_24 rfl (by decide +kernel) rfl rfl (Nat.le_of_ble_eq_true rfl) dX2_init_44 (fun H locs hP hD hS => ?_)
  have hP : va_P D vwCl [(h0, .inr (2, [.ref q1, .ref q2, .ref q3, .ref q4, .ref q5, .int 0, .int 0, .int 0, .int 0])), (q1, .inl (cI, 16, .inl (fun _ => 0))), (q2, .inl (cI, 16, .inl (fun _ => 0))), (q3, .inl (cI, 256, .inl (fun _ => 0))), (q4, .inl (cI, 256, .inl (fun _ => 0))), (q5, .inl (cI, 256, .inl (fun _ => 0)))] H := hP
  have hD : va_D A [(h0, .inr (2, [.ref q1, .ref q2, .ref q3, .ref q4, .ref q5, .int 0, .int 0, .int 0, .int 0])), (q1, .inl (cI, 16, .inl (fun _ => 0))), (q2, .inl (cI, 16, .inl (fun _ => 0))), (q3, .inl (cI, 256, .inl (fun _ => 0))), (q4, .inl (cI, 256, .inl (fun _ => 0))), (q5, .inl (cI, 256, .inl (fun _ => 0)))] := hD
  exact hend H locs (fun i => match i with | 0 => q1 | 1 => q2 | 2 => q3 | 3 => q4 | _ => q5) _ _ hP hD hS dX2_init_47
set_option maxRecDepth 100000 in
set_option maxHeartbeats 4000000 in
theorem c_X3_init_8 (l : Launch) (D : va_G) (cI cC : ClassId) (h0 : Nat) : CtorM l yX3_init cX3_init 2 { frames := 1, cells := 1, slots := 1432, locals := 80 } D cI cC [.ref h0, .int 8] [(h0, .inr (3, [.int 0, .null, .int 0]))] (fun u => [(h0, .inr (3, [.int 8, .ref (u 0), .int 0])), ((u 0), .inl (cI, 1432, .inl (fun _ => 0)))]) 1 1432 := by
  refine CtorM.of (by decide +kernel) (Nat.le_of_ble_eq_true rfl) ?_
  intro p e s m below meth c A hx hb hml hr hts hown hin hlk hK hNW hP hD hA ls hl hend
  have hS : va_S A s.heap s.heap [] := va_S.rf
  have hl : lv_has ls 2 [(0, .ref h0), (1, .int 8)] := hl
  refine lv_aload_n hx hb dX3_init_0 rfl (lv_at hl 0 rfl) ?_
  refine aw_obj hx hb hts hown hml ml_X3_1 hl rfl dX3_init_1 (Nat.le_of_ble_eq_true rfl) (Nat.le_of_ble_eq_true rfl) ?_
  refine lv_aload_n hx hb dX3_init_4 rfl (lv_at hl 0 rfl) ?_
  refine lv_iload_n hx hb dX3_init_5 rfl (lv_at hl 1 rfl) ?_
  refine lv_iconst (v := 1) hx hb dX3_init_6 (by decide) ?_
  refine aw_max (v := 8) hx hb hml hl hown hts ml_X3_7 (Nat.le_of_ble_eq_true rfl) (Nat.le_of_ble_eq_true rfl) (Nat.le_of_ble_eq_true rfl) (Nat.le_of_ble_eq_true rfl) (Nat.le_of_ble_eq_true rfl) dX3_init_7 (by decide) ?_
  refine aw_putF (CN := RX3) (ci := 3) (k := 0) (q0 := 0) (ty := .int) hx hb hts hown hin hK hP hD hS rfl rfl (by decide) fl_X3_13 rfl rfl (by decide +kernel) rfl rfl (Nat.le_of_ble_eq_true rfl) dX3_init_10 (fun H locs hP hD hS => ?_)
  have hP : va_P D vwCl [(h0, .inr (3, [.int 8, .null, .int 0]))] H := hP
  have hD : va_D A [(h0, .inr (3, [.int 8, .null, .int 0]))] := hD
  refine lv_aload_n hx hb dX3_init_13 rfl (lv_at hl 0 rfl) ?_
  refine lv_aload_n hx hb dX3_init_14 rfl (lv_at hl 0 rfl) ?_
  refine aw_get (CN := RX3) (ci := 3) (k := 0) (q0 := 0) hx hb hts hown hK hP rfl rfl (by decide) fl_X3_13 rfl dX3_init_15 ?_
  refine lv_sipush (v := 179) hx hb dX3_init_18 (by decide) ?_
  refine lv_imul hx hb dX3_init_21 ?_
  rw [show (8 * 179 : Int32) = 1432 from by decide]
  refine aw_newi hx hb hts hK hP hD hS hA 1432 (by decide) (by decide) (Nat.le_of_ble_eq_true rfl) (Nat.le_of_ble_eq_true rfl) (Nat.le_of_ble_eq_true rfl) dX3_init_22 (fun q1 H hP hD hS => ?_)
  have hP : va_P D vwCl [(h0, .inr (3, [.int 8, .null, .int 0])), (q1, .inl (cI, 1432, .inl (fun _ => 0)))] H := hP
  have hD : va_D A [(h0, .inr (3, [.int 8, .null, .int 0])), (q1, .inl (cI, 1432, .inl (fun _ => 0)))] := hD
  refine aw_putF (CN := RX3) (ci := 3) (k := 1) (q0 := 0) (ty := (.array .int)) hx hb hts hown hin hK hP hD hS rfl rfl (by decide) fl_X3_21 rfl rfl (by decide +kernel) rfl rfl (Nat.le_of_ble_eq_true rfl) dX3_init_24 (fun H locs hP hD hS => ?_)
  have hP : va_P D vwCl [(h0, .inr (3, [.int 8, .ref q1, .int 0])), (q1, .inl (cI, 1432, .inl (fun _ => 0)))] H := hP
  have hD : va_D A [(h0, .inr (3, [.int 8, .ref q1, .int 0])), (q1, .inl (cI, 1432, .inl (fun _ => 0)))] := hD
  exact hend H locs (fun i => match i with  | _ => q1) _ _ hP hD hS dX3_init_27
set_option maxRecDepth 100000 in
set_option maxHeartbeats 4000000 in
theorem c_X3_init_2 (l : Launch) (D : va_G) (cI cC : ClassId) (h0 : Nat) : CtorM l yX3_init cX3_init 2 { frames := 1, cells := 1, slots := 358, locals := 80 } D cI cC [.ref h0, .int 2] [(h0, .inr (3, [.int 0, .null, .int 0]))] (fun u => [(h0, .inr (3, [.int 2, .ref (u 0), .int 0])), ((u 0), .inl (cI, 358, .inl (fun _ => 0)))]) 1 358 := by
  refine CtorM.of (by decide +kernel) (Nat.le_of_ble_eq_true rfl) ?_
  intro p e s m below meth c A hx hb hml hr hts hown hin hlk hK hNW hP hD hA ls hl hend
  have hS : va_S A s.heap s.heap [] := va_S.rf
  have hl : lv_has ls 2 [(0, .ref h0), (1, .int 2)] := hl
  refine lv_aload_n hx hb dX3_init_0 rfl (lv_at hl 0 rfl) ?_
  refine aw_obj hx hb hts hown hml ml_X3_1 hl rfl dX3_init_1 (Nat.le_of_ble_eq_true rfl) (Nat.le_of_ble_eq_true rfl) ?_
  refine lv_aload_n hx hb dX3_init_4 rfl (lv_at hl 0 rfl) ?_
  refine lv_iload_n hx hb dX3_init_5 rfl (lv_at hl 1 rfl) ?_
  refine lv_iconst (v := 1) hx hb dX3_init_6 (by decide) ?_
  refine aw_max (v := 2) hx hb hml hl hown hts ml_X3_7 (Nat.le_of_ble_eq_true rfl) (Nat.le_of_ble_eq_true rfl) (Nat.le_of_ble_eq_true rfl) (Nat.le_of_ble_eq_true rfl) (Nat.le_of_ble_eq_true rfl) dX3_init_7 (by decide) ?_
  refine aw_putF (CN := RX3) (ci := 3) (k := 0) (q0 := 0) (ty := .int) hx hb hts hown hin hK hP hD hS rfl rfl (by decide) fl_X3_13 rfl rfl (by decide +kernel) rfl rfl (Nat.le_of_ble_eq_true rfl) dX3_init_10 (fun H locs hP hD hS => ?_)
  have hP : va_P D vwCl [(h0, .inr (3, [.int 2, .null, .int 0]))] H := hP
  have hD : va_D A [(h0, .inr (3, [.int 2, .null, .int 0]))] := hD
  refine lv_aload_n hx hb dX3_init_13 rfl (lv_at hl 0 rfl) ?_
  refine lv_aload_n hx hb dX3_init_14 rfl (lv_at hl 0 rfl) ?_
  refine aw_get (CN := RX3) (ci := 3) (k := 0) (q0 := 0) hx hb hts hown hK hP rfl rfl (by decide) fl_X3_13 rfl dX3_init_15 ?_
  refine lv_sipush (v := 179) hx hb dX3_init_18 (by decide) ?_
  refine lv_imul hx hb dX3_init_21 ?_
  rw [show (2 * 179 : Int32) = 358 from by decide]
  refine aw_newi hx hb hts hK hP hD hS hA 358 (by decide) (by decide) (Nat.le_of_ble_eq_true rfl) (Nat.le_of_ble_eq_true rfl) (Nat.le_of_ble_eq_true rfl) dX3_init_22 (fun q1 H hP hD hS => ?_)
  have hP : va_P D vwCl [(h0, .inr (3, [.int 2, .null, .int 0])), (q1, .inl (cI, 358, .inl (fun _ => 0)))] H := hP
  have hD : va_D A [(h0, .inr (3, [.int 2, .null, .int 0])), (q1, .inl (cI, 358, .inl (fun _ => 0)))] := hD
  refine aw_putF (CN := RX3) (ci := 3) (k := 1) (q0 := 0) (ty := (.array .int)) hx hb hts hown hin hK hP hD hS rfl rfl (by decide) fl_X3_21 rfl rfl (by decide +kernel) rfl rfl (Nat.le_of_ble_eq_true rfl) dX3_init_24 (fun H locs hP hD hS => ?_)
  have hP : va_P D vwCl [(h0, .inr (3, [.int 2, .ref q1, .int 0])), (q1, .inl (cI, 358, .inl (fun _ => 0)))] H := hP
  have hD : va_D A [(h0, .inr (3, [.int 2, .ref q1, .int 0])), (q1, .inl (cI, 358, .inl (fun _ => 0)))] := hD
  exact hend H locs (fun i => match i with  | _ => q1) _ _ hP hD hS dX3_init_27
