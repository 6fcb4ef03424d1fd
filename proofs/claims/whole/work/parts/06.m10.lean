set_option maxRecDepth 100000 in
set_option maxHeartbeats 4000000 in
theorem kX5_slip_J214 {w : Wd} {x : Cz} (C : Ok w x cX5_slip RX5 7) (hR : OkI w x .int) (hN : xN x = 11) (N : Nat) (h : Hp) (a1 : Int32) (a2 : Int32) (hM : LM w)  : ∀ (u4 : Int32) (u5 : Int32), PW w x 214 [none, none, some (.int a2), none, some (.int u4), some (.int u5), none, none, none, none, none] [] h (Option.map (fun v => (v, h)) (fX5_slip_J214 N h a1 a2 u4 u5)) := by
  intro u4 u5
  unfold fX5_slip_J214
  refine pw_iload_n C dX5_slip_214 rfl rfl ?_
  refine pm_if_ne (tgt := 223) C dX5_slip_215 (by decide) (fun c10 => ?_) (fun c10 => ?_)
  · refine pw_iload C dX5_slip_218 rfl ?_
    refine pw_goto (tgt := 225) C dX5_slip_220 (by decide) ?_
    exact pm_iret C hR dX5_slip_225
  · refine pw_iload C dX5_slip_223 rfl ?_
    exact pm_iret C hR dX5_slip_225
set_option maxRecDepth 100000 in
set_option maxHeartbeats 4000000 in
theorem kX5_slip_J171 {w : Wd} {x : Cz} (C : Ok w x cX5_slip RX5 7) (hR : OkI w x .int) (hN : xN x = 11) (N : Nat) (h : Hp) (a1 : Int32) (a2 : Int32) (hM : LM w) (k40 : Int32 → Int32 → Int32 → Int32 → Option Int32) (hk40 : ∀ (u3 : Int32) (u4 : Int32) (u5 : Int32) (u6 : Int32), PW w x 40 [some (.ref (w.2.1 22)), some (.int a1), some (.int a2), some (.int u3), some (.int u4), some (.int u5), some (.int u6), none, none, none, none] [] h (Option.map (fun v => (v, h)) (k40 u3 u4 u5 u6))) (k101 : Int32 → Int32 → Int32 → Int32 → Int32 → Int32 → Option Int32) (hk101 : ∀ (u3 : Int32) (u4 : Int32) (u5 : Int32) (u6 : Int32) (u7 : Int32) (u8 : Int32), PW w x 101 [some (.ref (w.2.1 22)), some (.int a1), some (.int a2), some (.int u3), some (.int u4), some (.int u5), some (.int u6), some (.int u7), some (.int u8), none, none] [] h (Option.map (fun v => (v, h)) (k101 u3 u4 u5 u6 u7 u8))) (k125 : Int32 → Int32 → Int32 → Int32 → Int32 → Int32 → Int32 → Option Int32) (hk125 : ∀ (u3 : Int32) (u4 : Int32) (u5 : Int32) (u6 : Int32) (u7 : Int32) (u8 : Int32) (u9 : Int32), PW w x 125 [some (.ref (w.2.1 22)), some (.int a1), some (.int a2), some (.int u3), some (.int u4), some (.int u5), some (.int u6), some (.int u7), some (.int u8), some (.int u9), none] [] h (Option.map (fun v => (v, h)) (k125 u3 u4 u5 u6 u7 u8 u9))) : ∀ (u3 : Int32) (u4 : Int32) (u5 : Int32) (u6 : Int32) (u7 : Int32) (u8 : Int32) (u9 : Int32) (t0 : Int32) (t1 : Int32), PW w x 171 [some (.ref (w.2.1 22)), some (.int a1), some (.int a2), some (.int u3), some (.int u4), some (.int u5), some (.int u6), some (.int u7), some (.int u8), some (.int u9), none] [.int t0, .int t1] h (Option.map (fun v => (v, h)) (fX5_slip_J171 N h a1 a2 k40 k101 k125 u3 u4 u5 u6 u7 u8 u9 t0 t1)) := by
  intro u3 u4 u5 u6 u7 u8 u9 t0 t1
  unfold fX5_slip_J171
  refine pw_iadd C dX5_slip_171 ?_
  refine pw_ldc (C := C) ct_X5_182 dX5_slip_172 ?_
  refine pm_icmp_ne (tgt := 196) C dX5_slip_174 (by decide) (fun c11 => ?_) (fun c11 => ?_)
  · refine pw_iinc (lv2 := [some (.ref (w.2.1 22)), some (.int a1), some (.int a2), some (.int u3), some (.int (u4 + 1)), some (.int u5), some (.int u6), some (.int u7), some (.int u8), some (.int u9), none]) C dX5_slip_177 rfl rfl hN (by decide) rfl rfl ?_
    refine pw_bipush (v := 100) C dX5_slip_180 (by decide) ?_
    refine pw_iload C dX5_slip_182 rfl ?_
    refine pw_imul C dX5_slip_184 ?_
    refine pw_bipush (v := 10) C dX5_slip_185 (by decide) ?_
    refine pw_iload C dX5_slip_187 rfl ?_
    refine pw_imul C dX5_slip_189 ?_
    refine pw_iadd C dX5_slip_190 ?_
    refine pw_iload C dX5_slip_191 rfl ?_
    refine pw_iadd C dX5_slip_193 ?_
    refine pm_name (fun v9 => ?_)
    refine pw_istore (lv2 := [some (.ref (w.2.1 22)), some (.int a1), some (.int a2), some (.int u3), some (.int (u4 + 1)), some (.int v9), some (.int u6), some (.int u7), some (.int u8), some (.int u9), none]) C dX5_slip_194 hN (by decide) rfl rfl ?_
    refine pw_iinc (lv2 := [some (.ref (w.2.1 22)), some (.int a1), some (.int a2), some (.int u3), some (.int (u4 + 1)), some (.int v9), some (.int u6), some (.int u7), some (.int u8), some (.int (u9 + (-1))), none]) C dX5_slip_196 rfl rfl hN (by decide) rfl rfl ?_
    refine pw_goto (tgt := 125) C dX5_slip_199 (by decide) ?_
    exact hk125 u3 (u4 + 1) v9 u6 u7 u8 (u9 + (-1))
  · refine pw_iinc (lv2 := [some (.ref (w.2.1 22)), some (.int a1), some (.int a2), some (.int u3), some (.int u4), some (.int u5), some (.int u6), some (.int u7), some (.int u8), some (.int (u9 + (-1))), none]) C dX5_slip_196 rfl rfl hN (by decide) rfl rfl ?_
    refine pw_goto (tgt := 125) C dX5_slip_199 (by decide) ?_
    exact hk125 u3 u4 u5 u6 u7 u8 (u9 + (-1))
set_option maxRecDepth 100000 in
set_option maxHeartbeats 4000000 in
theorem kX5_slip_L125 {w : Wd} {x : Cz} (C : Ok w x cX5_slip RX5 7) (hR : OkI w x .int) (hN : xN x = 11) (N : Nat) (h : Hp) (a1 : Int32) (a2 : Int32) (hM : LM w) (k40 : Int32 → Int32 → Int32 → Int32 → Option Int32) (hk40 : ∀ (u3 : Int32) (u4 : Int32) (u5 : Int32) (u6 : Int32), PW w x 40 [some (.ref (w.2.1 22)), some (.int a1), some (.int a2), some (.int u3), some (.int u4), some (.int u5), some (.int u6), none, none, none, none] [] h (Option.map (fun v => (v, h)) (k40 u3 u4 u5 u6))) (k101 : Int32 → Int32 → Int32 → Int32 → Int32 → Int32 → Option Int32) (hk101 : ∀ (u3 : Int32) (u4 : Int32) (u5 : Int32) (u6 : Int32) (u7 : Int32) (u8 : Int32), PW w x 101 [some (.ref (w.2.1 22)), some (.int a1), some (.int a2), some (.int u3), some (.int u4), some (.int u5), some (.int u6), some (.int u7), some (.int u8), none, none] [] h (Option.map (fun v => (v, h)) (k101 u3 u4 u5 u6 u7 u8))) : ∀ (n : Nat) (u3 : Int32) (u4 : Int32) (u5 : Int32) (u6 : Int32) (u7 : Int32) (u8 : Int32) (u9 : Int32), PW w x 125 [some (.ref (w.2.1 22)), some (.int a1), some (.int a2), some (.int u3), some (.int u4), some (.int u5), some (.int u6), some (.int u7), some (.int u8), some (.int u9), none] [] h (Option.map (fun v => (v, h)) (fX5_slip_L125 N h a1 a2 k40 k101 n u3 u4 u5 u6 u7 u8 u9)) := by
  intro n
  induction n with
  | zero => intro u3 u4 u5 u6 u7 u8 u9; rw [fX5_slip_L125]; exact pw_none
  | succ n ih =>
    intro u3 u4 u5 u6 u7 u8 u9
    rw [fX5_slip_L125]
    refine pw_iload C dX5_slip_125 rfl ?_
    refine pm_if_lt (tgt := 202) C dX5_slip_127 (by decide) (fun c12 => ?_) (fun c12 => ?_)
    · refine pw_iinc (lv2 := [some (.ref (w.2.1 22)), some (.int a1), some (.int a2), some (.int u3), some (.int u4), some (.int u5), some (.int u6), some (.int u7), some (.int (u8 + (-1))), some (.int u9), none]) C dX5_slip_202 rfl rfl hN (by decide) rfl rfl ?_
      refine pw_goto (tgt := 101) C dX5_slip_205 (by decide) ?_
      exact pw_lv (hk101 u3 u4 u5 u6 u7 (u8 + (-1))) ⟨rfl, rfl, rfl, rfl, rfl, rfl, rfl, rfl, rfl, trivial⟩
    · refine pw_iload C dX5_slip_130 rfl ?_
      refine pw_aload_n C dX5_slip_132 rfl rfl ?_
      refine pw_iload C dX5_slip_133 rfl ?_
      refine pw_iload C dX5_slip_135 rfl ?_
      refine pm_callVp (as := [.int u6, .int u8]) (rest := [.int u9]) C dX5_slip_137 ml_X5_134 cw_X5_knot0 im_X5_knot0 sl_X5_knot0 (hM 22 _ rfl (by decide)) rfl ⟨by decide, by decide⟩ (c_X5_knot0 h u6 u8 hM) rfl rfl (Nat.le_of_ble_eq_true rfl) (fun v6 => ?_)
      refine pw_bipush (v := 10) C dX5_slip_140 (by decide) ?_
      refine pw_irem C dX5_slip_142 (by decide) ?_
      refine pw_isub C dX5_slip_143 ?_
      refine pw_iload C dX5_slip_144 rfl ?_
      refine pm_callSp (as := [.int u8]) (rest := [.int (u9 - (v6 - v6 / 10 * 10))]) C dX5_slip_146 ml_X5_201 cw_X5_power st_X5_power ⟨by decide, by decide⟩ (c_X5_power N h u8) rfl rfl (Nat.le_of_ble_eq_true rfl) (fun v7 => ?_)
      refine pw_imul C dX5_slip_149 ?_
      refine pm_name (fun v8 => ?_)
      refine pw_istore (lv2 := [some (.ref (w.2.1 22)), some (.int a1), some (.int a2), some (.int u3), some (.int u4), some (.int u5), some (.int u6), some (.int u7), some (.int u8), some (.int u9), some (.int v8)]) C dX5_slip_150 hN (by decide) rfl rfl ?_
      refine pw_iload C dX5_slip_152 rfl ?_
      refine pm_if_eq (tgt := 196) C dX5_slip_154 (by decide) (fun c13 => ?_) (fun c13 => ?_)
      · refine pw_iinc (lv2 := [some (.ref (w.2.1 22)), some (.int a1), some (.int a2), some (.int u3), some (.int u4), some (.int u5), some (.int u6), some (.int u7), some (.int u8), some (.int (u9 + (-1))), some (.int v8)]) C dX5_slip_196 rfl rfl hN (by decide) rfl rfl ?_
        refine pw_goto (tgt := 125) C dX5_slip_199 (by decide) ?_
        exact pw_lv (ih u3 u4 u5 u6 u7 u8 (u9 + (-1))) ⟨rfl, rfl, rfl, rfl, rfl, rfl, rfl, rfl, rfl, rfl, trivial⟩
      · refine pw_iload_n C dX5_slip_157 rfl rfl ?_
        refine pw_iload C dX5_slip_158 rfl ?_
        refine PW.eq (apply_ite (fun z_ => Option.map (fun v => (v, h)) (fX5_slip_J171 N h a1 a2 k40 k101 (fX5_slip_L125 N h a1 a2 k40 k101 n) u3 u4 u5 u6 u7 u8 u9 z_ u3)) _ _ _) ?_
        refine pw_if_eq (tgt := 169) C dX5_slip_160 (by decide) (fun c14 => ?_) (fun c14 => ?_)
        · refine pw_iload C dX5_slip_169 rfl ?_
          exact pw_lv (kX5_slip_J171 C hR hN N h a1 a2 hM k40 hk40 k101 hk101 (fX5_slip_L125 N h a1 a2 k40 k101 n) ih u3 u4 u5 u6 u7 u8 u9 v8 u3) ⟨rfl, rfl, rfl, rfl, rfl, rfl, rfl, rfl, rfl, rfl, trivial⟩
        · refine pw_iload C dX5_slip_163 rfl ?_
          refine pw_ineg C dX5_slip_165 ?_
          refine pw_goto (tgt := 171) C dX5_slip_166 (by decide) ?_
          exact pw_lv (kX5_slip_J171 C hR hN N h a1 a2 hM k40 hk40 k101 hk101 (fX5_slip_L125 N h a1 a2 k40 k101 n) ih u3 u4 u5 u6 u7 u8 u9 (-v8) u3) ⟨rfl, rfl, rfl, rfl, rfl, rfl, rfl, rfl, rfl, rfl, trivial⟩
set_option maxRecDepth 100000 in
set_option maxHeartbeats 4000000 in
theorem kX5_slip_L101 {w : Wd} {x : Cz} (C : Ok w x cX5_slip RX5 7) (hR : OkI w x .int) (hN : xN x = 11) (N : Nat) (h : Hp) (a1 : Int32) (a2 : Int32) (hM : LM w) (k40 : Int32 → Int32 → Int32 → Int32 → Option Int32) (hk40 : ∀ (u3 : Int32) (u4 : Int32) (u5 : Int32) (u6 : Int32), PW w x 40 [some (.ref (w.2.1 22)), some (.int a1), some (.int a2), some (.int u3), some (.int u4), some (.int u5), some (.int u6), none, none, none, none] [] h (Option.map (fun v => (v, h)) (k40 u3 u4 u5 u6))) : ∀ (n : Nat) (u3 : Int32) (u4 : Int32) (u5 : Int32) (u6 : Int32) (u7 : Int32) (u8 : Int32), PW w x 101 [some (.ref (w.2.1 22)), some (.int a1), some (.int a2), some (.int u3), some (.int u4), some (.int u5), some (.int u6), some (.int u7), some (.int u8), none, none] [] h (Option.map (fun v => (v, h)) (fX5_slip_L101 N h a1 a2 k40 n u3 u4 u5 u6 u7 u8)) := by
  intro n
  induction n with
  | zero => intro u3 u4 u5 u6 u7 u8; rw [fX5_slip_L101]; exact pw_none
  | succ n ih =>
    intro u3 u4 u5 u6 u7 u8
    rw [fX5_slip_L101]
    refine pw_iload C dX5_slip_101 rfl ?_
    refine pm_if_lt (tgt := 208) C dX5_slip_103 (by decide) (fun c15 => ?_) (fun c15 => ?_)
    · refine pw_iinc (lv2 := [some (.ref (w.2.1 22)), some (.int a1), some (.int a2), some (.int u3), some (.int u4), some (.int u5), some (.int (u6 + (-1))), some (.int u7), some (.int u8), none, none]) C dX5_slip_208 rfl rfl hN (by decide) rfl rfl ?_
      refine pw_goto (tgt := 40) C dX5_slip_211 (by decide) ?_
      exact pw_lv (hk40 u3 u4 u5 (u6 + (-1))) ⟨rfl, rfl, rfl, rfl, rfl, rfl, rfl, trivial⟩
    · refine pw_iload C dX5_slip_106 rfl ?_
      refine pm_if_ne (tgt := 121) C dX5_slip_108 (by decide) (fun c16 => ?_) (fun c16 => ?_)
      · refine pw_aload_n C dX5_slip_111 rfl rfl ?_
        refine pw_iload C dX5_slip_112 rfl ?_
        refine pw_iload_n C dX5_slip_114 rfl rfl ?_
        refine pm_callVp (as := [.int u6, .int a1]) (rest := []) C dX5_slip_115 ml_X5_173 cw_X5_isOf im_X5_isOf sl_X5_isOf (hM 22 _ rfl (by decide)) rfl ⟨by decide, by decide⟩ (c_X5_isOf h u6 a1 hM) rfl rfl (Nat.le_of_ble_eq_true rfl) (fun v5 => ?_)
        refine pm_if_eq (tgt := 208) C dX5_slip_118 (by decide) (fun c17 => ?_) (fun c17 => ?_)
        · refine pw_iinc (lv2 := [some (.ref (w.2.1 22)), some (.int a1), some (.int a2), some (.int u3), some (.int u4), some (.int u5), some (.int (u6 + (-1))), some (.int u7), some (.int u8), none, none]) C dX5_slip_208 rfl rfl hN (by decide) rfl rfl ?_
          refine pw_goto (tgt := 40) C dX5_slip_211 (by decide) ?_
          exact pw_lv (hk40 u3 u4 u5 (u6 + (-1))) ⟨rfl, rfl, rfl, rfl, rfl, rfl, rfl, trivial⟩
        · refine pw_bipush (v := 9) C dX5_slip_121 (by decide) ?_
          refine pw_istore (lv2 := [some (.ref (w.2.1 22)), some (.int a1), some (.int a2), some (.int u3), some (.int u4), some (.int u5), some (.int u6), some (.int u7), some (.int u8), some (.int 9), none]) C dX5_slip_123 hN (by decide) rfl rfl ?_
          exact kX5_slip_L125 C hR hN N h a1 a2 hM k40 hk40 (fX5_slip_L101 N h a1 a2 k40 n) ih N u3 u4 u5 u6 u7 u8 9
      · refine pw_bipush (v := 9) C dX5_slip_121 (by decide) ?_
        refine pw_istore (lv2 := [some (.ref (w.2.1 22)), some (.int a1), some (.int a2), some (.int u3), some (.int u4), some (.int u5), some (.int u6), some (.int u7), some (.int u8), some (.int 9), none]) C dX5_slip_123 hN (by decide) rfl rfl ?_
        exact kX5_slip_L125 C hR hN N h a1 a2 hM k40 hk40 (fX5_slip_L101 N h a1 a2 k40 n) ih N u3 u4 u5 u6 u7 u8 9
set_option maxRecDepth 100000 in
set_option maxHeartbeats 4000000 in
theorem kX5_slip_J85 {w : Wd} {x : Cz} (C : Ok w x cX5_slip RX5 7) (hR : OkI w x .int) (hN : xN x = 11) (N : Nat) (h : Hp) (a1 : Int32) (a2 : Int32) (hM : LM w) (k40 : Int32 → Int32 → Int32 → Int32 → Option Int32) (hk40 : ∀ (u3 : Int32) (u4 : Int32) (u5 : Int32) (u6 : Int32), PW w x 40 [some (.ref (w.2.1 22)), some (.int a1), some (.int a2), some (.int u3), some (.int u4), some (.int u5), some (.int u6), none, none, none, none] [] h (Option.map (fun v => (v, h)) (k40 u3 u4 u5 u6))) : ∀ (u3 : Int32) (u4 : Int32) (u5 : Int32) (u6 : Int32) (t0 : Int32), PW w x 85 [some (.ref (w.2.1 22)), some (.int a1), some (.int a2), some (.int u3), some (.int u4), some (.int u5), some (.int u6), none, none, none, none] [.int t0] h (Option.map (fun v => (v, h)) (fX5_slip_J85 N h a1 a2 k40 u3 u4 u5 u6 t0)) := by
  intro u3 u4 u5 u6 t0
  unfold fX5_slip_J85
  refine pw_istore (lv2 := [some (.ref (w.2.1 22)), some (.int a1), some (.int a2), some (.int u3), some (.int u4), some (.int u5), some (.int u6), some (.int t0), none, none, none]) C dX5_slip_85 hN (by decide) rfl rfl ?_
  refine pw_aload_n C dX5_slip_87 rfl rfl ?_
  refine pw_getr (q2 := 23) C (hM 22 _ rfl (by decide)) rfl (k := 0) (by decide) rfl fl_X5_7 dX5_slip_88 ?_
  refine pw_bipush (v := 18) C dX5_slip_91 (by decide) ?_
  refine pw_iload C dX5_slip_93 rfl ?_
  refine pw_iadd C dX5_slip_95 ?_
  refine pm_ialdb C (hM 23 _ rfl (by decide)) dX5_slip_96 (fun v4 => ?_)
  refine pw_iconst (v := 1) C dX5_slip_97 (by decide) ?_
  refine pw_isub C dX5_slip_98 ?_
  refine pw_istore (lv2 := [some (.ref (w.2.1 22)), some (.int a1), some (.int a2), some (.int u3), some (.int u4), some (.int u5), some (.int u6), some (.int t0), some (.int (v4 - 1)), none, none]) C dX5_slip_99 hN (by decide) rfl rfl ?_
  exact kX5_slip_L101 C hR hN N h a1 a2 hM k40 hk40 N u3 u4 u5 u6 t0 (v4 - 1)
set_option maxRecDepth 100000 in
set_option maxHeartbeats 4000000 in
theorem kX5_slip_L40 {w : Wd} {x : Cz} (C : Ok w x cX5_slip RX5 7) (hR : OkI w x .int) (hN : xN x = 11) (N : Nat) (h : Hp) (a1 : Int32) (a2 : Int32) (hM : LM w)  : ∀ (n : Nat) (u3 : Int32) (u4 : Int32) (u5 : Int32) (u6 : Int32), PW w x 40 [some (.ref (w.2.1 22)), some (.int a1), some (.int a2), some (.int u3), some (.int u4), some (.int u5), some (.int u6), none, none, none, none] [] h (Option.map (fun v => (v, h)) (fX5_slip_L40 N h a1 a2 n u3 u4 u5 u6)) := by
  intro n
  induction n with
  | zero => intro u3 u4 u5 u6; rw [fX5_slip_L40]; exact pw_none
  | succ n ih =>
    intro u3 u4 u5 u6
    rw [fX5_slip_L40]
    refine pw_iload C dX5_slip_40 rfl ?_
    refine pm_if_lt (tgt := 214) C dX5_slip_42 (by decide) (fun c18 => ?_) (fun c18 => ?_)
    · exact pw_lv (kX5_slip_J214 C hR hN N h a1 a2 hM u4 u5) ⟨rfl, rfl, rfl, trivial⟩
    · refine pw_iload_n C dX5_slip_45 rfl rfl ?_
      refine pw_bipush (v := (-4)) C dX5_slip_46 (by decide) ?_
      refine pm_icmp_eq (tgt := 214) C dX5_slip_48 (by decide) (fun c19 => ?_) (fun c19 => ?_)
      · exact pw_lv (kX5_slip_J214 C hR hN N h a1 a2 hM u4 u5) ⟨rfl, rfl, rfl, trivial⟩
      · refine pw_aload_n C dX5_slip_51 rfl rfl ?_
        refine pw_getr (q2 := 23) C (hM 22 _ rfl (by decide)) rfl (k := 0) (by decide) rfl fl_X5_7 dX5_slip_52 ?_
        refine pw_sipush (v := 130) C dX5_slip_55 (by decide) ?_
        refine pw_iload C dX5_slip_58 rfl ?_
        refine pw_iadd C dX5_slip_60 ?_
        refine pm_ialdb C (hM 23 _ rfl (by decide)) dX5_slip_61 (fun v2 => ?_)
        refine pw_iconst (v := 1) C dX5_slip_62 (by decide) ?_
        refine pm_icmp_ne (tgt := 84) C dX5_slip_63 (by decide) (fun c20 => ?_) (fun c20 => ?_)
        · refine pw_aload_n C dX5_slip_66 rfl rfl ?_
          refine pw_getr (q2 := 23) C (hM 22 _ rfl (by decide)) rfl (k := 0) (by decide) rfl fl_X5_7 dX5_slip_67 ?_
          refine pw_bipush (v := 114) C dX5_slip_70 (by decide) ?_
          refine pw_iload C dX5_slip_72 rfl ?_
          refine pw_iadd C dX5_slip_74 ?_
          refine pm_ialdb C (hM 23 _ rfl (by decide)) dX5_slip_75 (fun v3 => ?_)
          refine pw_iload_n C dX5_slip_76 rfl rfl ?_
          refine PW.eq (apply_ite (fun z_ => Option.map (fun v => (v, h)) (fX5_slip_J85 N h a1 a2 (fX5_slip_L40 N h a1 a2 n) u3 u4 u5 u6 z_)) _ _ _) ?_
          refine pw_icmp_ne (tgt := 84) C dX5_slip_77 (by decide) (fun c21 => ?_) (fun c21 => ?_)
          · refine pw_iconst (v := 1) C dX5_slip_80 (by decide) ?_
            refine pw_goto (tgt := 85) C dX5_slip_81 (by decide) ?_
            exact kX5_slip_J85 C hR hN N h a1 a2 hM (fX5_slip_L40 N h a1 a2 n) ih u3 u4 u5 u6 1
          · refine pw_iconst (v := 0) C dX5_slip_84 (by decide) ?_
            exact kX5_slip_J85 C hR hN N h a1 a2 hM (fX5_slip_L40 N h a1 a2 n) ih u3 u4 u5 u6 0
        · refine pw_iconst (v := 0) C dX5_slip_84 (by decide) ?_
          exact kX5_slip_J85 C hR hN N h a1 a2 hM (fX5_slip_L40 N h a1 a2 n) ih u3 u4 u5 u6 0
set_option maxRecDepth 100000 in
set_option maxHeartbeats 4000000 in
theorem c_X5_slip {l : Launch} {w : Wd} {A : Nat → Prop} (N : Nat) (h : Hp) (a1 : Int32) (a2 : Int32) (hM : LM w) : ConI l yX5_slip cX5_slip 11 .int 7 w A [.ref (w.2.1 22), .int a1, .int a2] h (Option.map (fun v => (v, h)) (fX5_slip N h a1 a2)) := by
  refine ConI.of (lv0 := [some (.ref (w.2.1 22)), some (.int a1), some (.int a2), none, none, none, none, none, none, none, none]) (by decide +kernel) (Nat.le_of_ble_eq_true rfl) rfl (fun x C hR hN => ?_)
  unfold fX5_slip
  refine pw_aload_n C dX5_slip_0 rfl rfl ?_
  refine pw_iload_n C dX5_slip_1 rfl rfl ?_
  refine pw_callVt (as := [.int a1]) (rest := []) C dX5_slip_2 ml_X5_183 cw_X5_isGroup im_X5_isGroup sl_X5_isGroup (hM 22 _ rfl (by decide)) rfl ⟨by decide, by decide⟩ (c_X5_isGroup h a1 hM) rfl rfl (Nat.le_of_ble_eq_true rfl) ?_
  refine pm_if_eq (tgt := 15) C dX5_slip_5 (by decide) (fun c22 => ?_) (fun c22 => ?_)
  · refine pw_iconst (v := (-1)) C dX5_slip_15 (by decide) ?_
    exact pm_iret C hR dX5_slip_16
  · refine pw_iload_n C dX5_slip_8 rfl rfl ?_
    refine pw_callSt (as := [.int a2]) (rest := []) C dX5_slip_9 ml_X5_230 cw_X5_isTwo st_X5_isTwo ⟨by decide, by decide⟩ (c_X5_isTwo h a2) rfl rfl (Nat.le_of_ble_eq_true rfl) ?_
    refine pm_if_ne (tgt := 17) C dX5_slip_12 (by decide) (fun c23 => ?_) (fun c23 => ?_)
    · refine pw_iconst (v := (-1)) C dX5_slip_15 (by decide) ?_
      exact pm_iret C hR dX5_slip_16
    · refine pw_aload_n C dX5_slip_17 rfl rfl ?_
      refine pw_iload_n C dX5_slip_18 rfl rfl ?_
      refine pm_callVp (as := [.int a1]) (rest := []) C dX5_slip_19 ml_X5_189 cw_X5_wrongBy im_X5_wrongBy sl_X5_wrongBy (hM 22 _ rfl (by decide)) rfl ⟨by decide, by decide⟩ (c_X5_wrongBy N h a1 hM) rfl rfl (Nat.le_of_ble_eq_true rfl) (fun v1 => ?_)
      refine pw_istore_n (lv2 := [some (.ref (w.2.1 22)), some (.int a1), some (.int a2), some (.int v1), none, none, none, none, none, none, none]) C dX5_slip_22 rfl hN (by decide) rfl rfl ?_
      refine pw_iconst (v := 0) C dX5_slip_23 (by decide) ?_
      refine pw_istore (lv2 := [some (.ref (w.2.1 22)), some (.int a1), some (.int a2), some (.int v1), some (.int 0), none, none, none, none, none, none]) C dX5_slip_24 hN (by decide) rfl rfl ?_
      refine pw_bipush (v := (-4)) C dX5_slip_26 (by decide) ?_
      refine pw_istore (lv2 := [some (.ref (w.2.1 22)), some (.int a1), some (.int a2), some (.int v1), some (.int 0), some (.int (-4)), none, none, none, none, none]) C dX5_slip_28 hN (by decide) rfl rfl ?_
      refine pw_aload_n C dX5_slip_30 rfl rfl ?_
      refine pw_getr (q2 := 23) C (hM 22 _ rfl (by decide)) rfl (k := 0) (by decide) rfl fl_X5_7 dX5_slip_31 ?_
      refine pw_iconst (v := 0) C dX5_slip_34 (by decide) ?_
      refine pw_ialdc (k := 0) C (hM 23 _ rfl (by decide)) (by decide +kernel) dX5_slip_35 ?_
      refine pw_iconst (v := 1) C dX5_slip_36 (by decide) ?_
      refine pw_isub C dX5_slip_37 ?_
      refine pw_istore (lv2 := [some (.ref (w.2.1 22)), some (.int a1), some (.int a2), some (.int v1), some (.int 0), some (.int (-4)), some (.int ((h 23 0) - 1)), none, none, none, none]) C dX5_slip_38 hN (by decide) rfl rfl ?_
      exact kX5_slip_L40 C hR hN N h a1 a2 hM N v1 0 (-4) ((h 23 0) - 1)
