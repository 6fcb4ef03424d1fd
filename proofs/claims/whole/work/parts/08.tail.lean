theorem ml_X5_43 : Cond.methodLink RX5 43 yX5_first ∈ TBL := tbl_in (List.mem_of_getElem? (i := 768) (by decide +kernel)) rfl
theorem im_X5_first : Cond.instanceMethod yX5_first ∈ TBL := tbl_in (List.mem_of_getElem? (i := 770) (by decide +kernel)) rfl
theorem sl_X5_first : Cond.selects yX5_first.cls yX5_first yX5_first ∈ TBL := tbl_in (List.mem_of_getElem? (i := 17) (by decide +kernel)) rfl
theorem ml_X5_47 : Cond.methodLink RX5 47 yX5_knots ∈ TBL := tbl_in (List.mem_of_getElem? (i := 772) (by decide +kernel)) rfl
theorem im_X5_knots : Cond.instanceMethod yX5_knots ∈ TBL := tbl_in (List.mem_of_getElem? (i := 774) (by decide +kernel)) rfl
theorem sl_X5_knots : Cond.selects yX5_knots.cls yX5_knots yX5_knots ∈ TBL := tbl_in (List.mem_of_getElem? (i := 18) (by decide +kernel)) rfl
theorem cw_X5_first : CW yX5_first cX5_first 7 none 6 := ⟨tbl_in (List.mem_of_getElem? (i := 771) (by decide +kernel)) rfl, tbl_in (List.mem_of_getElem? (i := 70) (by decide +kernel)) rfl, ⟨by decide +kernel, by decide +kernel⟩, by decide +kernel⟩
theorem cw_X5_knots : CW yX5_knots cX5_knots 6 none 5 := ⟨tbl_in (List.mem_of_getElem? (i := 775) (by decide +kernel)) rfl, tbl_in (List.mem_of_getElem? (i := 70) (by decide +kernel)) rfl, ⟨by decide +kernel, by decide +kernel⟩, by decide +kernel⟩
def fX4_initT (N : Nat) (h : Hp) : Option Rs :=
  ((fX1_read N h 22 37 37).bind fun z1 => ((fX0_becomeAs z1.2 7 4 179).bind fun z2 => (some (0, z2.2))))
def fX5_initT (N : Nat) (h : Hp) : Option Rs :=
  ((fX5_first h 0 1 3 (-1) 0 0).bind fun z1 => ((fX5_knots z1.2 0 23 0 12 0).bind fun z2 => ((fX5_first z2.2 1 4 1 0 0 0).bind fun z3 => ((fX5_knots z3.2 1 31 0 0 0).bind fun z4 => ((fX5_first z4.2 2 2 2 (-1) 0 0).bind fun z5 => ((fX5_knots z5.2 2 31 11 0 0).bind fun z6 => ((fX5_first z6.2 3 3 3 (-1) 0 1).bind fun z7 => ((fX5_knots z7.2 3 24 0 13 0).bind fun z8 => ((fX5_first z8.2 4 1 1 (-1) 1 0).bind fun z9 => ((fX5_knots z9.2 4 25 0 0 0).bind fun z10 => ((fX5_first z10.2 5 2 1 4 1 0).bind fun z11 => ((fX5_knots z11.2 5 22 0 0 0).bind fun z12 => ((fX5_first z12.2 6 7 1 5 1 0).bind fun z13 => ((fX5_knots z13.2 6 0 0 0 0).bind fun z14 => ((some (hset z14.2 27 0 7)).bind fun g15 => ((some (hset g15 27 1 2)).bind fun g16 => ((fX5_begins N g16).bind fun z17 => (some (0, z17.2)))))))))))))))))))
set_option maxRecDepth 100000 in
set_option maxHeartbeats 4000000 in
theorem p_X4_initT {w : Wd} {x : Cz} (C : Ok w x cX4_init RX4 900) (hR : OkV w x) (hN : xN x = 1) (N : Nat) (h : Hp) (hL : LX w) (ht : w.2.2.1[22]? = some (2, 37, [])) : PW w x 115 [some (.ref (w.2.1 0))] [.int 37, .ref (w.2.1 22), .ref (w.2.1 2)] h (fX4_initT N h) := by
  unfold fX4_initT
  refine pw_callViq (as := [.ref (w.2.1 22), .int 37]) (rest := []) C dX4_init_115 ml_X4_71 cw_X1_read im_X1_read sl_X1_read (hL 2 _ rfl) rfl ⟨by decide, by decide⟩ (c_X1_read N h 22 37 37 hL ht) rfl rfl (Nat.le_of_ble_eq_true rfl) (fun z1 => ?_)
  refine pw_pop C dX4_init_118 rfl ?_
  refine pw_aload_n C dX4_init_119 rfl rfl ?_
  refine pw_getr (q2 := 6) C (hL 0 _ rfl) rfl (k := 3) (by decide) rfl fl_X4_23 dX4_init_120 ?_
  refine pw_aload_n C dX4_init_123 rfl rfl ?_
  refine pw_getr (q2 := 2) C (hL 0 _ rfl) rfl (k := 2) (by decide) rfl fl_X4_16 dX4_init_124 ?_
  refine pw_getrN (q2 := 3) C (hL 2 _ rfl) rfl (k := 0) (by decide) rfl "ToldInKnots" (by decide +kernel) dX4_init_127 ?_
  refine pw_getrN (q2 := 4) C (hL 3 _ rfl) rfl (k := 0) (by decide) rfl "ToldInKnots" (by decide +kernel) dX4_init_130 ?_
  refine pw_callVvq (as := [.ref (w.2.1 4)]) (rest := []) C dX4_init_133 ml_X4_81 cw_X0_becomeAs im_X0_becomeAs sl_X0_becomeAs (hL 6 _ rfl) rfl ⟨by decide, by decide⟩ (c_X0_becomeAs z1.2 7 4 179 (hL 6 _ rfl) (hL 7 _ rfl) (hL 4 _ rfl)) rfl rfl (Nat.le_of_ble_eq_true rfl) (fun z2 => ?_)
  exact pw_vret C hR dX4_init_136
set_option maxRecDepth 100000 in
set_option maxHeartbeats 4000000 in
theorem p_X5_initT {w : Wd} {x : Cz} (C : Ok w x cX5_init RX5 900) (hR : OkV w x) (hN : xN x = 1) (N : Nat) (h : Hp) (hM : LM w) : PW w x 93 [some (.ref (w.2.1 22))] [] h (fX5_initT N h) := by
  unfold fX5_initT
  refine pw_aload_n C dX5_init_93 rfl rfl ?_
  refine pw_iconst (v := 0) C dX5_init_94 (by decide) ?_
  refine pw_iconst (v := 1) C dX5_init_95 (by decide) ?_
  refine pw_iconst (v := 3) C dX5_init_96 (by decide) ?_
  refine pw_iconst (v := (-1)) C dX5_init_97 (by decide) ?_
  refine pw_iconst (v := 0) C dX5_init_98 (by decide) ?_
  refine pw_iconst (v := 0) C dX5_init_99 (by decide) ?_
  refine pw_callVvq (as := [.int 0, .int 1, .int 3, .int (-1), .int 0, .int 0]) (rest := []) C dX5_init_100 ml_X5_43 cw_X5_first im_X5_first sl_X5_first (hM 22 _ rfl (by decide)) rfl ⟨by decide, by decide⟩ (c_X5_first h 0 1 3 (-1) 0 0 hM) rfl rfl (Nat.le_of_ble_eq_true rfl) (fun z1 => ?_)
  refine pw_aload_n C dX5_init_103 rfl rfl ?_
  refine pw_iconst (v := 0) C dX5_init_104 (by decide) ?_
  refine pw_bipush (v := 23) C dX5_init_105 (by decide) ?_
  refine pw_iconst (v := 0) C dX5_init_107 (by decide) ?_
  refine pw_bipush (v := 12) C dX5_init_108 (by decide) ?_
  refine pw_iconst (v := 0) C dX5_init_110 (by decide) ?_
  refine pw_callVvq (as := [.int 0, .int 23, .int 0, .int 12, .int 0]) (rest := []) C dX5_init_111 ml_X5_47 cw_X5_knots im_X5_knots sl_X5_knots (hM 22 _ rfl (by decide)) rfl ⟨by decide, by decide⟩ (c_X5_knots z1.2 0 23 0 12 0 hM) rfl rfl (Nat.le_of_ble_eq_true rfl) (fun z2 => ?_)
  refine pw_aload_n C dX5_init_114 rfl rfl ?_
  refine pw_iconst (v := 1) C dX5_init_115 (by decide) ?_
  refine pw_iconst (v := 4) C dX5_init_116 (by decide) ?_
  refine pw_iconst (v := 1) C dX5_init_117 (by decide) ?_
  refine pw_iconst (v := 0) C dX5_init_118 (by decide) ?_
  refine pw_iconst (v := 0) C dX5_init_119 (by decide) ?_
  refine pw_iconst (v := 0) C dX5_init_120 (by decide) ?_
  refine pw_callVvq (as := [.int 1, .int 4, .int 1, .int 0, .int 0, .int 0]) (rest := []) C dX5_init_121 ml_X5_43 cw_X5_first im_X5_first sl_X5_first (hM 22 _ rfl (by decide)) rfl ⟨by decide, by decide⟩ (c_X5_first z2.2 1 4 1 0 0 0 hM) rfl rfl (Nat.le_of_ble_eq_true rfl) (fun z3 => ?_)
  refine pw_aload_n C dX5_init_124 rfl rfl ?_
  refine pw_iconst (v := 1) C dX5_init_125 (by decide) ?_
  refine pw_bipush (v := 31) C dX5_init_126 (by decide) ?_
  refine pw_iconst (v := 0) C dX5_init_128 (by decide) ?_
  refine pw_iconst (v := 0) C dX5_init_129 (by decide) ?_
  refine pw_iconst (v := 0) C dX5_init_130 (by decide) ?_
  refine pw_callVvq (as := [.int 1, .int 31, .int 0, .int 0, .int 0]) (rest := []) C dX5_init_131 ml_X5_47 cw_X5_knots im_X5_knots sl_X5_knots (hM 22 _ rfl (by decide)) rfl ⟨by decide, by decide⟩ (c_X5_knots z3.2 1 31 0 0 0 hM) rfl rfl (Nat.le_of_ble_eq_true rfl) (fun z4 => ?_)
  refine pw_aload_n C dX5_init_134 rfl rfl ?_
  refine pw_iconst (v := 2) C dX5_init_135 (by decide) ?_
  refine pw_iconst (v := 2) C dX5_init_136 (by decide) ?_
  refine pw_iconst (v := 2) C dX5_init_137 (by decide) ?_
  refine pw_iconst (v := (-1)) C dX5_init_138 (by decide) ?_
  refine pw_iconst (v := 0) C dX5_init_139 (by decide) ?_
  refine pw_iconst (v := 0) C dX5_init_140 (by decide) ?_
  refine pw_callVvq (as := [.int 2, .int 2, .int 2, .int (-1), .int 0, .int 0]) (rest := []) C dX5_init_141 ml_X5_43 cw_X5_first im_X5_first sl_X5_first (hM 22 _ rfl (by decide)) rfl ⟨by decide, by decide⟩ (c_X5_first z4.2 2 2 2 (-1) 0 0 hM) rfl rfl (Nat.le_of_ble_eq_true rfl) (fun z5 => ?_)
  refine pw_aload_n C dX5_init_144 rfl rfl ?_
  refine pw_iconst (v := 2) C dX5_init_145 (by decide) ?_
  refine pw_bipush (v := 31) C dX5_init_146 (by decide) ?_
  refine pw_bipush (v := 11) C dX5_init_148 (by decide) ?_
  refine pw_iconst (v := 0) C dX5_init_150 (by decide) ?_
  refine pw_iconst (v := 0) C dX5_init_151 (by decide) ?_
  refine pw_callVvq (as := [.int 2, .int 31, .int 11, .int 0, .int 0]) (rest := []) C dX5_init_152 ml_X5_47 cw_X5_knots im_X5_knots sl_X5_knots (hM 22 _ rfl (by decide)) rfl ⟨by decide, by decide⟩ (c_X5_knots z5.2 2 31 11 0 0 hM) rfl rfl (Nat.le_of_ble_eq_true rfl) (fun z6 => ?_)
  refine pw_aload_n C dX5_init_155 rfl rfl ?_
  refine pw_iconst (v := 3) C dX5_init_156 (by decide) ?_
  refine pw_iconst (v := 3) C dX5_init_157 (by decide) ?_
  refine pw_iconst (v := 3) C dX5_init_158 (by decide) ?_
  refine pw_iconst (v := (-1)) C dX5_init_159 (by decide) ?_
  refine pw_iconst (v := 0) C dX5_init_160 (by decide) ?_
  refine pw_iconst (v := 1) C dX5_init_161 (by decide) ?_
  refine pw_callVvq (as := [.int 3, .int 3, .int 3, .int (-1), .int 0, .int 1]) (rest := []) C dX5_init_162 ml_X5_43 cw_X5_first im_X5_first sl_X5_first (hM 22 _ rfl (by decide)) rfl ⟨by decide, by decide⟩ (c_X5_first z6.2 3 3 3 (-1) 0 1 hM) rfl rfl (Nat.le_of_ble_eq_true rfl) (fun z7 => ?_)
  refine pw_aload_n C dX5_init_165 rfl rfl ?_
  refine pw_iconst (v := 3) C dX5_init_166 (by decide) ?_
  refine pw_bipush (v := 24) C dX5_init_167 (by decide) ?_
  refine pw_iconst (v := 0) C dX5_init_169 (by decide) ?_
  refine pw_bipush (v := 13) C dX5_init_170 (by decide) ?_
  refine pw_iconst (v := 0) C dX5_init_172 (by decide) ?_
  refine pw_callVvq (as := [.int 3, .int 24, .int 0, .int 13, .int 0]) (rest := []) C dX5_init_173 ml_X5_47 cw_X5_knots im_X5_knots sl_X5_knots (hM 22 _ rfl (by decide)) rfl ⟨by decide, by decide⟩ (c_X5_knots z7.2 3 24 0 13 0 hM) rfl rfl (Nat.le_of_ble_eq_true rfl) (fun z8 => ?_)
  refine pw_aload_n C dX5_init_176 rfl rfl ?_
  refine pw_iconst (v := 4) C dX5_init_177 (by decide) ?_
  refine pw_iconst (v := 1) C dX5_init_178 (by decide) ?_
  refine pw_iconst (v := 1) C dX5_init_179 (by decide) ?_
  refine pw_iconst (v := (-1)) C dX5_init_180 (by decide) ?_
  refine pw_iconst (v := 1) C dX5_init_181 (by decide) ?_
  refine pw_iconst (v := 0) C dX5_init_182 (by decide) ?_
  refine pw_callVvq (as := [.int 4, .int 1, .int 1, .int (-1), .int 1, .int 0]) (rest := []) C dX5_init_183 ml_X5_43 cw_X5_first im_X5_first sl_X5_first (hM 22 _ rfl (by decide)) rfl ⟨by decide, by decide⟩ (c_X5_first z8.2 4 1 1 (-1) 1 0 hM) rfl rfl (Nat.le_of_ble_eq_true rfl) (fun z9 => ?_)
  refine pw_aload_n C dX5_init_186 rfl rfl ?_
  refine pw_iconst (v := 4) C dX5_init_187 (by decide) ?_
  refine pw_bipush (v := 25) C dX5_init_188 (by decide) ?_
  refine pw_iconst (v := 0) C dX5_init_190 (by decide) ?_
  refine pw_iconst (v := 0) C dX5_init_191 (by decide) ?_
  refine pw_iconst (v := 0) C dX5_init_192 (by decide) ?_
  refine pw_callVvq (as := [.int 4, .int 25, .int 0, .int 0, .int 0]) (rest := []) C dX5_init_193 ml_X5_47 cw_X5_knots im_X5_knots sl_X5_knots (hM 22 _ rfl (by decide)) rfl ⟨by decide, by decide⟩ (c_X5_knots z9.2 4 25 0 0 0 hM) rfl rfl (Nat.le_of_ble_eq_true rfl) (fun z10 => ?_)
  refine pw_aload_n C dX5_init_196 rfl rfl ?_
  refine pw_iconst (v := 5) C dX5_init_197 (by decide) ?_
  refine pw_iconst (v := 2) C dX5_init_198 (by decide) ?_
  refine pw_iconst (v := 1) C dX5_init_199 (by decide) ?_
  refine pw_iconst (v := 4) C dX5_init_200 (by decide) ?_
  refine pw_iconst (v := 1) C dX5_init_201 (by decide) ?_
  refine pw_iconst (v := 0) C dX5_init_202 (by decide) ?_
  refine pw_callVvq (as := [.int 5, .int 2, .int 1, .int 4, .int 1, .int 0]) (rest := []) C dX5_init_203 ml_X5_43 cw_X5_first im_X5_first sl_X5_first (hM 22 _ rfl (by decide)) rfl ⟨by decide, by decide⟩ (c_X5_first z10.2 5 2 1 4 1 0 hM) rfl rfl (Nat.le_of_ble_eq_true rfl) (fun z11 => ?_)
  refine pw_aload_n C dX5_init_206 rfl rfl ?_
  refine pw_iconst (v := 5) C dX5_init_207 (by decide) ?_
  refine pw_bipush (v := 22) C dX5_init_208 (by decide) ?_
  refine pw_iconst (v := 0) C dX5_init_210 (by decide) ?_
  refine pw_iconst (v := 0) C dX5_init_211 (by decide) ?_
  refine pw_iconst (v := 0) C dX5_init_212 (by decide) ?_
  refine pw_callVvq (as := [.int 5, .int 22, .int 0, .int 0, .int 0]) (rest := []) C dX5_init_213 ml_X5_47 cw_X5_knots im_X5_knots sl_X5_knots (hM 22 _ rfl (by decide)) rfl ⟨by decide, by decide⟩ (c_X5_knots z11.2 5 22 0 0 0 hM) rfl rfl (Nat.le_of_ble_eq_true rfl) (fun z12 => ?_)
  refine pw_aload_n C dX5_init_216 rfl rfl ?_
  refine pw_bipush (v := 6) C dX5_init_217 (by decide) ?_
  refine pw_bipush (v := 7) C dX5_init_219 (by decide) ?_
  refine pw_iconst (v := 1) C dX5_init_221 (by decide) ?_
  refine pw_iconst (v := 5) C dX5_init_222 (by decide) ?_
  refine pw_iconst (v := 1) C dX5_init_223 (by decide) ?_
  refine pw_iconst (v := 0) C dX5_init_224 (by decide) ?_
  refine pw_callVvq (as := [.int 6, .int 7, .int 1, .int 5, .int 1, .int 0]) (rest := []) C dX5_init_225 ml_X5_43 cw_X5_first im_X5_first sl_X5_first (hM 22 _ rfl (by decide)) rfl ⟨by decide, by decide⟩ (c_X5_first z12.2 6 7 1 5 1 0 hM) rfl rfl (Nat.le_of_ble_eq_true rfl) (fun z13 => ?_)
  refine pw_aload_n C dX5_init_228 rfl rfl ?_
  refine pw_bipush (v := 6) C dX5_init_229 (by decide) ?_
  refine pw_iconst (v := 0) C dX5_init_231 (by decide) ?_
  refine pw_iconst (v := 0) C dX5_init_232 (by decide) ?_
  refine pw_iconst (v := 0) C dX5_init_233 (by decide) ?_
  refine pw_iconst (v := 0) C dX5_init_234 (by decide) ?_
  refine pw_callVvq (as := [.int 6, .int 0, .int 0, .int 0, .int 0]) (rest := []) C dX5_init_235 ml_X5_47 cw_X5_knots im_X5_knots sl_X5_knots (hM 22 _ rfl (by decide)) rfl ⟨by decide, by decide⟩ (c_X5_knots z13.2 6 0 0 0 0 hM) rfl rfl (Nat.le_of_ble_eq_true rfl) (fun z14 => ?_)
  refine pw_aload_n C dX5_init_238 rfl rfl ?_
  refine pw_getr (q2 := 27) C (hM 22 _ rfl (by decide)) rfl (k := 7) (by decide) rfl fl_X5_22 dX5_init_239 ?_
  refine pw_iconst (v := 0) C dX5_init_242 (by decide) ?_
  refine pw_bipush (v := 7) C dX5_init_243 (by decide) ?_
  refine pw_iastc (k := 0) C (hM 27 _ rfl (by decide)) (by decide +kernel) dX5_init_245 ?_
  refine pw_nameh (fun g15 => ?_)
  refine pw_aload_n C dX5_init_246 rfl rfl ?_
  refine pw_getr (q2 := 27) C (hM 22 _ rfl (by decide)) rfl (k := 7) (by decide) rfl fl_X5_22 dX5_init_247 ?_
  refine pw_iconst (v := 1) C dX5_init_250 (by decide) ?_
  refine pw_iconst (v := 2) C dX5_init_251 (by decide) ?_
  refine pw_iastc (k := 1) C (hM 27 _ rfl (by decide)) (by decide +kernel) dX5_init_252 ?_
  refine pw_nameh (fun g16 => ?_)
  refine pw_aload_n C dX5_init_253 rfl rfl ?_
  refine pw_callVvq (as := []) (rest := []) C dX5_init_254 ml_X5_51 cw_X5_begins im_X5_begins sl_X5_begins (hM 22 _ rfl (by decide)) rfl ⟨by decide, by decide⟩ (c_X5_begins N g16 hM) rfl rfl (Nat.le_of_ble_eq_true rfl) (fun z17 => ?_)
  exact pw_vret C hR dX5_init_257
