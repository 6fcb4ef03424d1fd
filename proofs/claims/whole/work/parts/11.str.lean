theorem s_cw_coder : CW yJ0_coder_7d493 cJ0_coder_7d493 1 (some .byte) 0 := ⟨tbl_in (List.mem_of_getElem? (i := 227) (by decide +kernel)) rfl, tbl_in (List.mem_of_getElem? (i := 64) (by decide +kernel)) rfl, ⟨by decide +kernel, by decide +kernel⟩, by decide +kernel⟩
theorem s_cw_isL : CW yJ0_isLatin1_aae02 cJ0_isLatin1_aae02 1 (some .boolean) 0 := ⟨tbl_in (List.mem_of_getElem? (i := 182) (by decide +kernel)) rfl, s_cw_coder.2.1, ⟨by decide +kernel, by decide +kernel⟩, by decide +kernel⟩
theorem s_cw_len : CW yJ0_length_8abf5 cJ0_length_8abf5 1 (some .int) 0 := ⟨tbl_in (List.mem_of_getElem? (i := 223) (by decide +kernel)) rfl, s_cw_coder.2.1, ⟨by decide +kernel, by decide +kernel⟩, by decide +kernel⟩
theorem s_cw_tca : CW yJ0_toCharArray_70df3 cJ0_toCharArray_70df3 1 (some (.array .char)) 0 := ⟨tbl_in (List.mem_of_getElem? (i := 178) (by decide +kernel)) rfl, s_cw_coder.2.1, ⟨by decide +kernel, by decide +kernel⟩, by decide +kernel⟩
theorem s_cw_toc : CW yJ1_toChars_9d188 cJ1_toChars_9d188 2 (some (.array .char)) 1 := ⟨tbl_in (List.mem_of_getElem? (i := 187) (by decide +kernel)) rfl, tbl_in (List.mem_of_getElem? (i := 65) (by decide +kernel)) rfl, ⟨by decide +kernel, by decide +kernel⟩, by decide +kernel⟩
theorem s_cw_inf : CW yJ1_inflate_03870 cJ1_inflate_03870 6 none 5 := ⟨tbl_in (List.mem_of_getElem? (i := 190) (by decide +kernel)) rfl, s_cw_toc.2.1, ⟨by decide +kernel, by decide +kernel⟩, by decide +kernel⟩
theorem s_ml_coder : Cond.methodLink RJ0 335 yJ0_coder_7d493 ∈ TBL := tbl_in (List.mem_of_getElem? (i := 224) (by decide +kernel)) rfl
theorem s_im_coder : Cond.instanceMethod yJ0_coder_7d493 ∈ TBL := tbl_in (List.mem_of_getElem? (i := 225) (by decide +kernel)) rfl
theorem s_sl_coder : Cond.selects yJ0_coder_7d493.cls yJ0_coder_7d493 yJ0_coder_7d493 ∈ TBL := tbl_in (List.mem_of_getElem? (i := 226) (by decide +kernel)) rfl
theorem s_ml_isL : Cond.methodLink RJ0 492 yJ0_isLatin1_aae02 ∈ TBL := tbl_in (List.mem_of_getElem? (i := 179) (by decide +kernel)) rfl
theorem s_im_isL : Cond.instanceMethod yJ0_isLatin1_aae02 ∈ TBL := tbl_in (List.mem_of_getElem? (i := 180) (by decide +kernel)) rfl
theorem s_sl_isL : Cond.selects yJ0_isLatin1_aae02.cls yJ0_isLatin1_aae02 yJ0_isLatin1_aae02 ∈ TBL := tbl_in (List.mem_of_getElem? (i := 181) (by decide +kernel)) rfl
theorem s_ml_toc : Cond.methodLink RJ0 299 yJ1_toChars_9d188 ∈ TBL := tbl_in (List.mem_of_getElem? (i := 185) (by decide +kernel)) rfl
theorem s_st_toc : Cond.static yJ1_toChars_9d188 ∈ TBL := tbl_in (List.mem_of_getElem? (i := 186) (by decide +kernel)) rfl
theorem s_ml_inf : Cond.methodLink RJ1 13 yJ1_inflate_03870 ∈ TBL := tbl_in (List.mem_of_getElem? (i := 188) (by decide +kernel)) rfl
theorem s_st_inf : Cond.static yJ1_inflate_03870 ∈ TBL := tbl_in (List.mem_of_getElem? (i := 189) (by decide +kernel)) rfl
theorem s_fl_cs : Cond.fieldLink RJ0 38 "java/lang/String" "COMPACT_STRINGS" "Z" ∈ TBL := tbl_in (List.mem_of_getElem? (i := 183) (by decide +kernel)) rfl
theorem s_fl_co : Cond.fieldLink RJ0 15 "java/lang/String" "coder" "B" ∈ TBL := tbl_in (List.mem_of_getElem? (i := 1142) (by decide +kernel)) rfl
theorem s_fl_va : Cond.fieldLink RJ0 9 "java/lang/String" "value" "[B" ∈ TBL := tbl_in (List.mem_of_getElem? (i := 1143) (by decide +kernel)) rfl
/-- the first text, its letters -/
def FTL : List Int32 := [91, 49, 115, 50, 46, 108, 51, 40, 52, 101, 41, 50, 115, 49, 101, 94, 51, 115, 51, 46, 108, 52, 93, 91, 49, 108, 53, 40, 50, 108, 50, 40, 55, 46, 41, 41, 93]
def ft (j : Nat) : Int32 := FTL.getD j 0
theorem ft_char : ∀ j, j < 37 → vp_nar .char ((ft j &&& 255).toUInt32 % 65536).toInt32 = ft j := by decide +kernel
def SJ (sk sv : Nat) (A : Nat → Prop) (U : State) : Prop := va_O "java/lang/String" sk A U U.heap ∧ va_OF "java/lang/String" "coder" "B" (.int 0) sk A U U.heap ∧ va_OF "java/lang/String" "value" "[B" (.ref sv) sk A U U.heap ∧ va_T .byte sv 37 (fun j => .int (ft j)) A U U.heap ∧ va_Z "java/lang/String" "COMPACT_STRINGS" "Z" (.int 1) A U U.heap
theorem SJ.narrow {sk sv : Nat} {A B : Nat → Prop} {U : State} (h : SJ sk sv A U) (hAB : ∀ q, B q → A q) : SJ sk sv B U := ⟨h.1.narrow hAB, h.2.1.narrow hAB, h.2.2.1.narrow hAB, h.2.2.2.1.narrow hAB, h.2.2.2.2.narrow hAB⟩
theorem SJ.call {sk sv : Nat} {A : Nat → Prop} {U : State} (h : SJ sk sv A U) (a : Array Value) (g : JFrame) (mk : MethodId) : SJ sk sv A (U.calling g mk a) :=
  ⟨va_O.moved (u := U) (U := U.calling g mk a) (Vm.Alike.refl U.vm) h.1, va_OF.moved (u := U) (U := U.calling g mk a) (Vm.Alike.refl U.vm) h.2.1, va_OF.moved (u := U) (U := U.calling g mk a) (Vm.Alike.refl U.vm) h.2.2.1, va_T.moved (u := U) (U := U.calling g mk a) (Vm.Alike.refl U.vm) h.2.2.2.1, va_Z.moved (u := U) (U := U.calling g mk a) (Vm.Alike.refl U.vm) h.2.2.2.2⟩
theorem SJ.at {sk sv : Nat} {A : Nat → Prop} {s U : State} {H : Heap} {locs : List Loc} (h : SJ sk sv A s) (hS : va_S A s.heap H locs) (hU : U.heap = H) (hW : s.WarmedH U.vm) : SJ sk sv A U := by
  have kp : ∀ a : Nat, a < s.heap.size → ¬ A a → U.heap[a]? = s.heap[a]? := fun a h1 h2 => by rw [hU]; exact hS.2.1 a h1 h2
  exact ⟨va_O.moved hW.alike (h.1.kept kp), va_OF.moved hW.alike (h.2.1.kept kp), va_OF.moved hW.alike (h.2.2.1.kept kp), va_T.moved hW.alike (h.2.2.2.1.kept kp), va_Z.moved hW.alike (h.2.2.2.2.kept kp)⟩
def noA : Nat → Prop := fun _ => False
theorem S_noA {A : Nat → Prop} {H0 H : Heap} {locs : List Loc} (h : va_S noA H0 H locs) : locs = [] := by
  cases locs with
  | nil => rfl
  | cons a l => exact (h.2.2 a List.mem_cons_self).elim
abbrev rJ (d : Nat) : Room := { frames := d, cells := 0, slots := 0, locals := 40 * d }
def ReadM (l : Launch) (y : MethodName) (b : ByteArray) (n : Nat) (rt : FieldType) (d : Nat) (sk sv : Nat) (v : Int32) : Prop := Met l y (.code y b n (some rt) :: TBL) (rJ d) (va_Pc [.ref sk] (SJ sk sv noA)) (va_Qi (fun r (_ : Unit) => r = v) (fun _ _ => True) noA) 0 0 noA
set_option maxRecDepth 100000 in
set_option maxHeartbeats 4000000 in
theorem c_coder (l : Launch) (sk sv : Nat) : ReadM l yJ0_coder_7d493 cJ0_coder_7d493 1 .byte 0 sk sv 0 := by
  refine va_MetF (cc := cJ0_coder_7d493) (maxL := 1) (ret := some .byte) (by decide +kernel) rfl ?_
  intro p e s m args below meth c s₁ B hml hv
  obtain ⟨rfl, hJ⟩ := hv
  have hx := B.exec
  have hb := B.bytes
  have hr := B.returns
  have hts0 := atoms_spec (ws := .code yJ0_coder_7d493 cJ0_coder_7d493 1 (some .byte) :: TBL) B.pre
  have hts : ∀ w ∈ TBL, w.before #[.ref sk] s = true := fun w hw => hts0 w (List.mem_cons_of_mem _ hw)
  have hown : s.vm.findClass RJ0 = some m.cls := findClass_of_methodNamed B.named
  have hS : va_S noA s.heap s.heap [] := va_S.rf
  have hl := lv_entry ([.ref sk]) (n := 1) (Nat.le_of_ble_eq_true rfl)
  rw [lg_entry_eq]
  generalize (lg_sl ([.ref sk]) ++ List.replicate (1 - (lg_sl ([.ref sk])).length) Slot.unset).toArray = ls at hl ⊢
  have hl : lv_has ls 1 [(0, .ref sk)] := hl
  refine va_gets hx hb hJ.2.2.2.2 hS hown (hts _ s_fl_cs) (fun _ h9 => h9) dJ0_coder_7d493_0 ?_
  refine lv_if_eq (tgt := 13) hx hb dJ0_coder_7d493_3 (by decide) (fun c => absurd c (by decide)) (fun _ => ?_)
  refine lv_aload_n hx hb dJ0_coder_7d493_6 rfl (lv_at hl 0 rfl) ?_
  refine vk_getf hx hb hJ.2.1 hS hown (hts _ s_fl_co) (fun _ h9 => h9) dJ0_coder_7d493_7 ?_
  refine lv_goto (tgt := 14) hx hb dJ0_coder_7d493_10 (by decide) ?_
  exact W.zret hx hb hr rfl (fun t ht hW => ⟨⟨0, (), rfl, rfl, trivial⟩, hS.F ht⟩) hS.2.2 dJ0_coder_7d493_14 B.notSynchronized
set_option maxRecDepth 100000 in
set_option maxHeartbeats 4000000 in
theorem c_isL (l : Launch) (sk sv : Nat) : ReadM l yJ0_isLatin1_aae02 cJ0_isLatin1_aae02 1 .boolean 0 sk sv 1 := by
  refine va_MetF (cc := cJ0_isLatin1_aae02) (maxL := 1) (ret := some .boolean) (by decide +kernel) rfl ?_
  intro p e s m args below meth c s₁ B hml hv
  obtain ⟨rfl, hJ⟩ := hv
  have hx := B.exec
  have hb := B.bytes
  have hr := B.returns
  have hts0 := atoms_spec (ws := .code yJ0_isLatin1_aae02 cJ0_isLatin1_aae02 1 (some .boolean) :: TBL) B.pre
  have hts : ∀ w ∈ TBL, w.before #[.ref sk] s = true := fun w hw => hts0 w (List.mem_cons_of_mem _ hw)
  have hown : s.vm.findClass RJ0 = some m.cls := findClass_of_methodNamed B.named
  have hS : va_S noA s.heap s.heap [] := va_S.rf
  have hl := lv_entry ([.ref sk]) (n := 1) (Nat.le_of_ble_eq_true rfl)
  rw [lg_entry_eq]
  generalize (lg_sl ([.ref sk]) ++ List.replicate (1 - (lg_sl ([.ref sk])).length) Slot.unset).toArray = ls at hl ⊢
  have hl : lv_has ls 1 [(0, .ref sk)] := hl
  refine va_gets hx hb hJ.2.2.2.2 hS hown (hts _ s_fl_cs) (fun _ h9 => h9) dJ0_isLatin1_aae02_0 ?_
  refine lv_if_eq (tgt := 17) hx hb dJ0_isLatin1_aae02_3 (by decide) (fun c => absurd c (by decide)) (fun _ => ?_)
  refine lv_aload_n hx hb dJ0_isLatin1_aae02_6 rfl (lv_at hl 0 rfl) ?_
  refine vk_getf hx hb hJ.2.1 hS hown (hts _ s_fl_co) (fun _ h9 => h9) dJ0_isLatin1_aae02_7 ?_
  refine lv_if_ne (tgt := 17) hx hb dJ0_isLatin1_aae02_10 (by decide) (fun c => absurd rfl c) (fun _ => ?_)
  refine lv_iconst (v := 1) hx hb dJ0_isLatin1_aae02_13 (by decide) ?_
  refine lv_goto (tgt := 18) hx hb dJ0_isLatin1_aae02_14 (by decide) ?_
  exact W.zret hx hb hr rfl (fun t ht hW => ⟨⟨1, (), rfl, rfl, trivial⟩, hS.F ht⟩) hS.2.2 dJ0_isLatin1_aae02_18 B.notSynchronized
section SCL
variable {p : Program} {l : Launch} {e : Env} {R : Room} {s : State} {m : MethodId} {args : Array Value} {below : List Frame} {meth : Method} {c : Code} {H : Heap} {locs : List Loc} {cells slots : Nat} {Q : State → Prop}
variable {cc : ByteArray} {pc : Nat} {ls : Array Slot} {rest : List Value} {A : Nat → Prop} {y : MethodName} {b : ByteArray} {n d index nL sk sv : Nat} {rt : FieldType} {v : Int32} {own : String} {ls0 : List (Nat × Value)}
/-- a read of the text's own -/
theorem aw_read (hx : p.tables.exec = Jvm.exec) (hb : c.code = cc) (hml : c.maxLocals = nL) (hown : s.vm.findClass own = some m.cls) (hts : ∀ w ∈ TBL, w.before args s = true) (hM : ReadM l y b n rt d sk sv v) (hcls : y.cls = "java/lang/String") (hJ : SJ sk sv A s) (hcw : CW y b n (some rt) 0) (hl : Cond.methodLink own index y ∈ TBL) (hin : Cond.instanceMethod y ∈ TBL) (hsel : Cond.selects y.cls y y ∈ TBL) (hR : d + 1 ≤ R.frames ∧ 8 + (n + 11) + 40 * d ≤ R.locals)
    (hS : va_S A s.heap H locs) (hls : lv_has ls nL ls0) (hcat : (rest.map fun v => v.category).sum ≤ 8) (hdg : decode cc pc = .ok (.invokevirtual index, 3)) (hf : cells ≤ R.cells ∧ slots ≤ R.slots)
    (kk : ∀ (H1 : Heap) (locs1 : List Loc), H.size ≤ H1.size → (∀ q : Nat, q < H.size → H1[q]? = H[q]?) → va_S A s.heap H1 locs1 → W p l e R s m args below meth c H1 locs1 cells slots Q (F0 m (pc + 3) ls (.int v :: rest))) : W p l e R s m args below meth c H locs cells slots Q (F0 m pc ls (.ref sk :: rest)) := by
  have hrc : ∃ cell : Cell, H[sk]? = some cell ∧ cell.vm.isStatics = false ∧ s.vm.findClass y.cls = some cell.cls := by
    obtain ⟨cell, h1, h2, h3, -⟩ := hJ.1.kept hS.2.1
    exact ⟨cell, h1, h2, by rw [hcls]; exact h3⟩
  refine va_calli (va_runV (C := y.cls) (As := []) (rest := rest) ⟨hx, hb, hml, hown, hts⟩ hM ⟨callB_of 0 hts (cw_good hcw) rfl rfl rfl (hts _ hcw.2.1) (hts _ hl) ⟨hcw.2.2.1.1, hcw.2.2.1.2, hcw.2.2.2⟩ hR, hts _ hin, hts _ hsel⟩ ⟨fun a U g mk h => ⟨h.1, h.2.call a g mk⟩, hrc, fun U hU hW => ⟨rfl, (hJ.at hS hU hW).narrow (fun _ h => h.elim)⟩⟩ rfl rfl hls.1 rfl (lv_room hcat) hdg hf) hS (fun q _ h => h.elim) (fun q h => h.elim) (fun r u t H1 locs1 ht hvm hp hB hz1 hk1 hS1 => ?_)
  subst hp
  exact kk H1 locs1 hz1 (fun q hq => hk1 q hq (fun h => h)) hS1
end SCL
set_option maxRecDepth 100000 in
set_option maxHeartbeats 4000000 in
theorem c_slen (l : Launch) (sk sv : Nat) : ReadM l yJ0_length_8abf5 cJ0_length_8abf5 1 .int 2 sk sv 37 := by
  refine va_MetF (cc := cJ0_length_8abf5) (maxL := 1) (ret := some .int) (by decide +kernel) rfl ?_
  intro p e s m args below meth c s₁ B hml hv
  obtain ⟨rfl, hJ⟩ := hv
  have hx := B.exec
  have hb := B.bytes
  have hr := B.returns
  have hts0 := atoms_spec (ws := .code yJ0_length_8abf5 cJ0_length_8abf5 1 (some .int) :: TBL) B.pre
  have hts : ∀ w ∈ TBL, w.before #[.ref sk] s = true := fun w hw => hts0 w (List.mem_cons_of_mem _ hw)
  have hown : s.vm.findClass RJ0 = some m.cls := findClass_of_methodNamed B.named
  have hS : va_S noA s.heap s.heap [] := va_S.rf
  have hl := lv_entry ([.ref sk]) (n := 1) (Nat.le_of_ble_eq_true rfl)
  rw [lg_entry_eq]
  generalize (lg_sl ([.ref sk]) ++ List.replicate (1 - (lg_sl ([.ref sk])).length) Slot.unset).toArray = ls at hl ⊢
  have hl : lv_has ls 1 [(0, .ref sk)] := hl
  refine lv_aload_n hx hb dJ0_length_8abf5_0 rfl (lv_at hl 0 rfl) ?_
  refine vk_getf hx hb hJ.2.2.1 hS hown (hts _ s_fl_va) (fun _ h9 => h9) dJ0_length_8abf5_1 ?_
  refine va_tlen hx hb hJ.2.2.2.1 hS (v := 37) rfl dJ0_length_8abf5_4 ?_
  refine lv_aload_n hx hb dJ0_length_8abf5_5 rfl (lv_at hl 0 rfl) ?_
  refine aw_read hx hb hml hown hts (c_coder l sk sv) rfl hJ s_cw_coder s_ml_coder s_im_coder s_sl_coder ⟨Nat.le_of_ble_eq_true rfl, Nat.le_of_ble_eq_true rfl⟩ hS hl (Nat.le_of_ble_eq_true rfl) dJ0_length_8abf5_6 ⟨Nat.le_of_ble_eq_true rfl, Nat.le_of_ble_eq_true rfl⟩ (fun H1 locs1 hz hk hS => ?_)
  refine lv_ishr hx hb dJ0_length_8abf5_9 ?_
  exact W.iret (v := (37 : Int32) >>> (0 &&& 31)) hx hb hr (fun t ht hW => ⟨⟨(37 : Int32) >>> (0 &&& 31), (), rfl, by decide, trivial⟩, hS.F ht⟩) hS.2.2 dJ0_length_8abf5_10 B.notSynchronized
/-- the letters that are there after j steps -/
def ftU (f0 : Nat → Int32) (j : Nat) : Nat → Int32 := fun i => if i < j then ft i else f0 i
theorem ftU_s (f0 : Nat → Int32) (j : Nat) : upd (ftU f0 j) j (ft j) = ftU f0 (j + 1) := by
  funext i
  unfold upd ftU
  by_cases h : i = j
  · subst h; simp
  · by_cases h2 : i < j
    · simp [h, h2, Nat.lt_succ_of_lt h2]
    · have : ¬ i < j + 1 := by omega
      simp [h, h2, this]
set_option maxRecDepth 100000 in
set_option maxHeartbeats 4000000 in
theorem c_inflate (l : Launch) (D : va_G) (cI cC : ClassId) (sk sv q0 sz : Nat) (f0 : Nat → Int32) : Met l yJ1_inflate_03870 (.code yJ1_inflate_03870 cJ1_inflate_03870 6 none :: TBL) (rJ 0) (va_Pc [.ref sv, .int 0, .ref q0, .int 0, .int 37] (fun U => U.heap.size = sz ∧ va_P D vwCl [(q0, .inl (cC, 37, .inl f0))] U.heap ∧ va_K D vwCl (tys2 cI cC) U ∧ va_D (fun _ => True) [(q0, .inl (cC, 37, .inl f0))] ∧ SJ sk sv (va_A [(q0, .inl (cC, 37, .inl f0))] sz) U)) (va_Qv (fun _ : Unit => True) (fun _ t => va_P D vwCl [(q0, .inl (cC, 37, .inl (ftU f0 37)))] t.heap ∧ va_D (va_A [(q0, .inl (cC, 37, .inl f0))] sz) [(q0, .inl (cC, 37, .inl (ftU f0 37)))]) (va_A [(q0, .inl (cC, 37, .inl f0))] sz)) 0 0 (va_A [(q0, .inl (cC, 37, .inl f0))] sz) := by
  refine va_MetF (cc := cJ1_inflate_03870) (maxL := 6) (ret := none) (by decide +kernel) rfl ?_
  intro p e s m args below meth c s₁ B hml hv
  obtain ⟨rfl, hsz, hP, hK, hD0, hJ⟩ := hv
  have hx := B.exec
  have hb := B.bytes
  have hr := B.returns
  subst hsz
  have hD := hD0.self (sz := s.heap.size)
  generalize va_A [(q0, .inl (cC, 37, .inl f0))] s.heap.size = A at hD hJ ⊢
  have hS : va_S A s.heap s.heap [] := va_S.rf
  have hl := lv_entry ([.ref sv, .int 0, .ref q0, .int 0, .int 37]) (n := 6) (Nat.le_of_ble_eq_true rfl)
  rw [lg_entry_eq]
  generalize (lg_sl ([.ref sv, .int 0, .ref q0, .int 0, .int 37]) ++ List.replicate (6 - (lg_sl ([.ref sv, .int 0, .ref q0, .int 0, .int 37])).length) Slot.unset).toArray = ls at hl ⊢
  have hl : lv_has ls 6 [(0, .ref sv), (1, .int 0), (2, .ref q0), (3, .int 0), (4, .int 37)] := hl
  refine lv_iconst (v := 0) hx hb dJ1_inflate_03870_0 (by decide) ?_
  refine lv_istore (lv' := [(5, .int 0), (0, .ref sv), (1, .int 0), (2, .ref q0), (3, .int 0), (4, .int 37)]) hx hb dJ1_inflate_03870_1 hl (by decide) rfl (fun ls hl => ?_)
  have key : ∀ (n j : Nat), 37 < j + n → j ≤ 37 → ∀ (H : Heap) (locs : List Loc) (ls : Array Slot), va_P D vwCl [(q0, .inl (cC, 37, .inl (ftU f0 j)))] H → va_D A [(q0, .inl (cC, 37, .inl (ftU f0 j)))] → va_S A s.heap H locs → lv_has ls 6 [(5, .int (nI j)), (0, .ref sv), (1, .int (nI j)), (2, .ref q0), (3, .int (nI j)), (4, .int 37)] → W p l e (rJ 0) s m #[.ref sv, .int 0, .ref q0, .int 0, .int 37] below meth c H locs 0 0 (MQ below (va_Qv (fun _ : Unit => True) (fun _ t => va_P D vwCl [(q0, .inl (cC, 37, .inl (ftU f0 37)))] t.heap ∧ va_D A [(q0, .inl (cC, 37, .inl (ftU f0 37)))]) A) #[.ref sv, .int 0, .ref q0, .int 0, .int 37] s 0 0 A) (F0 m 3 ls []) := by
    intro n
    induction n with
    | zero => intro j h1 h2; omega
    | succ n ih =>
      intro j h1 h2 H locs ls hP hD hS hl
      refine lv_iload hx hb dJ1_inflate_03870_3 (lv_at hl 0 rfl) ?_
      refine lv_iload hx hb dJ1_inflate_03870_5 (lv_at hl 5 rfl) ?_
      refine lv_icmp_ge (tgt := 33) hx hb dJ1_inflate_03870_7 (by decide) (fun c1 => ?_) (fun c1 => ?_)
      · have hj : j = 37 := by
          rcases Nat.lt_or_ge j 37 with q | q
          · exact absurd c1 (nI_ge (b := 37) q (by omega))
          · omega
        subst hj
        exact W.vret hx hb hr (fun t ht hW => ⟨⟨(), rfl, trivial, by rw [ht]; exact hP, hD⟩, hS.F ht⟩) hS.2.2 dJ1_inflate_03870_33 B.notSynchronized
      · have hj : j < 37 := by
          rcases Nat.lt_or_ge j 37 with q | q
          · exact q
          · exact absurd (nI_le (a := 37) q (by omega)) c1
        have hcl : (nI j).toNatClampNeg = j := nI_clamp (by omega)
        refine lv_aload_n hx hb dJ1_inflate_03870_10 rfl (lv_at hl 3 rfl) ?_
        refine lv_iload_n hx hb dJ1_inflate_03870_11 rfl (lv_at hl 4 rfl) ?_
        refine lv_iinc (v := nI (j + 1)) (lv' := [(3, .int (nI (j + 1))), (5, .int (nI j)), (0, .ref sv), (1, .int (nI j)), (2, .ref q0), (4, .int 37)]) hx hb dJ1_inflate_03870_12 hl (k := 4) rfl (nI_1 j) (by decide) rfl (fun ls hl => ?_)
        refine lv_aload_n hx hb dJ1_inflate_03870_15 rfl (lv_at hl 2 rfl) ?_
        refine lv_iload_n hx hb dJ1_inflate_03870_16 rfl (lv_at hl 3 rfl) ?_
        refine lv_iinc (v := nI (j + 1)) (lv' := [(1, .int (nI (j + 1))), (3, .int (nI (j + 1))), (5, .int (nI j)), (0, .ref sv), (2, .ref q0), (4, .int 37)]) hx hb dJ1_inflate_03870_17 hl (k := 3) rfl (nI_1 j) (by decide) rfl (fun ls hl => ?_)
        refine va_tb hx hb hJ.2.2.2.1 hS (vp_in_nI hj (by omega)) (v := .int (ft j)) (by rw [hcl]) dJ1_inflate_03870_20 ?_
        refine lv_sipush (v := 255) hx hb dJ1_inflate_03870_21 (by decide) ?_
        refine lv_iand hx hb dJ1_inflate_03870_24 ?_
        refine lv_i2c hx hb dJ1_inflate_03870_25 rfl ?_
        refine va_cast hx hb hK hP hD hS 0 1 rfl rfl (vp_in_nI hj (by omega)) dJ1_inflate_03870_26 (fun H locs hP hD hS => ?_)
        rw [hcl, ft_char j hj, ftU_s] at hP hD
        refine lv_iinc (v := nI (j + 1)) (lv' := [(5, .int (nI (j + 1))), (1, .int (nI (j + 1))), (3, .int (nI (j + 1))), (0, .ref sv), (2, .ref q0), (4, .int 37)]) hx hb dJ1_inflate_03870_27 hl (k := 2) rfl (nI_1 j) (by decide) rfl (fun ls hl => ?_)
        refine lv_goto (tgt := 3) hx hb dJ1_inflate_03870_30 (by decide) ?_
        exact ih (j + 1) (by omega) (by omega) H locs ls hP hD hS (lv_sub hl [0, 3, 1, 4, 2, 5] rfl)
  have e0 : ftU f0 0 = f0 := by funext i; unfold ftU; simp
  exact key 38 0 (by omega) (by omega) _ _ ls (by rw [e0]; exact hP) (by rw [e0]; exact hD) hS hl
set_option maxRecDepth 100000 in
set_option maxHeartbeats 4000000 in
theorem c_toChars (l : Launch) (D : va_G) (cI cC : ClassId) (sk sv sz : Nat) : Met l yJ1_toChars_9d188 (.code yJ1_toChars_9d188 cJ1_toChars_9d188 2 (some (.array .char)) :: TBL) { frames := 1, cells := 1, slots := 37, locals := 40 } (va_Pc [.ref sv] (fun U => U.heap.size = sz ∧ va_K D vwCl (tys2 cI cC) U ∧ SJ sk sv (va_A [] sz) U)) (va_Qr (fun _ : Unit => True) (fun _ a t => va_P D vwCl [(a, .inl (cC, 37, .inl (ftU (fun _ => 0) 37)))] t.heap ∧ va_D (va_A [] sz) [(a, .inl (cC, 37, .inl (ftU (fun _ => 0) 37)))]) (va_A [] sz)) 1 37 (va_A [] sz) := by
  refine va_MetF (cc := cJ1_toChars_9d188) (maxL := 2) (ret := some (.array .char)) (by decide +kernel) rfl ?_
  intro p e s m args below meth c s₁ B hml hv
  obtain ⟨rfl, hsz, hK, hJ⟩ := hv
  have hx := B.exec
  have hb := B.bytes
  have hr := B.returns
  have hts0 := atoms_spec (ws := .code yJ1_toChars_9d188 cJ1_toChars_9d188 2 (some (.array .char)) :: TBL) B.pre
  have hts : ∀ w ∈ TBL, w.before #[.ref sv] s = true := fun w hw => hts0 w (List.mem_cons_of_mem _ hw)
  have hown : s.vm.findClass RJ1 = some m.cls := findClass_of_methodNamed B.named
  subst hsz
  have hA : ∀ q : Nat, s.heap.size ≤ q → va_A [] s.heap.size q := fun q h => Or.inr h
  generalize va_A [] s.heap.size = A at hA hJ ⊢
  have hS : va_S A s.heap s.heap [] := va_S.rf
  have hP : va_P D vwCl [] s.heap := fun k q h => by simp at h
  have hD : va_D A [] := ⟨fun i j p q h => by simp at h, fun k q h => by simp at h⟩
  have hl := lv_entry ([.ref sv]) (n := 2) (Nat.le_of_ble_eq_true rfl)
  rw [lg_entry_eq]
  generalize (lg_sl ([.ref sv]) ++ List.replicate (2 - (lg_sl ([.ref sv])).length) Slot.unset).toArray = ls at hl ⊢
  have hl : lv_has ls 2 [(0, .ref sv)] := hl
  refine lv_aload_n hx hb dJ1_toChars_9d188_0 rfl (lv_at hl 0 rfl) ?_
  refine va_tlen hx hb hJ.2.2.2.1 hS (v := 37) rfl dJ1_toChars_9d188_1 ?_
  refine aw_newc hx hb hts hK hP hD hS hA 37 (by decide) (by decide) (Nat.le_of_ble_eq_true rfl) (Nat.le_of_ble_eq_true rfl) (Nat.le_of_ble_eq_true rfl) dJ1_toChars_9d188_2 (fun q H hP hD hS => ?_)
  have hP : va_P D vwCl [(q, .inl (cC, 37, .inl (fun _ => 0)))] H := hP
  have hD : va_D A [(q, .inl (cC, 37, .inl (fun _ => 0)))] := hD
  refine lv_astore_n (lv' := [(1, .ref q), (0, .ref sv)]) hx hb dJ1_toChars_9d188_4 rfl hl (by decide) rfl (fun ls hl => ?_)
  refine lv_aload_n hx hb dJ1_toChars_9d188_5 rfl (lv_at hl 1 rfl) ?_
  refine lv_iconst (v := 0) hx hb dJ1_toChars_9d188_6 (by decide) ?_
  refine lv_aload_n hx hb dJ1_toChars_9d188_7 rfl (lv_at hl 0 rfl) ?_
  refine lv_iconst (v := 0) hx hb dJ1_toChars_9d188_8 (by decide) ?_
  refine lv_aload_n hx hb dJ1_toChars_9d188_9 rfl (lv_at hl 1 rfl) ?_
  refine va_tlen hx hb hJ.2.2.2.1 hS (v := 37) rfl dJ1_toChars_9d188_10 ?_
  have hFc := va_free (wc := [(q, .inl (cC, 37, .inl (fun _ => 0)))]) hD hS hA [0] rfl
  have hst := hS
  refine va_callv (va_runS (As := [.ref sv, .int 0, .ref q, .int 0, .int 37]) (rest := []) ⟨hx, hb, hml, hown, hts⟩ (c_inflate l D cI cC sk sv q H.size (fun _ => 0)) ⟨callB_of 5 hts (cw_good s_cw_inf) rfl rfl rfl (hts _ s_cw_inf.2.1) (hts _ s_ml_inf) ⟨s_cw_inf.2.2.1.1, s_cw_inf.2.2.1.2, s_cw_inf.2.2.2⟩ ⟨Nat.le_of_ble_eq_true rfl, Nat.le_of_ble_eq_true rfl⟩, hts _ s_st_inf⟩ ⟨fun a U g mk h => ⟨h.1, h.2.1, h.2.2.1, va_K.moved (u := U) (U := U.calling g mk a) (Vm.Alike.refl U.vm) h.2.2.2.1, h.2.2.2.2.1, h.2.2.2.2.2.call a g mk⟩, fun U hU hW => ⟨rfl, by rw [hU], by rw [hU]; exact hP, va_K.moved hW.alike hK, hD.weaken (fun _ _ _ _ => trivial), (hJ.at hst hU hW).narrow (fun q h => hFc q h)⟩⟩ rfl rfl hl.1 rfl (lv_room (Nat.le_of_ble_eq_true rfl)) dJ1_toChars_9d188_11 ⟨Nat.le_of_ble_eq_true rfl, Nat.le_of_ble_eq_true rfl⟩) hS (fun q _ h => hFc q h) hFc (fun u t H1 locs ht hvm hp hB hz1 hk1 hS => ?_)
  obtain ⟨hP1, hD1⟩ := hB
  rw [ht] at hP1
  refine lv_aload_n hx hb dJ1_toChars_9d188_14 rfl (lv_at hl 0 rfl) ?_
  exact W.aret hx hb hr (Or.inr ⟨_, rfl⟩) (Or.inr ⟨_, rfl⟩) (fun t ht hW => ⟨⟨(), q, rfl, trivial, by rw [ht]; exact hP1, hD1.weaken (fun _ _ _ h => hFc _ h)⟩, hS.F ht⟩) hS.2.2 dJ1_toChars_9d188_15 B.notSynchronized
set_option maxRecDepth 100000 in
set_option maxHeartbeats 4000000 in
theorem c_tca (l : Launch) (D : va_G) (cI cC : ClassId) (sk sv sz : Nat) : Met l yJ0_toCharArray_70df3 (.code yJ0_toCharArray_70df3 cJ0_toCharArray_70df3 1 (some (.array .char)) :: TBL) { frames := 2, cells := 1, slots := 37, locals := 80 } (va_Pc [.ref sk] (fun U => U.heap.size = sz ∧ va_K D vwCl (tys2 cI cC) U ∧ SJ sk sv (va_A [] sz) U)) (va_Qr (fun _ : Unit => True) (fun _ a t => va_P D vwCl [(a, .inl (cC, 37, .inl (ftU (fun _ => 0) 37)))] t.heap ∧ va_D (va_A [] sz) [(a, .inl (cC, 37, .inl (ftU (fun _ => 0) 37)))]) (va_A [] sz)) 1 37 (va_A [] sz) := by
  refine va_MetF (cc := cJ0_toCharArray_70df3) (maxL := 1) (ret := some (.array .char)) (by decide +kernel) rfl ?_
  intro p e s m args below meth c s₁ B hml hv
  obtain ⟨rfl, hsz, hK, hJ⟩ := hv
  have hx := B.exec
  have hb := B.bytes
  have hr := B.returns
  have hts0 := atoms_spec (ws := .code yJ0_toCharArray_70df3 cJ0_toCharArray_70df3 1 (some (.array .char)) :: TBL) B.pre
  have hts : ∀ w ∈ TBL, w.before #[.ref sk] s = true := fun w hw => hts0 w (List.mem_cons_of_mem _ hw)
  have hown : s.vm.findClass RJ0 = some m.cls := findClass_of_methodNamed B.named
  subst hsz
  have hA : ∀ q : Nat, s.heap.size ≤ q → va_A [] s.heap.size q := fun q h => Or.inr h
  have hA2 : ∀ (H : Heap), s.heap.size ≤ H.size → ∀ q, va_A [] H.size q → va_A [] s.heap.size q := fun H hz q h => by
    rcases h with ⟨k, e, h⟩ | h
    · simp at h
    · exact Or.inr (Nat.le_trans hz h)
  generalize va_A [] s.heap.size = A at hA hA2 hJ ⊢
  have hS : va_S A s.heap s.heap [] := va_S.rf
  have hl := lv_entry ([.ref sk]) (n := 1) (Nat.le_of_ble_eq_true rfl)
  rw [lg_entry_eq]
  generalize (lg_sl ([.ref sk]) ++ List.replicate (1 - (lg_sl ([.ref sk])).length) Slot.unset).toArray = ls at hl ⊢
  have hl : lv_has ls 1 [(0, .ref sk)] := hl
  refine lv_aload_n hx hb dJ0_toCharArray_70df3_0 rfl (lv_at hl 0 rfl) ?_
  refine aw_read hx hb hml hown hts (c_isL l sk sv) rfl hJ s_cw_isL s_ml_isL s_im_isL s_sl_isL ⟨Nat.le_of_ble_eq_true rfl, Nat.le_of_ble_eq_true rfl⟩ hS hl (Nat.le_of_ble_eq_true rfl) dJ0_toCharArray_70df3_1 ⟨Nat.le_of_ble_eq_true rfl, Nat.le_of_ble_eq_true rfl⟩ (fun H locs hz hk hS => ?_)
  refine lv_if_eq (tgt := 17) hx hb dJ0_toCharArray_70df3_4 (by decide) (fun c => absurd c (by decide)) (fun _ => ?_)
  refine lv_aload_n hx hb dJ0_toCharArray_70df3_7 rfl (lv_at hl 0 rfl) ?_
  refine vk_getf hx hb hJ.2.2.1 hS hown (hts _ s_fl_va) (fun _ h9 => h9) dJ0_toCharArray_70df3_8 ?_
  have hst := hS
  refine va_callr (va_runS (As := [.ref sv]) (rest := []) ⟨hx, hb, hml, hown, hts⟩ (c_toChars l D cI cC sk sv H.size) ⟨callB_of 1 hts (cw_good s_cw_toc) rfl rfl rfl (hts _ s_cw_toc.2.1) (hts _ s_ml_toc) ⟨s_cw_toc.2.2.1.1, s_cw_toc.2.2.1.2, s_cw_toc.2.2.2⟩ ⟨Nat.le_of_ble_eq_true rfl, Nat.le_of_ble_eq_true rfl⟩, hts _ s_st_toc⟩ ⟨fun a U g mk h => ⟨h.1, h.2.1, va_K.moved (u := U) (U := U.calling g mk a) (Vm.Alike.refl U.vm) h.2.2.1, h.2.2.2.call a g mk⟩, fun U hU hW => ⟨rfl, by rw [hU], va_K.moved hW.alike hK, (hJ.at hst hU hW).narrow (fun q h => hA2 H hst.1 q h)⟩⟩ rfl rfl hl.1 rfl (lv_room (Nat.le_of_ble_eq_true rfl)) dJ0_toCharArray_70df3_11 ⟨Nat.le_of_ble_eq_true rfl, Nat.le_of_ble_eq_true rfl⟩) hS (fun q _ h => hA2 H hst.1 q h) (fun q h => hA2 H hst.1 q h) (fun u ra t H1 locs ht hvm hp hB hz1 hk1 hS => ?_)
  obtain ⟨hP1, hD1⟩ := hB
  rw [ht] at hP1
  refine lv_goto (tgt := 24) hx hb dJ0_toCharArray_70df3_14 (by decide) ?_
  exact W.aret hx hb hr (Or.inr ⟨_, rfl⟩) (Or.inr ⟨_, rfl⟩) (fun t ht hW => ⟨⟨(), ra, rfl, trivial, by rw [ht]; exact hP1, hD1.weaken (fun _ _ _ h => hA2 H hst.1 _ h)⟩, hS.F ht⟩) hS.2.2 dJ0_toCharArray_70df3_24 B.notSynchronized
