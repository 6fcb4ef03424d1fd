/-! THE CLAIM OUT OF ONE WALK OF THE LAW'S BODY. Your part is whole_start (and what it stands on); all else here is the same for every law, but numbers. -/
def R_law : String := "ToldInKnotsLaw"
def lw_P (b : Addr) (xs : List Int32) (args : Array Value) (s : State) : Prop := args = #[.ref b] ∧ s.IntsAt b xs ∧ xs.length ≤ 320 ∧ (Jvm.Cond.and given_1 narrow_1).before args s = true
def lw_Q (_ : Array Value) (s : State) (o : Outcome) (t : State) : Prop := o = .returned (some (.int 1)) ∧ Framed s o t [] 600000 7302250
def lw_Z (below : List Frame) (a : Array Value) (s : State) : State → Prop := fun t => ∃ o, t.status = .running ∧ Ended t below o ∧ lw_Q a s o t
/-- the law's own end, with 1 on the stack, nothing written that was there before, its room as the claim has it -/
theorem lw_ret {p : Program} {l : Launch} {e : Env} {s : State} {m : MethodId} {below : List Frame} {meth : Method} {c : Code} {b : Nat} (hx : p.tables.exec = Jvm.exec) (hb : c.code = code) (hr : meth.sig.returnType = ret) (hlocks : meth.locks = false) {pc : Nat} {H : Heap} {ls : Array Slot} (hdg : decode code pc = .ok (.ireturn, 1)) : W p l e room_1 s m #[Value.ref b] below meth c H [] 600000 7302250 (lw_Z below #[Value.ref b] s) (F0 m pc ls [.int 1]) := by
  intro T hT X
  obtain ⟨fs, hret, hrun, hended, hW, hframe⟩ := X.leave (v := some (.int 1)) (hlocks := hlocks) (fun h => by rw [hr] at h; cases h)
  have hmeth' : T.vm.method? m = some meth := X.method'
  refine ⟨T.setFrames fs, ?_, .returned (some (.int 1)), hrun, hended, rfl, ⟨_, rfl⟩, hW, hframe⟩
  jvm_step X.here [X.here.top, hx, hb, hdg, hmeth', hr, ret, narrow_b1]
  (try refine ⟨rfl, ?_⟩); (try refine ⟨rfl, ?_⟩)
  first | (intro acts; rw [hret _ acts rfl rfl rfl]) | rw [hret _ _ rfl rfl rfl]
  exact Steps.refl _
/-- what holds at the law's entry: the machine, the code, the tables' words (any of lw_tbl by 'hts w (by decide +kernel)'), the script of L ints xs at the cell b, what the Statement gives of the start (any of its parts by flat_of_before) -/
def lw_At (p : Program) (s : State) (m : MethodId) (meth : Method) (c : Code) (b L : Nat) (xs : Nat → Int32) : Prop :=
  p.tables.exec = Jvm.exec ∧ c.code = code ∧ meth.sig.returnType = ret ∧ c.maxLocals = 4 ∧ s.vm.findClass R_law = some m.cls ∧ (∀ w ∈ lw_tbl, w.before #[Value.ref b] s = true) ∧ va_X b L xs s s.heap ∧ b < s.heap.size ∧ meth.locks = false ∧ (Jvm.Cond.and given_1 narrow_1).before #[Value.ref b] s = true
theorem L_cl4 : Cond.classLink RL 7 RX4 ∈ TBL := tbl_in (List.mem_of_getElem? (i := 72) (by decide +kernel)) rfl
theorem L_cl5 : Cond.classLink RL 10 RX5 ∈ TBL := tbl_in (List.mem_of_getElem? (i := 762) (by decide +kernel)) rfl
theorem L_it0 : Cond.instantiable RX0 1 ∈ TBL := tbl_in (List.mem_of_getElem? (i := 87) (by decide +kernel)) rfl
theorem L_in0 : Cond.initialized RX0 ∈ TBL := tbl_in (List.mem_of_getElem? (i := 60) (by decide +kernel)) rfl
theorem L_it1 : Cond.instantiable RX1 5 ∈ TBL := tbl_in (List.mem_of_getElem? (i := 81) (by decide +kernel)) rfl
theorem L_in1 : Cond.initialized RX1 ∈ TBL := tbl_in (List.mem_of_getElem? (i := 59) (by decide +kernel)) rfl
theorem L_it2 : Cond.instantiable RX2 9 ∈ TBL := tbl_in (List.mem_of_getElem? (i := 139) (by decide +kernel)) rfl
theorem L_in2 : Cond.initialized RX2 ∈ TBL := tbl_in (List.mem_of_getElem? (i := 63) (by decide +kernel)) rfl
theorem L_it3 : Cond.instantiable RX3 3 ∈ TBL := tbl_in (List.mem_of_getElem? (i := 119) (by decide +kernel)) rfl
theorem L_in3 : Cond.initialized RX3 ∈ TBL := tbl_in (List.mem_of_getElem? (i := 61) (by decide +kernel)) rfl
theorem L_it4 : Cond.instantiable RX4 11 ∈ TBL := tbl_in (List.mem_of_getElem? (i := 73) (by decide +kernel)) rfl
theorem L_in4 : Cond.initialized RX4 ∈ TBL := tbl_in (List.mem_of_getElem? (i := 58) (by decide +kernel)) rfl
theorem L_it5 : Cond.instantiable RX5 17 ∈ TBL := tbl_in (List.mem_of_getElem? (i := 763) (by decide +kernel)) rfl
theorem L_in5 : Cond.initialized RX5 ∈ TBL := tbl_in (List.mem_of_getElem? (i := 70) (by decide +kernel)) rfl
theorem L_ml4 : Cond.methodLink RL 9 yX4_init ∈ TBL := tbl_in (List.mem_of_getElem? (i := 74) (by decide +kernel)) rfl
theorem L_ml5 : Cond.methodLink RL 12 yX5_init ∈ TBL := tbl_in (List.mem_of_getElem? (i := 764) (by decide +kernel)) rfl
theorem L_im4 : Cond.instanceMethod yX4_init ∈ TBL := tbl_in (List.mem_of_getElem? (i := 75) (by decide +kernel)) rfl
theorem L_im5 : Cond.instanceMethod yX5_init ∈ TBL := tbl_in (List.mem_of_getElem? (i := 765) (by decide +kernel)) rfl
theorem L_cw4 : CW yX4_init cX4_init 1 none 0 := ⟨tbl_in (List.mem_of_getElem? (i := 76) (by decide +kernel)) rfl, L_in4, ⟨by decide +kernel, by decide +kernel⟩, by decide +kernel⟩
theorem L_cw5 : CW yX5_init cX5_init 1 none 0 := ⟨tbl_in (List.mem_of_getElem? (i := 766) (by decide +kernel)) rfl, L_in5, ⟨by decide +kernel, by decide +kernel⟩, by decide +kernel⟩
theorem L_sref : Cond.stringRef "ToldInKnots" 59 FT ∈ lw_tbl := (List.mem_of_getElem? (i := 174) (by decide +kernel))
theorem L_lsT : Cond.laysStatic "ToldInKnots" "TENS" "[I" ∈ lw_tbl := (List.mem_of_getElem? (i := 429) (by decide +kernel))
theorem L_lsC : Cond.laysStatic "java/lang/String" "COMPACT_STRINGS" "Z" ∈ lw_tbl := (List.mem_of_getElem? (i := 184) (by decide +kernel))
theorem L_inS : Cond.initialized "java/lang/String" ∈ lw_tbl := (List.mem_of_getElem? (i := 64) (by decide +kernel))
theorem L_nm : ∀ q ∈ nestM, Cond.methodLinkNest q.1 q.2.1 q.2.2.1 q.2.2.2 ∈ lw_tbl := by decide +kernel
theorem L_nf : ∀ q ∈ nestF, Cond.fieldLinkNest q.1 q.2.1 q.2.2.1 q.2.2.2.1 q.2.2.2.2.1 q.2.2.2.2.2 ∈ lw_tbl := by decide +kernel
abbrev tmT : Term := .static "ToldInKnots" "TENS" "[I"
abbrev tmS : Term := .string "ToldInKnots" 59
abbrev tmV : Term := .field tmS "java/lang/String" "value" "[B"
abbrev nar0 : Cond := Jvm.Cond.and given_1 narrow_1
theorem N_t1 : Cond.arrayOf tmT .int ∈ flatC nar0 := by decide +kernel
theorem N_t2 : Cond.eq (.length tmT) (.int 5) ∈ flatC nar0 := by decide +kernel
theorem N_t3 : ∀ j, j < 5 → Cond.eq (.elem tmT (.int (Int32.ofNat j))) (.int (10 ^ j)) ∈ flatC nar0 := by decide +kernel
theorem N_s1 : Cond.exactly tmS "java/lang/String" ∈ flatC nar0 := by decide +kernel
theorem N_s2 : Cond.eq (.field tmS "java/lang/String" "coder" "B") (.int 0) ∈ flatC nar0 := by decide +kernel
theorem N_s3 : Cond.arrayOf tmV .byte ∈ flatC nar0 := by decide +kernel
theorem N_s4 : Cond.eq (.length tmV) (.int 37) ∈ flatC nar0 := by decide +kernel
theorem N_s5 : ∀ j, j < 37 → Cond.eq (.elem tmV (.int (Int32.ofNat j))) (.int (FTL.getD j 0)) ∈ flatC nar0 := by decide +kernel
theorem N_c : Cond.eq (.static "java/lang/String" "COMPACT_STRINGS" "Z") (.int 1) ∈ flatC nar0 := by decide +kernel
theorem arr_of {args : Array Value} {s : State} {ty : FieldType} (hty : ∀ cA, va_RA s cA ty = (s.vm.findClass ("[" ++ ty.toString) = some cA)) (h : (Cond.arrayClass ty).before args s = true) : ∃ cA, ArrOfT s cA ty ∧ va_RA s cA ty := by
  obtain ⟨cA, kA, comp, h1, h2, h3⟩ := Cond.arrayClass_spec h
  exact ⟨cA, fun n z => ⟨fun k h => (by cases h), kA, h2, comp, h3⟩, by rw [hty]; exact h1⟩
theorem rng_map {α : Type} (l : List α) : (List.range l.length).map (fun i => l[i]?) = l.map some := by
  apply List.ext_getElem?
  intro i
  rw [List.getElem?_map, List.getElem?_map]
  by_cases h : i < l.length
  · rw [List.getElem?_range h, List.getElem?_eq_getElem h]; simp [h]
  · rw [List.getElem?_eq_none (by simpa using h), List.getElem?_eq_none (by simpa using h)]; rfl
theorem va_D_left {A : Nat → Prop} {a b : va_W} (h : va_D A (a ++ b)) : va_D A a :=
  ⟨fun i j p q hp hq e => h.1 i j p q (by rw [List.getElem?_append_left (List.getElem?_eq_some_iff.mp hp).1]; exact hp) (by rw [List.getElem?_append_left (List.getElem?_eq_some_iff.mp hq).1]; exact hq) e, fun k q hk => h.2 k q (by rw [List.getElem?_append_left (List.getElem?_eq_some_iff.mp hk).1]; exact hk)⟩
theorem cls_lyX1 (D : va_G) (cI cC : ClassId) (t : Nat) (ad : Nat → Nat) (h : Hp) : ∃ tl, cls (wdX D cI cC t ad lyX1) h = cls (wdX D cI cC t ad lyX) h ++ tl := by
  refine ⟨clsA (wdX D cI cC t ad lyX1) h (0 + lyX.length) [(2, 37, [])], ?_⟩
  show clsA (wdX D cI cC t ad lyX1) h 0 (lyX ++ [(2, 37, [])]) = _
  rw [clsA_app]
  rfl
abbrev o4 : List Value := [.null, .int 0, .null, .null, .null, .null, .null, .null, .null, .null, .null]
abbrev o5 : List Value := [.null, .null, .int 0, .null, .int 0, .null, .int 0, .null, .int 0, .int 0, .int 0, .null, .null, .null, .null, .null, .null]
set_option maxRecDepth 100000 in
set_option maxHeartbeats 8000000 in
theorem start_of {p : Program} {e : Env} {s : State} {m : MethodId} {below : List Frame} {meth : Method} {c : Code} (l : Launch) {b L : Nat} {xs0 : Nat → Int32} (hL : L ≤ 320) (C0 : lw_At p s m meth c b L xs0) (N : Nat) (RR : Nat → Hp → Prop) (HS : SFall N RR) (hmono : ∀ k h, RR k h → RR (k + 1) h) (hinit : ∃ r1 r2 : Rs, fX4_initT N hX0 = some r1 ∧ dynok r1.2 ∧ fX5_initT N (hM0 r1.2) = some r2 ∧ RR 0 r2.2) : W p l e room_1 s m #[Value.ref b] below meth c s.heap [] 0 0 (lw_Z below #[Value.ref b] s) (entryFrame m ([Value.ref b] : List Value).toArray 4) := by
  obtain ⟨hx, hb, hr, hml, hown0, hts0, hX, hbl, hlocks, hgv⟩ := id C0
  obtain ⟨r1, r2, hr1, hdyn, hr2, hRR⟩ := hinit
  have hown : s.vm.findClass RL = some m.cls := hown0
  have hts : ∀ w ∈ TBL, w.before #[Value.ref b] s = true := fun w hw => hts0 w (tbl_lw hw)
  have hfl := flat_of_before _ hgv
  obtain ⟨A, hAe⟩ : ∃ A : Nat → Prop, A = fun q => s.heap.size ≤ q := ⟨_, rfl⟩
  have hA : ∀ q : Nat, s.heap.size ≤ q → A q := fun q h => by rw [hAe]; exact h
  have hAn : ∀ a : Nat, a < s.heap.size → ¬ A a := fun a h1 h2 => by rw [hAe] at h2; exact absurd h1 (Nat.not_lt.mpr h2)
  have hbA : ¬ A b := hAn b hbl
  obtain ⟨c0, i0, hK0⟩ := u_known (C := RX0) (T := TX0) (N := 1) (n := 1) hts (inT 0 _ rfl) (hts _ L_it0)
  obtain ⟨c1, i1, hK1⟩ := u_known (C := RX1) (T := TX1) (N := 5) (n := 5) hts (inT 1 _ rfl) (hts _ L_it1)
  obtain ⟨c2, i2, hK2⟩ := u_known (C := RX2) (T := TX2) (N := 9) (n := 9) hts (inT 2 _ rfl) (hts _ L_it2)
  obtain ⟨c3, i3, hK3⟩ := u_known (C := RX3) (T := TX3) (N := 3) (n := 3) hts (inT 3 _ rfl) (hts _ L_it3)
  obtain ⟨c4, i4, hK4⟩ := u_known (C := RX4) (T := TX4) (N := 11) (n := 11) hts (inT 4 _ rfl) (hts _ L_it4)
  obtain ⟨c5, i5, hK5⟩ := u_known (C := RX5) (T := TX5) (N := 17) (n := 17) hts (inT 5 _ rfl) (hts _ L_it5)
  obtain ⟨cI, hI1, hI2⟩ := arr_of (ty := .int) (fun _ => rfl) (hts _ ac_int)
  obtain ⟨cC, hC1, hC2⟩ := arr_of (ty := .char) (fun _ => rfl) (hts _ ac_char)
  obtain ⟨D, hKc⟩ : ∃ D : va_G, ∀ (k : Nat) (q : vw_C), vwCl[k]? = some q → u_Kn s q.1 q.2.1 q.2.2 (D.1 k) (D.2 k) := by
    refine ⟨(fun k => match k with | 0 => c0 | 1 => c1 | 2 => c2 | 3 => c3 | 4 => c4 | _ => c5, fun k => match k with | 0 => i0 | 1 => i1 | 2 => i2 | 3 => i3 | 4 => i4 | _ => i5), ?_⟩
    intro k q hq
    match k, hq with
    | 0, hq => cases hq; exact hK0
    | 1, hq => cases hq; exact hK1
    | 2, hq => cases hq; exact hK2
    | 3, hq => cases hq; exact hK3
    | 4, hq => cases hq; exact hK4
    | 5, hq => cases hq; exact hK5
    | k + 6, hq => simp [vwCl] at hq
  have hK : va_K D vwCl (tys2 cI cC) s := ⟨hKc, fun k q h => by
    match k, h with
    | 0, h => cases h; exact ⟨hI1, hI2⟩
    | 1, h => cases h; exact ⟨hC1, hC2⟩
    | k + 2, h => simp at h⟩
  obtain ⟨t, htv, htT⟩ := va_Tof (tm := tmT) (ty := .int) (N := 5) (f := tensF) (A := A) (by decide) (hfl _ N_t1) (va_eqt (hfl _ N_t2)) (fun j hj => va_eqt (hfl _ (N_t3 j hj))) hAn
  have htZ := va_Zref (hts0 _ L_lsT) (hts _ L_in4) htv hAn
  have i0 : ∀ i : Nat, i < 1 → i = 0 := fun i h => by omega
  obtain ⟨adK, adV, hvS, hvE⟩ := vk_Sof (N := 1) (tm := fun _ => tmS) (len := [37]) (byt := [FTL]) (A := A) (args := #[Value.ref b]) (s := s) (fun i hi => by rw [i0 i hi]; decide) (fun i _ => hfl _ N_s1) (fun i _ => hfl _ N_s2) (fun i _ => hfl _ N_s3) (fun i hi => by rw [i0 i hi]; exact hfl _ N_s4) (fun i hi j hj => by rw [i0 i hi] at hj ⊢; exact hfl _ (N_s5 j hj)) (fun i j hi hj hne => absurd ((i0 i hi).trans (i0 j hj).symm) hne) hAn
  obtain ⟨hv1, hv2, hv3, hv4⟩ := hvS.1 0 (by omega)
  have hJ : SJ (adK 0) (adV 0) A s := ⟨hv1, hv2, hv3, hv4, va_Zof (hts0 _ L_lsC) (hts0 _ L_inS) (va_eqi (hfl _ N_c)) hAn⟩
  have hU : SU D cI cC t (adK 0) (adV 0) A s := ⟨hK, htZ, htT, fun q hq => va_Nw.of rfl (hts0 _ (L_nm q hq)), fun q hq => va_Nw.of rfl (hts0 _ (L_nf q hq)), hJ, vk_R.of (hts0 _ L_sref) (hvE 0 (by omega))⟩
  have hS : va_S A s.heap s.heap [] := va_S.rf
  have hP : va_P D vwCl [] s.heap := fun k q h => by simp at h
  have hD : va_D A [] := ⟨fun i j p q h => by simp at h, fun k q h => by simp at h⟩
  have hl := lv_entry ([.ref b]) (n := 4) (Nat.le_of_ble_eq_true rfl)
  rw [lg_entry_eq]
  generalize (lg_sl ([.ref b]) ++ List.replicate (4 - (lg_sl ([.ref b])).length) Slot.unset).toArray = ls at hl ⊢
  have hl : lv_has ls 4 [(0, .ref b)] := hl
  refine aw_new (ci := 4) (fs := o4) hx hb hts hown L_cl4 L_it4 L_in4 tyX4 tyX4_ok hK hP hD hS hA rfl (by intro j hj; rcases j with _ | (_ | (_ | (_ | (_ | (_ | (_ | (_ | (_ | (_ | (_ | j)))))))))); all_goals first | rfl | (exfalso; omega)) (Nat.le_of_ble_eq_true rfl) (Nat.le_of_ble_eq_true rfl) dL_law_0 (fun q0 H hP hD hS => ?_)
  have hP : va_P D vwCl [(q0, .inr (4, o4))] H := hP
  have hD : va_D A [(q0, .inr (4, o4))] := hD
  refine lv_dup hx hb dL_law_3 rfl ?_
  have hFc := va_free (wc := [(q0, .inr (4, o4))]) hD hS hA [0] rfl
  have hst := hS
  refine va_callv (va_runI (As := []) (rest := [.ref q0]) ⟨hx, hb, hml, hown, hts⟩ (c_X4_init l D cI cC t (adK 0) (adV 0) q0 H.size N r1 hr1) ⟨callB_of 0 hts (cw_good L_cw4) rfl rfl rfl (hts _ L_in4) (hts _ L_ml4) ⟨L_cw4.2.2.1.1, L_cw4.2.2.1.2, L_cw4.2.2.2⟩ ⟨Nat.le_of_ble_eq_true rfl, Nat.le_of_ble_eq_true rfl⟩, rfl, hts _ L_im4⟩ ⟨fun a U g mk h => ⟨h.1, h.2.1, h.2.2.1, h.2.2.2.1, h.2.2.2.2.call a g mk⟩, fun U hU1 hW => ⟨rfl, by rw [hU1], by rw [hU1]; exact hP, hD.weaken (fun _ _ _ _ => trivial), (hU.at hst hU1 hW).narrow (fun q h => hFc q h)⟩⟩ rfl rfl hl.1 rfl (lv_room (Nat.le_of_ble_eq_true rfl)) dL_law_4 ⟨Nat.le_of_ble_eq_true rfl, Nat.le_of_ble_eq_true rfl⟩) hS (fun q _ h => hFc q h) hFc (fun ad t1 H1 locs ht hvm had0 hB hz1 hk1 hS => ?_)
  obtain ⟨hP1, hD1⟩ := hB
  rw [ht] at hP1
  obtain ⟨hP, hD⟩ := va_join (wr := []) hP hD [0] [] rfl rfl (by decide) (by decide) hk1 hFc hP1 hD1
  rw [List.nil_append] at hP hD
  obtain ⟨tl, htl⟩ := cls_lyX1 D cI cC t ad r1.2
  rw [htl] at hP hD
  have hP := va_P_mem (ws' := cls (wdX D cI cC t ad lyX) r1.2) hP (fun q hq => List.mem_append.mpr (Or.inl hq))
  have hD := va_D_left hD
  generalize H1 = H at hP hS ⊢
  refine lv_astore_n (lv' := [(1, .ref q0), (0, .ref b)]) hx hb dL_law_7 rfl hl (by decide) rfl (fun ls hl => ?_)
  refine aw_new (ci := 5) (fs := o5) hx hb hts hown L_cl5 L_it5 L_in5 tyX5 tyX5_ok hK hP hD hS hA rfl (by intro j hj; rcases j with _ | (_ | (_ | (_ | (_ | (_ | (_ | (_ | (_ | (_ | (_ | (_ | (_ | (_ | (_ | (_ | (_ | j)))))))))))))))); all_goals first | rfl | (exfalso; omega)) (Nat.le_of_ble_eq_true rfl) (Nat.le_of_ble_eq_true rfl) dL_law_8 (fun q1 H hP hD hS => ?_)
  refine lv_dup hx hb dL_law_11 rfl ?_
  have hpm : List.Perm (α := Nat × va_E) (cls (wdX D cI cC t ad lyX) r1.2 ++ [(q1, .inr (5, o5))]) ((q1, .inr (5, o5)) :: cls (wdX D cI cC t ad lyX) r1.2) := List.perm_append_comm
  have hP := va_P_mem hP (fun q hq => hpm.mem_iff.mpr hq)
  have hD := va_D_perm hpm hD
  have hFc := va_free (wc := (q1, .inr (5, o5)) :: cls (wdX D cI cC t ad lyX) r1.2) hD hS hA _ (rng_map _)
  have hst := hS
  refine va_callv (va_runI (As := []) (rest := [.ref q1]) ⟨hx, hb, hml, hown, hts⟩ (c_X5_init l D cI cC t (adK 0) (adV 0) q1 H.size N ad r1.2 hdyn r2 hr2) ⟨callB_of 0 hts (cw_good L_cw5) rfl rfl rfl (hts _ L_in5) (hts _ L_ml5) ⟨L_cw5.2.2.1.1, L_cw5.2.2.1.2, L_cw5.2.2.2⟩ ⟨Nat.le_of_ble_eq_true rfl, Nat.le_of_ble_eq_true rfl⟩, rfl, hts _ L_im5⟩ ⟨fun a U g mk h => ⟨h.1, h.2.1, h.2.2.1, h.2.2.2.1, h.2.2.2.2.call a g mk⟩, fun U hU1 hW => ⟨rfl, by rw [hU1], by rw [hU1]; exact hP, hD.weaken (fun _ _ _ _ => trivial), (hU.at hst hU1 hW).narrow (fun q h => hFc q h)⟩⟩ rfl rfl hl.1 rfl (lv_room (Nat.le_of_ble_eq_true rfl)) dL_law_12 ⟨Nat.le_of_ble_eq_true rfl, Nat.le_of_ble_eq_true rfl⟩) hS (fun q _ h => hFc q h) hFc (fun ad2 t1 H1 locs ht hvm _ hB hz1 hk1 hS => ?_)
  obtain ⟨hagree, h22, hP1, hD1⟩ := hB
  rw [ht] at hP1
  obtain ⟨hP2, hD2⟩ := va_join (wr := []) hP hD _ [] (rng_map _) rfl (by decide) (by simp) hk1 hFc hP1 hD1
  rw [List.nil_append] at hP2 hD2
  clear hP hD hpm hP1 hD1 hk1 hst hFc
  have e0 : ad2 0 = q0 := (hagree 0 (by omega)).trans had0
  subst e0
  subst h22
  refine lv_astore_n (lv' := [(2, .ref (ad2 22)), (1, .ref (ad2 0)), (0, .ref b)]) hx hb dL_law_15 rfl hl (by decide) rfl (fun ls hl => ?_)
  refine lv_iconst (v := 0) hx hb dL_law_16 (by decide) ?_
  refine lv_istore_n (lv' := [(3, .int 0), (2, .ref (ad2 22)), (1, .ref (ad2 0)), (0, .ref b)]) hx hb dL_law_17 rfl hl (by decide) rfl (fun ls hl => ?_)
  have hw : LX (wdX D cI cC t ad2 (lyX ++ lyM)) := fun i e he => by
    show (lyX ++ lyM)[i]? = some e
    rw [List.getElem?_append_left (List.getElem?_eq_some_iff.mp he).1]; exact he
  have hm : LM (wdX D cI cC t ad2 (lyX ++ lyM)) := fun i e he _ => he
  have C : Ok (wdX D cI cC t ad2 (lyX ++ lyM)) (p, l, e, room_1, s, m, #[Value.ref b], below, meth, c, A, 4, 0 + 1 + 22 + 1 + 11, 0 + 11 + 3250 + 17 + 2191, fun _ => lw_Z below #[Value.ref b] s) cL_law RL 1000 :=
    ⟨hx, hb, hml, hown, hts, hlocks, ⟨Nat.le_of_ble_eq_true rfl, Nat.le_of_ble_eq_true rfl, Nat.le_of_ble_eq_true rfl, Nat.le_of_ble_eq_true rfl⟩, ⟨hK, fun h => cls_D hD2, htZ, htT, hU.2.2.2.1, hU.2.2.2.2.1⟩⟩
  have hend : ∀ (lv : List (Option Value)) (h : Hp), PW (wdX D cI cC t ad2 (lyX ++ lyM)) (p, l, e, room_1, s, m, #[Value.ref b], below, meth, c, A, 4, 0 + 1 + 22 + 1 + 11, 0 + 11 + 3250 + 17 + 2191, fun _ => lw_Z below #[Value.ref b] s) 968 lv [.int 1] h (some (0, fun _ _ => 0)) := by
    intro lv h r _ H locs ls _ hS _
    refine va_forget (fun q hq => by have := hS.2.2 q hq; rw [show xA _ = A from rfl, hAe] at this; exact this) ?_
    refine W.widen (k := 600000) (n := 7302250) (Nat.le_of_ble_eq_true rfl) (Nat.le_of_ble_eq_true rfl) ?_
    exact lw_ret hx hb hr hlocks dL_law_968
  exact law_loop hw hm C rfl hX hbl hbA hL HS hmono hend (L + 1) 0 0 r2.2 (by omega) (by omega) (by omega) (by omega) hRR _ rfl H1 locs ls hP2 hS (lv_sub hl [3, 2, 1, 0] rfl)
