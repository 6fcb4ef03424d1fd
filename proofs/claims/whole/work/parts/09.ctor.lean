theorem ml_X0_5 : Cond.methodLink RX0 5 objectInit ∈ TBL := tbl_in (List.mem_of_getElem? (i := 91) (by decide +kernel)) rfl
theorem ml_X1_3 : Cond.methodLink RX1 3 objectInit ∈ TBL := tbl_in (List.mem_of_getElem? (i := 85) (by decide +kernel)) rfl
theorem ml_X2_5 : Cond.methodLink RX2 5 objectInit ∈ TBL := tbl_in (List.mem_of_getElem? (i := 143) (by decide +kernel)) rfl
theorem ml_X3_1 : Cond.methodLink RX3 1 objectInit ∈ TBL := tbl_in (List.mem_of_getElem? (i := 123) (by decide +kernel)) rfl
theorem ml_X4_1 : Cond.methodLink RX4 1 objectInit ∈ TBL := tbl_in (List.mem_of_getElem? (i := 77) (by decide +kernel)) rfl
theorem ml_X5_1 : Cond.methodLink RX5 1 objectInit ∈ TBL := tbl_in (List.mem_of_getElem? (i := 767) (by decide +kernel)) rfl
theorem ob_code : Cond.code objectInit ⟨#[0xb1]⟩ 1 none ∈ TBL := tbl_in (List.mem_of_getElem? (i := 79) (by decide +kernel)) rfl
theorem ob_inst : Cond.instanceMethod objectInit ∈ TBL := tbl_in (List.mem_of_getElem? (i := 78) (by decide +kernel)) rfl
theorem ac_int : Cond.arrayClass .int ∈ TBL := tbl_in (List.mem_of_getElem? (i := 98) (by decide +kernel)) rfl
theorem ac_char : Cond.arrayClass .char ∈ TBL := tbl_in (List.mem_of_getElem? (i := 97) (by decide +kernel)) rfl
abbrev tys2 (cI cC : ClassId) : List (ClassId × FieldType) := [(cI, .int), (cC, .char)]
section AWN
variable {p : Program} {l : Launch} {e : Env} {R : Room} {s : State} {m : MethodId} {args : Array Value} {below : List Frame} {meth : Method} {c : Code} {H : Heap} {locs : List Loc} {cells slots : Nat} {Q : State → Prop}
variable {cc : ByteArray} {pc : Nat} {ls : Array Slot} {rest : List Value} {D : va_G} {cl : List vw_C} {A : Nat → Prop} {ws : va_W} {H0 : Heap} {cI cC : ClassId}
theorem aw_newi (hexec : p.tables.exec = Jvm.exec) (hb : c.code = cc) (hts : ∀ w ∈ TBL, w.before args s = true) (hK : va_K D cl (tys2 cI cC) s) (hP : va_P D cl ws H) (hD : va_D A ws) (hS : va_S A H0 H locs) (hA : ∀ q, H0.size ≤ q → A q)
    {n : Int32} (N' : Nat) (hn : ¬ n < 0) (hN : n.toNatClampNeg = N') (hbytes : N' * componentBytes .int ≤ 536870912) (hcells : cells + 1 ≤ R.cells) (hslots : slots + N' ≤ R.slots) (hdg : decode cc pc = .ok (.newarray .int, 2))
    (kk : ∀ (q : Nat) (H1 : Heap), va_P D cl (ws ++ [(q, .inl (cI, N', .inl (fun _ => 0)))]) H1 → va_D A (ws ++ [(q, .inl (cI, N', .inl (fun _ => 0)))]) → va_S A H0 H1 locs →
      W p l e R s m args below meth c H1 locs (cells + 1) (slots + N') Q (F0 m (pc + 2) ls (.ref q :: rest))) : W p l e R s m args below meth c H locs cells slots Q (F0 m pc ls (.int n :: rest)) :=
  va_newa (atype := .int) (a0 := (N', .inl (fun _ => 0))) hexec hb (hts _ ac_int) rfl hK hP hD hS hA (fun _ => rfl) hn hN hbytes hcells hslots hdg (fun q cA H1 hK1 hP1 hD1 hS1 => by
    have e1 : cA = cI := Option.some.inj ((hK1.2 2 (cA, .int) rfl).2.symm.trans (hK1.2 0 (cI, .int) rfl).2)
    subst e1
    exact kk q H1 hP1 hD1 hS1)
theorem aw_newc (hexec : p.tables.exec = Jvm.exec) (hb : c.code = cc) (hts : ∀ w ∈ TBL, w.before args s = true) (hK : va_K D cl (tys2 cI cC) s) (hP : va_P D cl ws H) (hD : va_D A ws) (hS : va_S A H0 H locs) (hA : ∀ q, H0.size ≤ q → A q)
    {n : Int32} (N' : Nat) (hn : ¬ n < 0) (hN : n.toNatClampNeg = N') (hbytes : N' * componentBytes .char ≤ 536870912) (hcells : cells + 1 ≤ R.cells) (hslots : slots + N' ≤ R.slots) (hdg : decode cc pc = .ok (.newarray .char, 2))
    (kk : ∀ (q : Nat) (H1 : Heap), va_P D cl (ws ++ [(q, .inl (cC, N', .inl (fun _ => 0)))]) H1 → va_D A (ws ++ [(q, .inl (cC, N', .inl (fun _ => 0)))]) → va_S A H0 H1 locs →
      W p l e R s m args below meth c H1 locs (cells + 1) (slots + N') Q (F0 m (pc + 2) ls (.ref q :: rest))) : W p l e R s m args below meth c H locs cells slots Q (F0 m pc ls (.int n :: rest)) :=
  va_newa (atype := .char) (a0 := (N', .inl (fun _ => 0))) hexec hb (hts _ ac_char) rfl hK hP hD hS hA (fun _ => rfl) hn hN hbytes hcells hslots hdg (fun q cA H1 hK1 hP1 hD1 hS1 => by
    have e1 : cA = cC := Option.some.inj ((hK1.2 2 (cA, .char) rfl).2.symm.trans (hK1.2 1 (cC, .char) rfl).2)
    subst e1
    exact kk q H1 hP1 hD1 hS1)
/-- a final field of a new object gets its cell -/
theorem aw_putF {ci N k : Nat} {CN : String} {T : u_T} {a q0 index : Nat} {fs : List Value} {v : Value} {ty : FieldType} (hexec : p.tables.exec = Jvm.exec) (hb : c.code = cc) (hts : ∀ w ∈ TBL, w.before args s = true) (hown : s.vm.findClass CN = some m.cls) (hin2 : meth.name = "<init>") (hK : va_K D vwCl (tys2 cI cC) s) (hP : va_P D vwCl ws H) (hD : va_D A ws) (hS0 : va_S A H0 H locs) (he : ws[q0]? = some (a, .inr (ci, fs))) (hc : vwCl[ci]? = some (CN, T, N)) (hk : k < N) (hlink : Cond.fieldLink CN index (T k).1 (T k).2.1 (T k).2.2.1 ∈ TBL) (hfin : (T k).2.2.2 = true) (hdecl : (T k).1 = CN) (hd : parseFieldDescriptor (T k).2.2.1 = some ty) (hn : narrow ty v = v) (hfit : fits ty v = true) (hl : k < fs.length)
    (hdg : decode cc pc = .ok (.putfield index, 3)) (kk : ∀ (H1 : Heap) (locs1 : List Loc), va_P D vwCl (ws.set q0 (a, .inr (ci, fs.set k v))) H1 → va_D A (ws.set q0 (a, .inr (ci, fs.set k v))) → va_S A H0 H1 locs1 → W p l e R s m args below meth c H1 locs1 cells slots Q (F0 m (pc + 3) ls rest)) : W p l e R s m args below meth c H locs cells slots Q (F0 m pc ls (v :: .ref a :: rest)) := by
  obtain ⟨ty0, hty⟩ := tyT ci _ hc
  exact va_putF hexec hb hts (inT ci _ hc) ty0 hty (nmT ci _ hc) hown hK hP hD hS0 q0 he hc k hk (hts _ hlink) (fun _ h9 => h9) hfin hin2 hdecl hd hn hfit hl hdg kk
theorem aw_put {ci N k : Nat} {CN : String} {T : u_T} {a q0 index : Nat} {fs : List Value} {v : Value} {ty : FieldType} (hexec : p.tables.exec = Jvm.exec) (hb : c.code = cc) (hts : ∀ w ∈ TBL, w.before args s = true) (hown : s.vm.findClass CN = some m.cls) (hK : va_K D vwCl (tys2 cI cC) s) (hP : va_P D vwCl ws H) (hD : va_D A ws) (hS0 : va_S A H0 H locs) (he : ws[q0]? = some (a, .inr (ci, fs))) (hc : vwCl[ci]? = some (CN, T, N)) (hk : k < N) (hlink : Cond.fieldLink CN index (T k).1 (T k).2.1 (T k).2.2.1 ∈ TBL) (hfin : (T k).2.2.2 = false) (hd : parseFieldDescriptor (T k).2.2.1 = some ty) (hn : narrow ty v = v) (hfit : fits ty v = true) (hl : k < fs.length)
    (hdg : decode cc pc = .ok (.putfield index, 3)) (kk : ∀ (H1 : Heap) (locs1 : List Loc), va_P D vwCl (ws.set q0 (a, .inr (ci, fs.set k v))) H1 → va_D A (ws.set q0 (a, .inr (ci, fs.set k v))) → va_S A H0 H1 locs1 → W p l e R s m args below meth c H1 locs1 cells slots Q (F0 m (pc + 3) ls rest)) : W p l e R s m args below meth c H locs cells slots Q (F0 m pc ls (v :: .ref a :: rest)) := by
  obtain ⟨ty0, hty⟩ := tyT ci _ hc
  exact va_put hexec hb hts (inT ci _ hc) ty0 hty (nmT ci _ hc) hown hK hP hD hS0 q0 he hc k hk (hts _ hlink) (fun _ h9 => h9) hfin hd hn hfit hl hdg kk
theorem aw_get {ci N k : Nat} {CN : String} {T : u_T} {a q0 index : Nat} {fs : List Value} {v : Value} (hexec : p.tables.exec = Jvm.exec) (hb : c.code = cc) (hts : ∀ w ∈ TBL, w.before args s = true) (hown : s.vm.findClass CN = some m.cls) (hK : va_K D vwCl (tys2 cI cC) s) (hP : va_P D vwCl ws H) (he : ws[q0]? = some (a, .inr (ci, fs))) (hc : vwCl[ci]? = some (CN, T, N)) (hk : k < N) (hlink : Cond.fieldLink CN index (T k).1 (T k).2.1 (T k).2.2.1 ∈ TBL) (hv : fs[k]? = some v)
    (hdg : decode cc pc = .ok (.getfield index, 3)) (kk : W p l e R s m args below meth c H locs cells slots Q (F0 m (pc + 3) ls (v :: rest))) : W p l e R s m args below meth c H locs cells slots Q (F0 m pc ls (.ref a :: rest)) :=
  va_get hexec hb hts (inT ci _ hc) hown hK hP q0 he hc k hk (hts _ hlink) (fun _ h9 => h9) hv hdg kk
theorem aw_max {own : String} {index nL : Nat} {ls0 : List (Nat × Value)} {x y v : Int32} (hexec : p.tables.exec = Jvm.exec) (hb : c.code = cc) (hml : c.maxLocals = nL) (hls : lv_has ls nL ls0) (hown : s.vm.findClass own = some m.cls) (hts : ∀ w ∈ TBL, w.before args s = true) (hlink : Cond.methodLink own index Lib.Math.max.name ∈ TBL) (hcat : (rest.map fun v => v.category).sum ≤ 8) (hfr : 1 ≤ R.frames) (hlo : 40 ≤ R.locals) (hc : cells ≤ R.cells) (hs : slots ≤ R.slots) (hdg : decode cc pc = .ok (.invokestatic index, 3)) (hv : (if x < y then y else x) = v)
    (k : W p l e R s m args below meth c H locs cells slots Q (F0 m (pc + 3) ls (.int v :: rest))) : W p l e R s m args below meth c H locs cells slots Q (F0 m pc ls (.int y :: .int x :: rest)) := by
  subst hv
  exact va_mmax hexec hb (hml.trans hls.1.symm) hown (hts _ hlink) (hts _ (tbl_in (by decide +kernel) rfl)) (hts _ (tbl_in (by decide +kernel) rfl)) (hts _ (tbl_in (by decide +kernel) rfl)) hfr (by omega) hc hs hdg k
theorem aw_obj {own : String} {a index : Nat} {ls0 : List (Nat × Value)} {nL : Nat} (hexec : p.tables.exec = Jvm.exec) (hb : c.code = cc) (hts : ∀ w ∈ TBL, w.before args s = true) (hown : s.vm.findClass own = some m.cls) (hml : c.maxLocals = nL) (hlink : Cond.methodLink own index objectInit ∈ TBL) (hl : lv_has ls nL ls0) (hrest : rest = []) (hdg : decode cc pc = .ok (.invokespecial index, 3)) (hfr : 1 ≤ R.frames) (hlo : 20 ≤ R.locals)
    (k : W p l e R s m args below meth c H locs cells slots Q (F0 m (pc + 3) ls rest)) : W p l e R s m args below meth c H locs cells slots Q (F0 m pc ls (.ref a :: rest)) := by
  subst hrest
  refine W.objInit hexec hb hown (hts _ hlink) (hts _ ob_inst) (hts _ ob_code) rfl (by rw [hml]; exact hl.1) rfl hdg hfr ?_ ?_
  · exact Nat.le_trans (Nat.le_of_ble_eq_true rfl) hlo
  · exact k
end AWN
def CtorM (l : Launch) (y : MethodName) (b : ByteArray) (n : Nat) (rm : Room) (D : va_G) (cI cC : ClassId) (as : List Value) (wc : va_W) (w1 : (Nat → Nat) → va_W) (mc ms : Nat) : Prop := ∀ sz : Nat, Met l y (.code y b n none :: TBL) rm (va_Pc as (fun U => U.heap.size = sz ∧ va_P D vwCl wc U.heap ∧ va_K D vwCl (tys2 cI cC) U ∧ NW U ∧ va_D (fun _ => True) wc)) (va_Qv (fun _ : Nat → Nat => True) (fun u t => va_P D vwCl (w1 u) t.heap ∧ va_D (va_A wc sz) (w1 u)) (va_A wc sz)) mc ms (va_A wc sz)
theorem CtorM.of {l : Launch} {y : MethodName} {b : ByteArray} {n : Nat} {rm : Room} {D : va_G} {cI cC : ClassId} {as : List Value} {wc : va_W} {w1 : (Nat → Nat) → va_W} {mc ms : Nat} (hpl : plainFor y = true) (hn : (lg_sl as).length ≤ n)
    (k : ∀ (p : Program) (e : Env) (s : State) (m : MethodId) (below : List Frame) (meth : Method) (c : Code) (A : Nat → Prop), p.tables.exec = Jvm.exec → c.code = b → c.maxLocals = n → meth.sig.returnType = none → (∀ w ∈ TBL, w.before as.toArray s = true) → s.vm.findClass y.cls = some m.cls → meth.name = y.name → meth.locks = false → va_K D vwCl (tys2 cI cC) s → NW s → va_P D vwCl wc s.heap → va_D A wc → (∀ q : Nat, s.heap.size ≤ q → A q) → ∀ ls : Array Slot, lv_has ls n (lv_args 0 as) →
      (∀ (H : Heap) (locs : List Loc) (u : Nat → Nat) (pc : Nat) (ls : Array Slot), va_P D vwCl (w1 u) H → va_D A (w1 u) → va_S A s.heap H locs → decode b pc = .ok (.return_, 1) → W p l e rm s m as.toArray below meth c H locs mc ms (MQ below (va_Qv (fun _ : Nat → Nat => True) (fun u t => va_P D vwCl (w1 u) t.heap ∧ va_D A (w1 u)) A) as.toArray s mc ms A) (F0 m pc ls [])) →
      W p l e rm s m as.toArray below meth c s.heap [] 0 0 (MQ below (va_Qv (fun _ : Nat → Nat => True) (fun u t => va_P D vwCl (w1 u) t.heap ∧ va_D A (w1 u)) A) as.toArray s mc ms A) (F0 m 0 ls [])) : CtorM l y b n rm D cI cC as wc w1 mc ms := by
  intro sz
  refine va_MetF (cc := b) (maxL := n) (ret := none) hpl rfl ?_
  intro p e s m args below meth c s₁ B hml hv
  obtain ⟨rfl, hsz, hP, hK, hNW, hD0⟩ := hv
  have hts0 := atoms_spec (ws := .code y b n none :: TBL) B.pre
  subst hsz
  have hD := hD0.self (sz := s.heap.size)
  have hA : ∀ q : Nat, s.heap.size ≤ q → va_A wc s.heap.size q := fun q h => Or.inr h
  have hl := lv_entry as hn
  rw [lg_entry_eq]
  exact k p e s m below meth c _ B.exec B.bytes hml B.returns (fun w hw => hts0 w (List.mem_cons_of_mem _ hw)) (findClass_of_methodNamed B.named) ((name_of_methodNamed B.named B.method).1) B.notSynchronized hK hNW hP hD hA _ hl
    (fun H locs u pc ls hP2 hD2 hS2 hdg => W.vret B.exec B.bytes B.returns (fun t ht hW => ⟨⟨u, rfl, trivial, by rw [ht]; exact hP2, hD2⟩, hS2.F ht⟩) hS2.2.2 hdg B.notSynchronized)
theorem map_some_filter {α β : Type} {f : α → Option β} {l : List α} {r : List β} (h : l.map f = r.map some) : l.filterMap f = r := by
  have e : l.filterMap f = (l.map f).filterMap id := by rw [List.filterMap_map]; rfl
  rw [e, h, List.filterMap_map]
  simp
theorem NW.call {s : State} (h : NW s) (a : Array Value) (g : JFrame) (mk : MethodId) : NW (s.calling g mk a) := h.same (U := s.calling g mk a) rfl
section AWC
variable {p : Program} {l : Launch} {e : Env} {R : Room} {s : State} {m : MethodId} {args : Array Value} {below : List Frame} {meth : Method} {c : Code} {H : Heap} {locs : List Loc} {cells slots : Nat} {Q : State → Prop}
variable {cc : ByteArray} {pc : Nat} {ls : Array Slot} {rest st0 : List Value} {D : va_G} {A : Nat → Prop} {ws wc wr : va_W} {w1 : (Nat → Nat) → va_W} {cI cC : ClassId}
variable {own host : String} {y : MethodName} {b : ByteArray} {n na index q mc ms : Nat} {as : List Value} {rm : Room} {nL : Nat} {ls0 : List (Nat × Value)}
theorem aw_pre {sz : Nat} {B : State → Prop} (hB : B = (fun U => U.heap.size = H.size ∧ va_P D vwCl wc U.heap ∧ va_K D vwCl (tys2 cI cC) U ∧ NW U ∧ va_D (fun _ => True) wc)) (hK : va_K D vwCl (tys2 cI cC) s) (hN : NW s) (hPc : va_P D vwCl wc H) (hDc : va_D A wc) : PreS s H (va_Pc as B) as := by
  subst hB
  exact ⟨fun a U g mk h => ⟨h.1, h.2.1, h.2.2.1, va_K.moved (u := U) (U := U.calling g mk a) (Vm.Alike.refl U.vm) h.2.2.2.1, h.2.2.2.2.1.call a g mk, h.2.2.2.2.2⟩,
    fun U hU hW => ⟨rfl, by rw [hU], by rw [hU]; exact hPc, va_K.moved hW.alike hK, hN.warm hW, hDc.weaken (fun _ _ _ _ => trivial)⟩⟩
theorem aw_initN (hx : p.tables.exec = Jvm.exec) (hb : c.code = cc) (hml : c.maxLocals = nL) (hown : s.vm.findClass own = some m.cls) (hts : ∀ w ∈ TBL, w.before args s = true) (hM : CtorM l y b n rm D cI cC (.ref q :: as) wc w1 mc ms) (hK : va_K D vwCl (tys2 cI cC) s) (hN : NW s) (hcw : CW y b n none na) (hin : Cond.instanceMethod y ∈ TBL) (hnm : y.name = "<init>") (hl : (own, index, y, host) ∈ nestM) (hrc : rm.cells = mc ∧ rm.slots = ms) (hR : rm.frames + 1 ≤ R.frames ∧ 8 + (n + 11) + rm.locals ≤ R.locals)
    (hP : va_P D vwCl ws H) (hD : va_D A ws) (hS : va_S A s.heap H locs) (hA : ∀ q : Nat, s.heap.size ≤ q → A q) (isC isR : List Nat) (hC : isC.map (fun i => ws[i]?) = wc.map some) (hRr : isR.map (fun i => ws[i]?) = wr.map some) (hnC : va_nd isC = true) (hnR : va_nd isR = true) (hdis : ∀ i ∈ isR, i ∉ isC) (has : as.length = na) (hls : lv_has ls nL ls0) (hstk : st0 = as.reverse ++ .ref q :: rest) (hcat : (rest.map fun v => v.category).sum ≤ 8) (hdg : decode cc pc = .ok (.invokespecial index, 3)) (hf : cells + mc ≤ R.cells ∧ slots + ms ≤ R.slots)
    (kk : ∀ (u : Nat → Nat) (H1 : Heap) (locs1 : List Loc), va_P D vwCl (wr ++ w1 u) H1 → va_D A (wr ++ w1 u) → va_S A s.heap H1 locs1 → W p l e R s m args below meth c H1 locs1 (cells + mc) (slots + ms) Q (F0 m (pc + 3) ls rest)) : W p l e R s m args below meth c H locs cells slots Q (F0 m pc ls st0) := by
  have hPc := hP.sub (ws' := wc) isC (map_some_filter hC)
  have hDc := hD.sub (ws' := wc) isC hnC hC
  have hFc := va_free (wc := wc) hD hS hA isC hC
  refine va_callv (va_runIN (As := as) (rest := rest) ⟨hx, hb, hml, hown, hts⟩ (hM H.size) ⟨va_cnB na hts (cw_good hcw) rfl hrc.1 hrc.2 (hN _ hl) (hts _ hcw.2.1) ⟨hcw.2.2.1.1, hcw.2.2.1.2, hcw.2.2.2⟩ hR, hnm, hts _ hin⟩ (aw_pre (sz := 0) rfl hK hN hPc hDc) rfl has hls.1 hstk (lv_room hcat) hdg hf) hS (fun q _ h => hFc q h) hFc (fun u t H1 locs1 ht hvm hp hB hz1 hk1 hS1 => ?_)
  obtain ⟨hP1, hD1⟩ := hB
  rw [ht] at hP1
  obtain ⟨hP2, hD2⟩ := va_join (wr := wr) (w1 := w1 u) hP hD isC isR hC hRr hnR hdis hk1 hFc hP1 hD1
  exact kk u H1 locs1 hP2 hD2 hS1
theorem aw_init (hx : p.tables.exec = Jvm.exec) (hb : c.code = cc) (hml : c.maxLocals = nL) (hown : s.vm.findClass own = some m.cls) (hts : ∀ w ∈ TBL, w.before args s = true) (hM : CtorM l y b n rm D cI cC (.ref q :: as) wc w1 mc ms) (hK : va_K D vwCl (tys2 cI cC) s) (hN : NW s) (hcw : CW y b n none na) (hin : Cond.instanceMethod y ∈ TBL) (hnm : y.name = "<init>") (hl : Cond.methodLink own index y ∈ TBL) (hrc : rm.cells = mc ∧ rm.slots = ms) (hR : rm.frames + 1 ≤ R.frames ∧ 8 + (n + 11) + rm.locals ≤ R.locals)
    (hP : va_P D vwCl ws H) (hD : va_D A ws) (hS : va_S A s.heap H locs) (hA : ∀ q : Nat, s.heap.size ≤ q → A q) (isC isR : List Nat) (hC : isC.map (fun i => ws[i]?) = wc.map some) (hRr : isR.map (fun i => ws[i]?) = wr.map some) (hnC : va_nd isC = true) (hnR : va_nd isR = true) (hdis : ∀ i ∈ isR, i ∉ isC) (has : as.length = na) (hls : lv_has ls nL ls0) (hstk : st0 = as.reverse ++ .ref q :: rest) (hcat : (rest.map fun v => v.category).sum ≤ 8) (hdg : decode cc pc = .ok (.invokespecial index, 3)) (hf : cells + mc ≤ R.cells ∧ slots + ms ≤ R.slots)
    (kk : ∀ (u : Nat → Nat) (H1 : Heap) (locs1 : List Loc), va_P D vwCl (wr ++ w1 u) H1 → va_D A (wr ++ w1 u) → va_S A s.heap H1 locs1 → W p l e R s m args below meth c H1 locs1 (cells + mc) (slots + ms) Q (F0 m (pc + 3) ls rest)) : W p l e R s m args below meth c H locs cells slots Q (F0 m pc ls st0) := by
  have hPc := hP.sub (ws' := wc) isC (map_some_filter hC)
  have hDc := hD.sub (ws' := wc) isC hnC hC
  have hFc := va_free (wc := wc) hD hS hA isC hC
  refine va_callv (va_runI (As := as) (rest := rest) ⟨hx, hb, hml, hown, hts⟩ (hM H.size) ⟨callB_of na hts (cw_good hcw) rfl hrc.1 hrc.2 (hts _ hcw.2.1) (hts _ hl) ⟨hcw.2.2.1.1, hcw.2.2.1.2, hcw.2.2.2⟩ hR, hnm, hts _ hin⟩ (aw_pre (sz := 0) rfl hK hN hPc hDc) rfl has hls.1 hstk (lv_room hcat) hdg hf) hS (fun q _ h => hFc q h) hFc (fun u t H1 locs1 ht hvm hp hB hz1 hk1 hS1 => ?_)
  obtain ⟨hP1, hD1⟩ := hB
  rw [ht] at hP1
  obtain ⟨hP2, hD2⟩ := va_join (wr := wr) (w1 := w1 u) hP hD isC isR hC hRr hnR hdis hk1 hFc hP1 hD1
  exact kk u H1 locs1 hP2 hD2 hS1
theorem aw_new {ci N : Nat} {CN : String} {T : u_T} {fs : List Value} (hx : p.tables.exec = Jvm.exec) (hb : c.code = cc) (hts : ∀ w ∈ TBL, w.before args s = true) (hown : s.vm.findClass own = some m.cls) (hcl : Cond.classLink own index CN ∈ TBL) (hinst : Cond.instantiable CN N ∈ TBL) (hini : Cond.initialized CN ∈ TBL) (ty : Nat → FieldType) (hty : ∀ k, k < N → parseFieldDescriptor (T k).2.2.1 = some (ty k)) (hK : va_K D vwCl (tys2 cI cC) s) (hP : va_P D vwCl ws H) (hD : va_D A ws) (hS : va_S A s.heap H locs) (hA : ∀ q : Nat, s.heap.size ≤ q → A q) (hc : vwCl[ci]? = some (CN, T, N)) (hfs : ∀ j, j < N → defaultValue (ty j) = vp_V fs j) (hcells : cells + 1 ≤ R.cells) (hslots : slots + N ≤ R.slots) (hdg : decode cc pc = .ok (.new index, 3))
    (kk : ∀ (q : Nat) (H1 : Heap), va_P D vwCl (ws ++ [(q, .inr (ci, fs))]) H1 → va_D A (ws ++ [(q, .inr (ci, fs))]) → va_S A s.heap H1 locs → W p l e R s m args below meth c H1 locs (cells + 1) (slots + N) Q (F0 m (pc + 3) ls (.ref q :: rest))) : W p l e R s m args below meth c H locs cells slots Q (F0 m pc ls rest) :=
  va_new hx hb hts (inT ci _ hc) ty hty hown (hts _ hcl) (hts _ hinst) (hts _ hini) hK hP hD hS hA hc hfs hcells hslots hdg kk
end AWC
abbrev w0B (h0 : Nat) (u : Nat → Nat) : va_W → va_W := fun r => (h0, .inr (0, [.ref (u 0)])) :: r
set_option maxRecDepth 100000 in
set_option maxHeartbeats 4000000 in
/-- Bundle(): its row comes -/
theorem c_X0_init (l : Launch) (D : va_G) (cI cC : ClassId) (h0 : Nat) : CtorM l yX0_init cX0_init 1 { frames := 1, cells := 1, slots := 179, locals := 40 } D cI cC [.ref h0] [(h0, .inr (0, [.null]))] (fun u => [(h0, .inr (0, [.ref (u 0)])), (u 0, .inl (cI, 179, .inl (fun _ => 0)))]) 1 179 := by
  refine CtorM.of (by decide +kernel) (Nat.le_of_ble_eq_true rfl) ?_
  intro p e s m below meth c A hx hb hml hr hts hown hin hlk hK hNW hP hD hA ls hl hend
  have hS : va_S A s.heap s.heap [] := va_S.rf
  have hl : lv_has ls 1 [(0, .ref h0)] := hl
  refine lv_aload_n hx hb dX0_init_0 rfl (lv_at hl 0 rfl) ?_
  refine aw_obj hx hb hts hown hml ml_X0_5 hl rfl dX0_init_1 (Nat.le_of_ble_eq_true rfl) (Nat.le_of_ble_eq_true rfl) ?_
  refine lv_aload_n hx hb dX0_init_4 rfl (lv_at hl 0 rfl) ?_
  refine lv_sipush (v := 179) hx hb dX0_init_5 (by decide) ?_
  refine aw_newi hx hb hts hK hP hD hS hA 179 (by decide) (by decide) (Nat.le_of_ble_eq_true rfl) (Nat.le_of_ble_eq_true rfl) (Nat.le_of_ble_eq_true rfl) dX0_init_8 (fun q H hP hD hS => ?_)
  refine aw_putF (CN := RX0) (ci := 0) (k := 0) (q0 := 0) (ty := .array .int) hx hb hts hown hin hK hP hD hS rfl rfl (by decide) fl_X0_11 rfl rfl (by decide +kernel) rfl rfl (Nat.le_of_ble_eq_true rfl) dX0_init_10 (fun H locs hP hD hS => ?_)
  exact hend H locs (fun _ => q) _ _ hP hD hS dX0_init_13
