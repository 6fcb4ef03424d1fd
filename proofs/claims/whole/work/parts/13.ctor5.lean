theorem clsA_app (w : Wd) (h : Hp) : ∀ (a b : Ly) (q : Nat), clsA w h q (a ++ b) = clsA w h q a ++ clsA w h (q + a.length) b
  | [], b, q => by simp [clsA]
  | e :: a, b, q => by
    simp only [List.cons_append, clsA, clsA_app w h a b (q + 1), List.length_cons]
    rw [show q + 1 + a.length = q + (a.length + 1) by omega]
theorem clsA_congr {w w' : Wd} {h h' : Hp} : ∀ (es : Ly) (q : Nat), (∀ i e, es[i]? = some e → pcell w h (q + i) e = pcell w' h' (q + i) e) → clsA w h q es = clsA w' h' q es
  | [], q, _ => rfl
  | e :: es, q, hc => by
    have h0 := hc 0 e rfl
    simp only [Nat.add_zero] at h0
    simp only [clsA, h0]
    have ih := clsA_congr (w := w) (w' := w') (h := h) (h' := h') es (q + 1) (fun i e' he => by
      have h1 := hc (i + 1) e' (by simpa using he)
      have e1 : q + (i + 1) = q + 1 + i := by omega
      rw [e1] at h1
      exact h1)
    rw [ih]
theorem va_P_mem {D : va_G} {cl : List vw_C} {ws ws' : va_W} {H : Heap} (h : va_P D cl ws H) (hs : ∀ q ∈ ws', q ∈ ws) : va_P D cl ws' H := fun k q hk => by
  obtain ⟨j, hj⟩ := List.getElem?_of_mem (hs q (List.mem_of_getElem? hk))
  exact h j q hj
theorem va_D_iff {A : Nat → Prop} {ws : va_W} : va_D A ws ↔ (ws.map Prod.fst).Nodup ∧ ∀ q ∈ ws, A q.1 := by
  constructor
  · intro hD
    refine ⟨List.pairwise_iff_getElem.mpr (fun i j hi hj hij e => ?_), fun q hq => ?_⟩
    · simp only [List.length_map] at hi hj
      have := hD.1 i j ws[i] ws[j] (List.getElem?_eq_getElem hi) (List.getElem?_eq_getElem hj) (by simpa using e)
      omega
    · obtain ⟨j, hj⟩ := List.getElem?_of_mem hq
      exact hD.2 j q hj
  · intro ⟨hn, hA⟩
    refine ⟨fun i j p q hp hq hpq => ?_, fun k q hk => hA q (List.mem_of_getElem? hk)⟩
    have hi := (List.getElem?_eq_some_iff.mp hp)
    have hj := (List.getElem?_eq_some_iff.mp hq)
    have hn' := List.pairwise_iff_getElem.mp hn
    rcases Nat.lt_trichotomy i j with h | h | h
    · exact (hn' i j (by simpa using hi.1) (by simpa using hj.1) h (by simp [hi.2, hj.2, hpq])).elim
    · exact h
    · exact (hn' j i (by simpa using hj.1) (by simpa using hi.1) h (by simp [hi.2, hj.2, hpq])).elim
theorem va_D_perm {A : Nat → Prop} {ws ws' : va_W} (hp : ws.Perm ws') (hD : va_D A ws) : va_D A ws' := by
  rw [va_D_iff] at hD ⊢
  exact ⟨(hp.map Prod.fst).nodup_iff.mp hD.1, fun q hq => hD.2 q (hp.mem_iff.mpr hq)⟩
def hM0 (h : Hp) : Hp := fun q => if q < 22 then h q else fun _ => 0
def adM (adX : Nat → Nat) (l : List Nat) : Nat → Nat := fun i => if i < 22 then adX i else l.getD (i - 22) 0
theorem adM_lt {adX : Nat → Nat} {l : List Nat} {i : Nat} (h : i < 22) : adM adX l i = adX i := if_pos h
def dynok (h : Hp) : Prop := (h 12 3 = 16 ∨ h 12 3 = 17) ∧ (h 12 4 = 16 ∨ h 12 4 = 17)
theorem dyn_lt {v : Int32} (h : v = 16 ∨ v = 17) : v.toNatClampNeg < 22 := by
  rcases h with e | e <;> subst e <;> decide +kernel
set_option maxRecDepth 100000 in
theorem clsM_x {D : va_G} {cI cC : ClassId} {t : Nat} {adX : Nat → Nat} {l : List Nat} {h : Hp} (hdyn : dynok h) : clsA (wdX D cI cC t (adM adX l) (lyX ++ lyM)) (hM0 h) 0 lyX = cls (wdX D cI cC t adX lyX) h := by
  refine clsA_congr lyX 0 (fun i e he => ?_)
  rw [Nat.zero_add]
  exact match i, he with
  | 0, he => by cases he; rfl
  | 1, he => by cases he; rfl
  | 2, he => by cases he; rfl
  | 3, he => by cases he; rfl
  | 4, he => by cases he; rfl
  | 5, he => by cases he; rfl
  | 6, he => by cases he; rfl
  | 7, he => by cases he; rfl
  | 8, he => by cases he; rfl
  | 9, he => by cases he; rfl
  | 10, he => by cases he; rfl
  | 11, he => by cases he; rfl
  | 12, he => by
    cases he
    unfold pcell
    rw [if_pos rfl, if_pos rfl]
    have k3 : fv (wdX D cI cC t (adM adX l) (lyX ++ lyM)) (hM0 h) 12 3 1 = fv (wdX D cI cC t adX lyX) h 12 3 1 := by
      show Value.ref (adM adX l (h 12 3).toNatClampNeg) = Value.ref (adX (h 12 3).toNatClampNeg)
      rw [adM_lt (dyn_lt hdyn.1)]
    have k4 : fv (wdX D cI cC t (adM adX l) (lyX ++ lyM)) (hM0 h) 12 4 1 = fv (wdX D cI cC t adX lyX) h 12 4 1 := by
      show Value.ref (adM adX l (h 12 4).toNatClampNeg) = Value.ref (adX (h 12 4).toNatClampNeg)
      rw [adM_lt (dyn_lt hdyn.2)]
    have e2 : fvs (wdX D cI cC t (adM adX l) (lyX ++ lyM)) (hM0 h) 12 0 [15, 16, 17, 1, 1, 0, 0, 0, 0] = fvs (wdX D cI cC t adX lyX) h 12 0 [15, 16, 17, 1, 1, 0, 0, 0, 0] := by
      simp only [fvs, Nat.zero_add, Nat.reduceAdd, k3, k4]
      rfl
    show (adM adX l 12, (Sum.inr (2, fvs (wdX D cI cC t (adM adX l) (lyX ++ lyM)) (hM0 h) 12 0 [15, 16, 17, 1, 1, 0, 0, 0, 0]) : va_E)) = _
    rw [e2]
    rfl
  | 13, he => by cases he; rfl
  | 14, he => by cases he; rfl
  | 15, he => by cases he; rfl
  | 16, he => by cases he; rfl
  | 17, he => by cases he; rfl
  | 18, he => by cases he; rfl
  | 19, he => by cases he; rfl
  | 20, he => by cases he; rfl
  | 21, he => by cases he; rfl
  | k + 22, he => by simp [lyX] at he
set_option maxRecDepth 100000 in
set_option maxHeartbeats 8000000 in
theorem c_X5_init (l : Launch) (D : va_G) (cI cC : ClassId) (t sk sv h0 sz N : Nat) (adX : Nat → Nat) (h : Hp) (hdyn : dynok h) (r : Rs) (hr0 : fX5_initT N (hM0 h) = some r) : Met l yX5_init (.code yX5_init cX5_init 1 none :: TBL) { frames := 1000, cells := 11, slots := 2191, locals := 40000 } (va_Pc [.ref h0] (fun U => U.heap.size = sz ∧ va_P D vwCl ((h0, .inr (5, [.null, .null, .int 0, .null, .int 0, .null, .int 0, .null, .int 0, .int 0, .int 0, .null, .null, .null, .null, .null, .null])) :: cls (wdX D cI cC t adX lyX) h) U.heap ∧ va_D (fun _ => True) ((h0, .inr (5, [.null, .null, .int 0, .null, .int 0, .null, .int 0, .null, .int 0, .int 0, .int 0, .null, .null, .null, .null, .null, .null])) :: cls (wdX D cI cC t adX lyX) h) ∧ SU D cI cC t sk sv (va_A ((h0, .inr (5, [.null, .null, .int 0, .null, .int 0, .null, .int 0, .null, .int 0, .int 0, .int 0, .null, .null, .null, .null, .null, .null])) :: cls (wdX D cI cC t adX lyX) h) sz) U)) (va_Qv (fun _ : Nat → Nat => True) (fun ad u => (∀ i, i < 22 → ad i = adX i) ∧ ad 22 = h0 ∧ va_P D vwCl (cls (wdX D cI cC t ad (lyX ++ lyM)) r.2) u.heap ∧ va_D (va_A ((h0, .inr (5, [.null, .null, .int 0, .null, .int 0, .null, .int 0, .null, .int 0, .int 0, .int 0, .null, .null, .null, .null, .null, .null])) :: cls (wdX D cI cC t adX lyX) h) sz) (cls (wdX D cI cC t ad (lyX ++ lyM)) r.2)) (va_A ((h0, .inr (5, [.null, .null, .int 0, .null, .int 0, .null, .int 0, .null, .int 0, .int 0, .int 0, .null, .null, .null, .null, .null, .null])) :: cls (wdX D cI cC t adX lyX) h) sz)) 11 2191 (va_A ((h0, .inr (5, [.null, .null, .int 0, .null, .int 0, .null, .int 0, .null, .int 0, .int 0, .int 0, .null, .null, .null, .null, .null, .null])) :: cls (wdX D cI cC t adX lyX) h) sz) := by
  refine va_MetF (cc := cX5_init) (maxL := 1) (ret := none) (by decide +kernel) rfl ?_
  intro p e s m args below meth c s₁ B hml hv
  obtain ⟨rfl, hsz, hP, hD0, hU⟩ := hv
  have hx := B.exec
  have hb := B.bytes
  have hr := B.returns
  have hts0 := atoms_spec (ws := .code yX5_init cX5_init 1 none :: TBL) B.pre
  have hts : ∀ w ∈ TBL, w.before #[.ref h0] s = true := fun w hw => hts0 w (List.mem_cons_of_mem _ hw)
  have hown : s.vm.findClass RX5 = some m.cls := findClass_of_methodNamed B.named
  have hin : meth.name = "<init>" := (name_of_methodNamed B.named B.method).1
  have hlk := B.notSynchronized
  subst hsz
  have hD := hD0.self (sz := s.heap.size)
  have hA : ∀ q : Nat, s.heap.size ≤ q → va_A ((h0, .inr (5, [.null, .null, .int 0, .null, .int 0, .null, .int 0, .null, .int 0, .int 0, .int 0, .null, .null, .null, .null, .null, .null])) :: cls (wdX D cI cC t adX lyX) h) s.heap.size q := fun q h => Or.inr h
  generalize va_A ((h0, .inr (5, [.null, .null, .int 0, .null, .int 0, .null, .int 0, .null, .int 0, .int 0, .int 0, .null, .null, .null, .null, .null, .null])) :: cls (wdX D cI cC t adX lyX) h) s.heap.size = A at hA hD hU ⊢
  have hcx := fun l : List Nat => clsM_x (D := D) (cI := cI) (cC := cC) (t := t) (adX := adX) (l := l) (h := h) (hdyn := hdyn)
  generalize cls (wdX D cI cC t adX lyX) h = cx at hP hD hcx
  have hK := hU.1
  have hS : va_S A s.heap s.heap [] := va_S.rf
  have hl := lv_entry ([.ref h0]) (n := 1) (Nat.le_of_ble_eq_true rfl)
  rw [lg_entry_eq]
  generalize (lg_sl ([.ref h0]) ++ List.replicate (1 - (lg_sl ([.ref h0])).length) Slot.unset).toArray = ls at hl ⊢
  have hl : lv_has ls 1 [(0, .ref h0)] := hl
  refine lv_aload_n hx hb dX5_init_0 rfl (lv_at hl 0 rfl) ?_
  refine aw_obj hx hb hts hown hml ml_X5_1 hl rfl dX5_init_1 (Nat.le_of_ble_eq_true rfl) (Nat.le_of_ble_eq_true rfl) ?_
  refine lv_aload_n hx hb dX5_init_4 rfl (lv_at hl 0 rfl) ?_
  refine lv_sipush (v := 162) hx hb dX5_init_5 (by decide) ?_
  refine aw_newi hx hb hts hK hP hD hS hA 162 (by decide) (by decide) (Nat.le_of_ble_eq_true rfl) (Nat.le_of_ble_eq_true rfl) (Nat.le_of_ble_eq_true rfl) dX5_init_8 (fun q1 H hP hD hS => ?_)
  have hP : va_P D vwCl ((h0, .inr (5, [.null, .null, .int 0, .null, .int 0, .null, .int 0, .null, .int 0, .int 0, .int 0, .null, .null, .null, .null, .null, .null])) :: (cx ++ [(q1, .inl (cI, 162, .inl (fun _ => 0)))])) H := hP
  have hD : va_D A ((h0, .inr (5, [.null, .null, .int 0, .null, .int 0, .null, .int 0, .null, .int 0, .int 0, .int 0, .null, .null, .null, .null, .null, .null])) :: (cx ++ [(q1, .inl (cI, 162, .inl (fun _ => 0)))])) := hD
  refine aw_putF (CN := RX5) (ci := 5) (k := 0) (q0 := 0) (ty := (.array .int)) hx hb hts hown hin hK hP hD hS rfl rfl (by decide) fl_X5_7 rfl rfl (by decide +kernel) rfl rfl (Nat.le_of_ble_eq_true rfl) dX5_init_10 (fun H locs hP hD hS => ?_)
  have hP : va_P D vwCl ((h0, .inr (5, [.ref q1, .null, .int 0, .null, .int 0, .null, .int 0, .null, .int 0, .int 0, .int 0, .null, .null, .null, .null, .null, .null])) :: (cx ++ [(q1, .inl (cI, 162, .inl (fun _ => 0)))])) H := hP
  have hD : va_D A ((h0, .inr (5, [.ref q1, .null, .int 0, .null, .int 0, .null, .int 0, .null, .int 0, .int 0, .int 0, .null, .null, .null, .null, .null, .null])) :: (cx ++ [(q1, .inl (cI, 162, .inl (fun _ => 0)))])) := hD
  refine lv_aload_n hx hb dX5_init_13 rfl (lv_at hl 0 rfl) ?_
  refine lv_sipush (v := 1296) hx hb dX5_init_14 (by decide) ?_
  refine aw_newi hx hb hts hK hP hD hS hA 1296 (by decide) (by decide) (Nat.le_of_ble_eq_true rfl) (Nat.le_of_ble_eq_true rfl) (Nat.le_of_ble_eq_true rfl) dX5_init_17 (fun q2 H hP hD hS => ?_)
  have hP : va_P D vwCl ((h0, .inr (5, [.ref q1, .null, .int 0, .null, .int 0, .null, .int 0, .null, .int 0, .int 0, .int 0, .null, .null, .null, .null, .null, .null])) :: ((cx ++ [(q1, .inl (cI, 162, .inl (fun _ => 0)))]) ++ [(q2, .inl (cI, 1296, .inl (fun _ => 0)))])) H := hP
  have hD : va_D A ((h0, .inr (5, [.ref q1, .null, .int 0, .null, .int 0, .null, .int 0, .null, .int 0, .int 0, .int 0, .null, .null, .null, .null, .null, .null])) :: ((cx ++ [(q1, .inl (cI, 162, .inl (fun _ => 0)))]) ++ [(q2, .inl (cI, 1296, .inl (fun _ => 0)))])) := hD
  refine aw_putF (CN := RX5) (ci := 5) (k := 1) (q0 := 0) (ty := (.array .int)) hx hb hts hown hin hK hP hD hS rfl rfl (by decide) fl_X5_13 rfl rfl (by decide +kernel) rfl rfl (Nat.le_of_ble_eq_true rfl) dX5_init_19 (fun H locs hP hD hS => ?_)
  have hP : va_P D vwCl ((h0, .inr (5, [.ref q1, .ref q2, .int 0, .null, .int 0, .null, .int 0, .null, .int 0, .int 0, .int 0, .null, .null, .null, .null, .null, .null])) :: ((cx ++ [(q1, .inl (cI, 162, .inl (fun _ => 0)))]) ++ [(q2, .inl (cI, 1296, .inl (fun _ => 0)))])) H := hP
  have hD : va_D A ((h0, .inr (5, [.ref q1, .ref q2, .int 0, .null, .int 0, .null, .int 0, .null, .int 0, .int 0, .int 0, .null, .null, .null, .null, .null, .null])) :: ((cx ++ [(q1, .inl (cI, 162, .inl (fun _ => 0)))]) ++ [(q2, .inl (cI, 1296, .inl (fun _ => 0)))])) := hD
  refine lv_aload_n hx hb dX5_init_22 rfl (lv_at hl 0 rfl) ?_
  refine lv_sipush (v := 324) hx hb dX5_init_23 (by decide) ?_
  refine aw_newi hx hb hts hK hP hD hS hA 324 (by decide) (by decide) (Nat.le_of_ble_eq_true rfl) (Nat.le_of_ble_eq_true rfl) (Nat.le_of_ble_eq_true rfl) dX5_init_26 (fun q3 H hP hD hS => ?_)
  have hP : va_P D vwCl ((h0, .inr (5, [.ref q1, .ref q2, .int 0, .null, .int 0, .null, .int 0, .null, .int 0, .int 0, .int 0, .null, .null, .null, .null, .null, .null])) :: (((cx ++ [(q1, .inl (cI, 162, .inl (fun _ => 0)))]) ++ [(q2, .inl (cI, 1296, .inl (fun _ => 0)))]) ++ [(q3, .inl (cI, 324, .inl (fun _ => 0)))])) H := hP
  have hD : va_D A ((h0, .inr (5, [.ref q1, .ref q2, .int 0, .null, .int 0, .null, .int 0, .null, .int 0, .int 0, .int 0, .null, .null, .null, .null, .null, .null])) :: (((cx ++ [(q1, .inl (cI, 162, .inl (fun _ => 0)))]) ++ [(q2, .inl (cI, 1296, .inl (fun _ => 0)))]) ++ [(q3, .inl (cI, 324, .inl (fun _ => 0)))])) := hD
  refine aw_putF (CN := RX5) (ci := 5) (k := 3) (q0 := 0) (ty := (.array .int)) hx hb hts hown hin hK hP hD hS rfl rfl (by decide) fl_X5_16 rfl rfl (by decide +kernel) rfl rfl (Nat.le_of_ble_eq_true rfl) dX5_init_28 (fun H locs hP hD hS => ?_)
  have hP : va_P D vwCl ((h0, .inr (5, [.ref q1, .ref q2, .int 0, .ref q3, .int 0, .null, .int 0, .null, .int 0, .int 0, .int 0, .null, .null, .null, .null, .null, .null])) :: (((cx ++ [(q1, .inl (cI, 162, .inl (fun _ => 0)))]) ++ [(q2, .inl (cI, 1296, .inl (fun _ => 0)))]) ++ [(q3, .inl (cI, 324, .inl (fun _ => 0)))])) H := hP
  have hD : va_D A ((h0, .inr (5, [.ref q1, .ref q2, .int 0, .ref q3, .int 0, .null, .int 0, .null, .int 0, .int 0, .int 0, .null, .null, .null, .null, .null, .null])) :: (((cx ++ [(q1, .inl (cI, 162, .inl (fun _ => 0)))]) ++ [(q2, .inl (cI, 1296, .inl (fun _ => 0)))]) ++ [(q3, .inl (cI, 324, .inl (fun _ => 0)))])) := hD
  refine lv_aload_n hx hb dX5_init_31 rfl (lv_at hl 0 rfl) ?_
  refine lv_sipush (v := 200) hx hb dX5_init_32 (by decide) ?_
  refine aw_newi hx hb hts hK hP hD hS hA 200 (by decide) (by decide) (Nat.le_of_ble_eq_true rfl) (Nat.le_of_ble_eq_true rfl) (Nat.le_of_ble_eq_true rfl) dX5_init_35 (fun q4 H hP hD hS => ?_)
  have hP : va_P D vwCl ((h0, .inr (5, [.ref q1, .ref q2, .int 0, .ref q3, .int 0, .null, .int 0, .null, .int 0, .int 0, .int 0, .null, .null, .null, .null, .null, .null])) :: ((((cx ++ [(q1, .inl (cI, 162, .inl (fun _ => 0)))]) ++ [(q2, .inl (cI, 1296, .inl (fun _ => 0)))]) ++ [(q3, .inl (cI, 324, .inl (fun _ => 0)))]) ++ [(q4, .inl (cI, 200, .inl (fun _ => 0)))])) H := hP
  have hD : va_D A ((h0, .inr (5, [.ref q1, .ref q2, .int 0, .ref q3, .int 0, .null, .int 0, .null, .int 0, .int 0, .int 0, .null, .null, .null, .null, .null, .null])) :: ((((cx ++ [(q1, .inl (cI, 162, .inl (fun _ => 0)))]) ++ [(q2, .inl (cI, 1296, .inl (fun _ => 0)))]) ++ [(q3, .inl (cI, 324, .inl (fun _ => 0)))]) ++ [(q4, .inl (cI, 200, .inl (fun _ => 0)))])) := hD
  refine aw_putF (CN := RX5) (ci := 5) (k := 5) (q0 := 0) (ty := (.array .int)) hx hb hts hown hin hK hP hD hS rfl rfl (by decide) fl_X5_19 rfl rfl (by decide +kernel) rfl rfl (Nat.le_of_ble_eq_true rfl) dX5_init_37 (fun H locs hP hD hS => ?_)
  have hP : va_P D vwCl ((h0, .inr (5, [.ref q1, .ref q2, .int 0, .ref q3, .int 0, .ref q4, .int 0, .null, .int 0, .int 0, .int 0, .null, .null, .null, .null, .null, .null])) :: ((((cx ++ [(q1, .inl (cI, 162, .inl (fun _ => 0)))]) ++ [(q2, .inl (cI, 1296, .inl (fun _ => 0)))]) ++ [(q3, .inl (cI, 324, .inl (fun _ => 0)))]) ++ [(q4, .inl (cI, 200, .inl (fun _ => 0)))])) H := hP
  have hD : va_D A ((h0, .inr (5, [.ref q1, .ref q2, .int 0, .ref q3, .int 0, .ref q4, .int 0, .null, .int 0, .int 0, .int 0, .null, .null, .null, .null, .null, .null])) :: ((((cx ++ [(q1, .inl (cI, 162, .inl (fun _ => 0)))]) ++ [(q2, .inl (cI, 1296, .inl (fun _ => 0)))]) ++ [(q3, .inl (cI, 324, .inl (fun _ => 0)))]) ++ [(q4, .inl (cI, 200, .inl (fun _ => 0)))])) := hD
  refine lv_aload_n hx hb dX5_init_40 rfl (lv_at hl 0 rfl) ?_
  refine lv_sipush (v := 162) hx hb dX5_init_41 (by decide) ?_
  refine aw_newi hx hb hts hK hP hD hS hA 162 (by decide) (by decide) (Nat.le_of_ble_eq_true rfl) (Nat.le_of_ble_eq_true rfl) (Nat.le_of_ble_eq_true rfl) dX5_init_44 (fun q5 H hP hD hS => ?_)
  have hP : va_P D vwCl ((h0, .inr (5, [.ref q1, .ref q2, .int 0, .ref q3, .int 0, .ref q4, .int 0, .null, .int 0, .int 0, .int 0, .null, .null, .null, .null, .null, .null])) :: (((((cx ++ [(q1, .inl (cI, 162, .inl (fun _ => 0)))]) ++ [(q2, .inl (cI, 1296, .inl (fun _ => 0)))]) ++ [(q3, .inl (cI, 324, .inl (fun _ => 0)))]) ++ [(q4, .inl (cI, 200, .inl (fun _ => 0)))]) ++ [(q5, .inl (cI, 162, .inl (fun _ => 0)))])) H := hP
  have hD : va_D A ((h0, .inr (5, [.ref q1, .ref q2, .int 0, .ref q3, .int 0, .ref q4, .int 0, .null, .int 0, .int 0, .int 0, .null, .null, .null, .null, .null, .null])) :: (((((cx ++ [(q1, .inl (cI, 162, .inl (fun _ => 0)))]) ++ [(q2, .inl (cI, 1296, .inl (fun _ => 0)))]) ++ [(q3, .inl (cI, 324, .inl (fun _ => 0)))]) ++ [(q4, .inl (cI, 200, .inl (fun _ => 0)))]) ++ [(q5, .inl (cI, 162, .inl (fun _ => 0)))])) := hD
  refine aw_putF (CN := RX5) (ci := 5) (k := 7) (q0 := 0) (ty := (.array .int)) hx hb hts hown hin hK hP hD hS rfl rfl (by decide) fl_X5_22 rfl rfl (by decide +kernel) rfl rfl (Nat.le_of_ble_eq_true rfl) dX5_init_46 (fun H locs hP hD hS => ?_)
  have hP : va_P D vwCl ((h0, .inr (5, [.ref q1, .ref q2, .int 0, .ref q3, .int 0, .ref q4, .int 0, .ref q5, .int 0, .int 0, .int 0, .null, .null, .null, .null, .null, .null])) :: (((((cx ++ [(q1, .inl (cI, 162, .inl (fun _ => 0)))]) ++ [(q2, .inl (cI, 1296, .inl (fun _ => 0)))]) ++ [(q3, .inl (cI, 324, .inl (fun _ => 0)))]) ++ [(q4, .inl (cI, 200, .inl (fun _ => 0)))]) ++ [(q5, .inl (cI, 162, .inl (fun _ => 0)))])) H := hP
  have hD : va_D A ((h0, .inr (5, [.ref q1, .ref q2, .int 0, .ref q3, .int 0, .ref q4, .int 0, .ref q5, .int 0, .int 0, .int 0, .null, .null, .null, .null, .null, .null])) :: (((((cx ++ [(q1, .inl (cI, 162, .inl (fun _ => 0)))]) ++ [(q2, .inl (cI, 1296, .inl (fun _ => 0)))]) ++ [(q3, .inl (cI, 324, .inl (fun _ => 0)))]) ++ [(q4, .inl (cI, 200, .inl (fun _ => 0)))]) ++ [(q5, .inl (cI, 162, .inl (fun _ => 0)))])) := hD
  refine lv_aload_n hx hb dX5_init_49 rfl (lv_at hl 0 rfl) ?_
  refine lv_iconst (v := 3) hx hb dX5_init_50 (by decide) ?_
  refine aw_newi hx hb hts hK hP hD hS hA 3 (by decide) (by decide) (Nat.le_of_ble_eq_true rfl) (Nat.le_of_ble_eq_true rfl) (Nat.le_of_ble_eq_true rfl) dX5_init_51 (fun q6 H hP hD hS => ?_)
  have hP : va_P D vwCl ((h0, .inr (5, [.ref q1, .ref q2, .int 0, .ref q3, .int 0, .ref q4, .int 0, .ref q5, .int 0, .int 0, .int 0, .null, .null, .null, .null, .null, .null])) :: ((((((cx ++ [(q1, .inl (cI, 162, .inl (fun _ => 0)))]) ++ [(q2, .inl (cI, 1296, .inl (fun _ => 0)))]) ++ [(q3, .inl (cI, 324, .inl (fun _ => 0)))]) ++ [(q4, .inl (cI, 200, .inl (fun _ => 0)))]) ++ [(q5, .inl (cI, 162, .inl (fun _ => 0)))]) ++ [(q6, .inl (cI, 3, .inl (fun _ => 0)))])) H := hP
  have hD : va_D A ((h0, .inr (5, [.ref q1, .ref q2, .int 0, .ref q3, .int 0, .ref q4, .int 0, .ref q5, .int 0, .int 0, .int 0, .null, .null, .null, .null, .null, .null])) :: ((((((cx ++ [(q1, .inl (cI, 162, .inl (fun _ => 0)))]) ++ [(q2, .inl (cI, 1296, .inl (fun _ => 0)))]) ++ [(q3, .inl (cI, 324, .inl (fun _ => 0)))]) ++ [(q4, .inl (cI, 200, .inl (fun _ => 0)))]) ++ [(q5, .inl (cI, 162, .inl (fun _ => 0)))]) ++ [(q6, .inl (cI, 3, .inl (fun _ => 0)))])) := hD
  refine aw_putF (CN := RX5) (ci := 5) (k := 11) (q0 := 0) (ty := (.array .int)) hx hb hts hown hin hK hP hD hS rfl rfl (by decide) fl_X5_25 rfl rfl (by decide +kernel) rfl rfl (Nat.le_of_ble_eq_true rfl) dX5_init_53 (fun H locs hP hD hS => ?_)
  have hP : va_P D vwCl ((h0, .inr (5, [.ref q1, .ref q2, .int 0, .ref q3, .int 0, .ref q4, .int 0, .ref q5, .int 0, .int 0, .int 0, .ref q6, .null, .null, .null, .null, .null])) :: ((((((cx ++ [(q1, .inl (cI, 162, .inl (fun _ => 0)))]) ++ [(q2, .inl (cI, 1296, .inl (fun _ => 0)))]) ++ [(q3, .inl (cI, 324, .inl (fun _ => 0)))]) ++ [(q4, .inl (cI, 200, .inl (fun _ => 0)))]) ++ [(q5, .inl (cI, 162, .inl (fun _ => 0)))]) ++ [(q6, .inl (cI, 3, .inl (fun _ => 0)))])) H := hP
  have hD : va_D A ((h0, .inr (5, [.ref q1, .ref q2, .int 0, .ref q3, .int 0, .ref q4, .int 0, .ref q5, .int 0, .int 0, .int 0, .ref q6, .null, .null, .null, .null, .null])) :: ((((((cx ++ [(q1, .inl (cI, 162, .inl (fun _ => 0)))]) ++ [(q2, .inl (cI, 1296, .inl (fun _ => 0)))]) ++ [(q3, .inl (cI, 324, .inl (fun _ => 0)))]) ++ [(q4, .inl (cI, 200, .inl (fun _ => 0)))]) ++ [(q5, .inl (cI, 162, .inl (fun _ => 0)))]) ++ [(q6, .inl (cI, 3, .inl (fun _ => 0)))])) := hD
  refine lv_aload_n hx hb dX5_init_56 rfl (lv_at hl 0 rfl) ?_
  refine lv_iconst (v := 4) hx hb dX5_init_57 (by decide) ?_
  refine aw_newi hx hb hts hK hP hD hS hA 4 (by decide) (by decide) (Nat.le_of_ble_eq_true rfl) (Nat.le_of_ble_eq_true rfl) (Nat.le_of_ble_eq_true rfl) dX5_init_58 (fun q7 H hP hD hS => ?_)
  have hP : va_P D vwCl ((h0, .inr (5, [.ref q1, .ref q2, .int 0, .ref q3, .int 0, .ref q4, .int 0, .ref q5, .int 0, .int 0, .int 0, .ref q6, .null, .null, .null, .null, .null])) :: (((((((cx ++ [(q1, .inl (cI, 162, .inl (fun _ => 0)))]) ++ [(q2, .inl (cI, 1296, .inl (fun _ => 0)))]) ++ [(q3, .inl (cI, 324, .inl (fun _ => 0)))]) ++ [(q4, .inl (cI, 200, .inl (fun _ => 0)))]) ++ [(q5, .inl (cI, 162, .inl (fun _ => 0)))]) ++ [(q6, .inl (cI, 3, .inl (fun _ => 0)))]) ++ [(q7, .inl (cI, 4, .inl (fun _ => 0)))])) H := hP
  have hD : va_D A ((h0, .inr (5, [.ref q1, .ref q2, .int 0, .ref q3, .int 0, .ref q4, .int 0, .ref q5, .int 0, .int 0, .int 0, .ref q6, .null, .null, .null, .null, .null])) :: (((((((cx ++ [(q1, .inl (cI, 162, .inl (fun _ => 0)))]) ++ [(q2, .inl (cI, 1296, .inl (fun _ => 0)))]) ++ [(q3, .inl (cI, 324, .inl (fun _ => 0)))]) ++ [(q4, .inl (cI, 200, .inl (fun _ => 0)))]) ++ [(q5, .inl (cI, 162, .inl (fun _ => 0)))]) ++ [(q6, .inl (cI, 3, .inl (fun _ => 0)))]) ++ [(q7, .inl (cI, 4, .inl (fun _ => 0)))])) := hD
  refine aw_putF (CN := RX5) (ci := 5) (k := 12) (q0 := 0) (ty := (.array .int)) hx hb hts hown hin hK hP hD hS rfl rfl (by decide) fl_X5_28 rfl rfl (by decide +kernel) rfl rfl (Nat.le_of_ble_eq_true rfl) dX5_init_60 (fun H locs hP hD hS => ?_)
  have hP : va_P D vwCl ((h0, .inr (5, [.ref q1, .ref q2, .int 0, .ref q3, .int 0, .ref q4, .int 0, .ref q5, .int 0, .int 0, .int 0, .ref q6, .ref q7, .null, .null, .null, .null])) :: (((((((cx ++ [(q1, .inl (cI, 162, .inl (fun _ => 0)))]) ++ [(q2, .inl (cI, 1296, .inl (fun _ => 0)))]) ++ [(q3, .inl (cI, 324, .inl (fun _ => 0)))]) ++ [(q4, .inl (cI, 200, .inl (fun _ => 0)))]) ++ [(q5, .inl (cI, 162, .inl (fun _ => 0)))]) ++ [(q6, .inl (cI, 3, .inl (fun _ => 0)))]) ++ [(q7, .inl (cI, 4, .inl (fun _ => 0)))])) H := hP
  have hD : va_D A ((h0, .inr (5, [.ref q1, .ref q2, .int 0, .ref q3, .int 0, .ref q4, .int 0, .ref q5, .int 0, .int 0, .int 0, .ref q6, .ref q7, .null, .null, .null, .null])) :: (((((((cx ++ [(q1, .inl (cI, 162, .inl (fun _ => 0)))]) ++ [(q2, .inl (cI, 1296, .inl (fun _ => 0)))]) ++ [(q3, .inl (cI, 324, .inl (fun _ => 0)))]) ++ [(q4, .inl (cI, 200, .inl (fun _ => 0)))]) ++ [(q5, .inl (cI, 162, .inl (fun _ => 0)))]) ++ [(q6, .inl (cI, 3, .inl (fun _ => 0)))]) ++ [(q7, .inl (cI, 4, .inl (fun _ => 0)))])) := hD
  refine lv_aload_n hx hb dX5_init_63 rfl (lv_at hl 0 rfl) ?_
  refine lv_iconst (v := 4) hx hb dX5_init_64 (by decide) ?_
  refine aw_newi hx hb hts hK hP hD hS hA 4 (by decide) (by decide) (Nat.le_of_ble_eq_true rfl) (Nat.le_of_ble_eq_true rfl) (Nat.le_of_ble_eq_true rfl) dX5_init_65 (fun q8 H hP hD hS => ?_)
  have hP : va_P D vwCl ((h0, .inr (5, [.ref q1, .ref q2, .int 0, .ref q3, .int 0, .ref q4, .int 0, .ref q5, .int 0, .int 0, .int 0, .ref q6, .ref q7, .null, .null, .null, .null])) :: ((((((((cx ++ [(q1, .inl (cI, 162, .inl (fun _ => 0)))]) ++ [(q2, .inl (cI, 1296, .inl (fun _ => 0)))]) ++ [(q3, .inl (cI, 324, .inl (fun _ => 0)))]) ++ [(q4, .inl (cI, 200, .inl (fun _ => 0)))]) ++ [(q5, .inl (cI, 162, .inl (fun _ => 0)))]) ++ [(q6, .inl (cI, 3, .inl (fun _ => 0)))]) ++ [(q7, .inl (cI, 4, .inl (fun _ => 0)))]) ++ [(q8, .inl (cI, 4, .inl (fun _ => 0)))])) H := hP
  have hD : va_D A ((h0, .inr (5, [.ref q1, .ref q2, .int 0, .ref q3, .int 0, .ref q4, .int 0, .ref q5, .int 0, .int 0, .int 0, .ref q6, .ref q7, .null, .null, .null, .null])) :: ((((((((cx ++ [(q1, .inl (cI, 162, .inl (fun _ => 0)))]) ++ [(q2, .inl (cI, 1296, .inl (fun _ => 0)))]) ++ [(q3, .inl (cI, 324, .inl (fun _ => 0)))]) ++ [(q4, .inl (cI, 200, .inl (fun _ => 0)))]) ++ [(q5, .inl (cI, 162, .inl (fun _ => 0)))]) ++ [(q6, .inl (cI, 3, .inl (fun _ => 0)))]) ++ [(q7, .inl (cI, 4, .inl (fun _ => 0)))]) ++ [(q8, .inl (cI, 4, .inl (fun _ => 0)))])) := hD
  refine aw_putF (CN := RX5) (ci := 5) (k := 13) (q0 := 0) (ty := (.array .int)) hx hb hts hown hin hK hP hD hS rfl rfl (by decide) fl_X5_31 rfl rfl (by decide +kernel) rfl rfl (Nat.le_of_ble_eq_true rfl) dX5_init_67 (fun H locs hP hD hS => ?_)
  have hP : va_P D vwCl ((h0, .inr (5, [.ref q1, .ref q2, .int 0, .ref q3, .int 0, .ref q4, .int 0, .ref q5, .int 0, .int 0, .int 0, .ref q6, .ref q7, .ref q8, .null, .null, .null])) :: ((((((((cx ++ [(q1, .inl (cI, 162, .inl (fun _ => 0)))]) ++ [(q2, .inl (cI, 1296, .inl (fun _ => 0)))]) ++ [(q3, .inl (cI, 324, .inl (fun _ => 0)))]) ++ [(q4, .inl (cI, 200, .inl (fun _ => 0)))]) ++ [(q5, .inl (cI, 162, .inl (fun _ => 0)))]) ++ [(q6, .inl (cI, 3, .inl (fun _ => 0)))]) ++ [(q7, .inl (cI, 4, .inl (fun _ => 0)))]) ++ [(q8, .inl (cI, 4, .inl (fun _ => 0)))])) H := hP
  have hD : va_D A ((h0, .inr (5, [.ref q1, .ref q2, .int 0, .ref q3, .int 0, .ref q4, .int 0, .ref q5, .int 0, .int 0, .int 0, .ref q6, .ref q7, .ref q8, .null, .null, .null])) :: ((((((((cx ++ [(q1, .inl (cI, 162, .inl (fun _ => 0)))]) ++ [(q2, .inl (cI, 1296, .inl (fun _ => 0)))]) ++ [(q3, .inl (cI, 324, .inl (fun _ => 0)))]) ++ [(q4, .inl (cI, 200, .inl (fun _ => 0)))]) ++ [(q5, .inl (cI, 162, .inl (fun _ => 0)))]) ++ [(q6, .inl (cI, 3, .inl (fun _ => 0)))]) ++ [(q7, .inl (cI, 4, .inl (fun _ => 0)))]) ++ [(q8, .inl (cI, 4, .inl (fun _ => 0)))])) := hD
  refine lv_aload_n hx hb dX5_init_70 rfl (lv_at hl 0 rfl) ?_
  refine lv_iconst (v := 4) hx hb dX5_init_71 (by decide) ?_
  refine aw_newi hx hb hts hK hP hD hS hA 4 (by decide) (by decide) (Nat.le_of_ble_eq_true rfl) (Nat.le_of_ble_eq_true rfl) (Nat.le_of_ble_eq_true rfl) dX5_init_72 (fun q9 H hP hD hS => ?_)
  have hP : va_P D vwCl ((h0, .inr (5, [.ref q1, .ref q2, .int 0, .ref q3, .int 0, .ref q4, .int 0, .ref q5, .int 0, .int 0, .int 0, .ref q6, .ref q7, .ref q8, .null, .null, .null])) :: (((((((((cx ++ [(q1, .inl (cI, 162, .inl (fun _ => 0)))]) ++ [(q2, .inl (cI, 1296, .inl (fun _ => 0)))]) ++ [(q3, .inl (cI, 324, .inl (fun _ => 0)))]) ++ [(q4, .inl (cI, 200, .inl (fun _ => 0)))]) ++ [(q5, .inl (cI, 162, .inl (fun _ => 0)))]) ++ [(q6, .inl (cI, 3, .inl (fun _ => 0)))]) ++ [(q7, .inl (cI, 4, .inl (fun _ => 0)))]) ++ [(q8, .inl (cI, 4, .inl (fun _ => 0)))]) ++ [(q9, .inl (cI, 4, .inl (fun _ => 0)))])) H := hP
  have hD : va_D A ((h0, .inr (5, [.ref q1, .ref q2, .int 0, .ref q3, .int 0, .ref q4, .int 0, .ref q5, .int 0, .int 0, .int 0, .ref q6, .ref q7, .ref q8, .null, .null, .null])) :: (((((((((cx ++ [(q1, .inl (cI, 162, .inl (fun _ => 0)))]) ++ [(q2, .inl (cI, 1296, .inl (fun _ => 0)))]) ++ [(q3, .inl (cI, 324, .inl (fun _ => 0)))]) ++ [(q4, .inl (cI, 200, .inl (fun _ => 0)))]) ++ [(q5, .inl (cI, 162, .inl (fun _ => 0)))]) ++ [(q6, .inl (cI, 3, .inl (fun _ => 0)))]) ++ [(q7, .inl (cI, 4, .inl (fun _ => 0)))]) ++ [(q8, .inl (cI, 4, .inl (fun _ => 0)))]) ++ [(q9, .inl (cI, 4, .inl (fun _ => 0)))])) := hD
  refine aw_putF (CN := RX5) (ci := 5) (k := 14) (q0 := 0) (ty := (.array .int)) hx hb hts hown hin hK hP hD hS rfl rfl (by decide) fl_X5_34 rfl rfl (by decide +kernel) rfl rfl (Nat.le_of_ble_eq_true rfl) dX5_init_74 (fun H locs hP hD hS => ?_)
  have hP : va_P D vwCl ((h0, .inr (5, [.ref q1, .ref q2, .int 0, .ref q3, .int 0, .ref q4, .int 0, .ref q5, .int 0, .int 0, .int 0, .ref q6, .ref q7, .ref q8, .ref q9, .null, .null])) :: (((((((((cx ++ [(q1, .inl (cI, 162, .inl (fun _ => 0)))]) ++ [(q2, .inl (cI, 1296, .inl (fun _ => 0)))]) ++ [(q3, .inl (cI, 324, .inl (fun _ => 0)))]) ++ [(q4, .inl (cI, 200, .inl (fun _ => 0)))]) ++ [(q5, .inl (cI, 162, .inl (fun _ => 0)))]) ++ [(q6, .inl (cI, 3, .inl (fun _ => 0)))]) ++ [(q7, .inl (cI, 4, .inl (fun _ => 0)))]) ++ [(q8, .inl (cI, 4, .inl (fun _ => 0)))]) ++ [(q9, .inl (cI, 4, .inl (fun _ => 0)))])) H := hP
  have hD : va_D A ((h0, .inr (5, [.ref q1, .ref q2, .int 0, .ref q3, .int 0, .ref q4, .int 0, .ref q5, .int 0, .int 0, .int 0, .ref q6, .ref q7, .ref q8, .ref q9, .null, .null])) :: (((((((((cx ++ [(q1, .inl (cI, 162, .inl (fun _ => 0)))]) ++ [(q2, .inl (cI, 1296, .inl (fun _ => 0)))]) ++ [(q3, .inl (cI, 324, .inl (fun _ => 0)))]) ++ [(q4, .inl (cI, 200, .inl (fun _ => 0)))]) ++ [(q5, .inl (cI, 162, .inl (fun _ => 0)))]) ++ [(q6, .inl (cI, 3, .inl (fun _ => 0)))]) ++ [(q7, .inl (cI, 4, .inl (fun _ => 0)))]) ++ [(q8, .inl (cI, 4, .inl (fun _ => 0)))]) ++ [(q9, .inl (cI, 4, .inl (fun _ => 0)))])) := hD
  refine lv_aload_n hx hb dX5_init_77 rfl (lv_at hl 0 rfl) ?_
  refine lv_bipush (v := 16) hx hb dX5_init_78 (by decide) ?_
  refine aw_newi hx hb hts hK hP hD hS hA 16 (by decide) (by decide) (Nat.le_of_ble_eq_true rfl) (Nat.le_of_ble_eq_true rfl) (Nat.le_of_ble_eq_true rfl) dX5_init_80 (fun q10 H hP hD hS => ?_)
  have hP : va_P D vwCl ((h0, .inr (5, [.ref q1, .ref q2, .int 0, .ref q3, .int 0, .ref q4, .int 0, .ref q5, .int 0, .int 0, .int 0, .ref q6, .ref q7, .ref q8, .ref q9, .null, .null])) :: ((((((((((cx ++ [(q1, .inl (cI, 162, .inl (fun _ => 0)))]) ++ [(q2, .inl (cI, 1296, .inl (fun _ => 0)))]) ++ [(q3, .inl (cI, 324, .inl (fun _ => 0)))]) ++ [(q4, .inl (cI, 200, .inl (fun _ => 0)))]) ++ [(q5, .inl (cI, 162, .inl (fun _ => 0)))]) ++ [(q6, .inl (cI, 3, .inl (fun _ => 0)))]) ++ [(q7, .inl (cI, 4, .inl (fun _ => 0)))]) ++ [(q8, .inl (cI, 4, .inl (fun _ => 0)))]) ++ [(q9, .inl (cI, 4, .inl (fun _ => 0)))]) ++ [(q10, .inl (cI, 16, .inl (fun _ => 0)))])) H := hP
  have hD : va_D A ((h0, .inr (5, [.ref q1, .ref q2, .int 0, .ref q3, .int 0, .ref q4, .int 0, .ref q5, .int 0, .int 0, .int 0, .ref q6, .ref q7, .ref q8, .ref q9, .null, .null])) :: ((((((((((cx ++ [(q1, .inl (cI, 162, .inl (fun _ => 0)))]) ++ [(q2, .inl (cI, 1296, .inl (fun _ => 0)))]) ++ [(q3, .inl (cI, 324, .inl (fun _ => 0)))]) ++ [(q4, .inl (cI, 200, .inl (fun _ => 0)))]) ++ [(q5, .inl (cI, 162, .inl (fun _ => 0)))]) ++ [(q6, .inl (cI, 3, .inl (fun _ => 0)))]) ++ [(q7, .inl (cI, 4, .inl (fun _ => 0)))]) ++ [(q8, .inl (cI, 4, .inl (fun _ => 0)))]) ++ [(q9, .inl (cI, 4, .inl (fun _ => 0)))]) ++ [(q10, .inl (cI, 16, .inl (fun _ => 0)))])) := hD
  refine aw_putF (CN := RX5) (ci := 5) (k := 15) (q0 := 0) (ty := (.array .int)) hx hb hts hown hin hK hP hD hS rfl rfl (by decide) fl_X5_37 rfl rfl (by decide +kernel) rfl rfl (Nat.le_of_ble_eq_true rfl) dX5_init_82 (fun H locs hP hD hS => ?_)
  have hP : va_P D vwCl ((h0, .inr (5, [.ref q1, .ref q2, .int 0, .ref q3, .int 0, .ref q4, .int 0, .ref q5, .int 0, .int 0, .int 0, .ref q6, .ref q7, .ref q8, .ref q9, .ref q10, .null])) :: ((((((((((cx ++ [(q1, .inl (cI, 162, .inl (fun _ => 0)))]) ++ [(q2, .inl (cI, 1296, .inl (fun _ => 0)))]) ++ [(q3, .inl (cI, 324, .inl (fun _ => 0)))]) ++ [(q4, .inl (cI, 200, .inl (fun _ => 0)))]) ++ [(q5, .inl (cI, 162, .inl (fun _ => 0)))]) ++ [(q6, .inl (cI, 3, .inl (fun _ => 0)))]) ++ [(q7, .inl (cI, 4, .inl (fun _ => 0)))]) ++ [(q8, .inl (cI, 4, .inl (fun _ => 0)))]) ++ [(q9, .inl (cI, 4, .inl (fun _ => 0)))]) ++ [(q10, .inl (cI, 16, .inl (fun _ => 0)))])) H := hP
  have hD : va_D A ((h0, .inr (5, [.ref q1, .ref q2, .int 0, .ref q3, .int 0, .ref q4, .int 0, .ref q5, .int 0, .int 0, .int 0, .ref q6, .ref q7, .ref q8, .ref q9, .ref q10, .null])) :: ((((((((((cx ++ [(q1, .inl (cI, 162, .inl (fun _ => 0)))]) ++ [(q2, .inl (cI, 1296, .inl (fun _ => 0)))]) ++ [(q3, .inl (cI, 324, .inl (fun _ => 0)))]) ++ [(q4, .inl (cI, 200, .inl (fun _ => 0)))]) ++ [(q5, .inl (cI, 162, .inl (fun _ => 0)))]) ++ [(q6, .inl (cI, 3, .inl (fun _ => 0)))]) ++ [(q7, .inl (cI, 4, .inl (fun _ => 0)))]) ++ [(q8, .inl (cI, 4, .inl (fun _ => 0)))]) ++ [(q9, .inl (cI, 4, .inl (fun _ => 0)))]) ++ [(q10, .inl (cI, 16, .inl (fun _ => 0)))])) := hD
  refine lv_aload_n hx hb dX5_init_85 rfl (lv_at hl 0 rfl) ?_
  refine lv_bipush (v := 16) hx hb dX5_init_86 (by decide) ?_
  refine aw_newi hx hb hts hK hP hD hS hA 16 (by decide) (by decide) (Nat.le_of_ble_eq_true rfl) (Nat.le_of_ble_eq_true rfl) (Nat.le_of_ble_eq_true rfl) dX5_init_88 (fun q11 H hP hD hS => ?_)
  have hP : va_P D vwCl ((h0, .inr (5, [.ref q1, .ref q2, .int 0, .ref q3, .int 0, .ref q4, .int 0, .ref q5, .int 0, .int 0, .int 0, .ref q6, .ref q7, .ref q8, .ref q9, .ref q10, .null])) :: (((((((((((cx ++ [(q1, .inl (cI, 162, .inl (fun _ => 0)))]) ++ [(q2, .inl (cI, 1296, .inl (fun _ => 0)))]) ++ [(q3, .inl (cI, 324, .inl (fun _ => 0)))]) ++ [(q4, .inl (cI, 200, .inl (fun _ => 0)))]) ++ [(q5, .inl (cI, 162, .inl (fun _ => 0)))]) ++ [(q6, .inl (cI, 3, .inl (fun _ => 0)))]) ++ [(q7, .inl (cI, 4, .inl (fun _ => 0)))]) ++ [(q8, .inl (cI, 4, .inl (fun _ => 0)))]) ++ [(q9, .inl (cI, 4, .inl (fun _ => 0)))]) ++ [(q10, .inl (cI, 16, .inl (fun _ => 0)))]) ++ [(q11, .inl (cI, 16, .inl (fun _ => 0)))])) H := hP
  have hD : va_D A ((h0, .inr (5, [.ref q1, .ref q2, .int 0, .ref q3, .int 0, .ref q4, .int 0, .ref q5, .int 0, .int 0, .int 0, .ref q6, .ref q7, .ref q8, .ref q9, .ref q10, .null])) :: (((((((((((cx ++ [(q1, .inl (cI, 162, .inl (fun _ => 0)))]) ++ [(q2, .inl (cI, 1296, .inl (fun _ => 0)))]) ++ [(q3, .inl (cI, 324, .inl (fun _ => 0)))]) ++ [(q4, .inl (cI, 200, .inl (fun _ => 0)))]) ++ [(q5, .inl (cI, 162, .inl (fun _ => 0)))]) ++ [(q6, .inl (cI, 3, .inl (fun _ => 0)))]) ++ [(q7, .inl (cI, 4, .inl (fun _ => 0)))]) ++ [(q8, .inl (cI, 4, .inl (fun _ => 0)))]) ++ [(q9, .inl (cI, 4, .inl (fun _ => 0)))]) ++ [(q10, .inl (cI, 16, .inl (fun _ => 0)))]) ++ [(q11, .inl (cI, 16, .inl (fun _ => 0)))])) := hD
  refine aw_putF (CN := RX5) (ci := 5) (k := 16) (q0 := 0) (ty := (.array .int)) hx hb hts hown hin hK hP hD hS rfl rfl (by decide) fl_X5_40 rfl rfl (by decide +kernel) rfl rfl (Nat.le_of_ble_eq_true rfl) dX5_init_90 (fun H locs hP hD hS => ?_)
  have hP : va_P D vwCl ((h0, .inr (5, [.ref q1, .ref q2, .int 0, .ref q3, .int 0, .ref q4, .int 0, .ref q5, .int 0, .int 0, .int 0, .ref q6, .ref q7, .ref q8, .ref q9, .ref q10, .ref q11])) :: (((((((((((cx ++ [(q1, .inl (cI, 162, .inl (fun _ => 0)))]) ++ [(q2, .inl (cI, 1296, .inl (fun _ => 0)))]) ++ [(q3, .inl (cI, 324, .inl (fun _ => 0)))]) ++ [(q4, .inl (cI, 200, .inl (fun _ => 0)))]) ++ [(q5, .inl (cI, 162, .inl (fun _ => 0)))]) ++ [(q6, .inl (cI, 3, .inl (fun _ => 0)))]) ++ [(q7, .inl (cI, 4, .inl (fun _ => 0)))]) ++ [(q8, .inl (cI, 4, .inl (fun _ => 0)))]) ++ [(q9, .inl (cI, 4, .inl (fun _ => 0)))]) ++ [(q10, .inl (cI, 16, .inl (fun _ => 0)))]) ++ [(q11, .inl (cI, 16, .inl (fun _ => 0)))])) H := hP
  have hD : va_D A ((h0, .inr (5, [.ref q1, .ref q2, .int 0, .ref q3, .int 0, .ref q4, .int 0, .ref q5, .int 0, .int 0, .int 0, .ref q6, .ref q7, .ref q8, .ref q9, .ref q10, .ref q11])) :: (((((((((((cx ++ [(q1, .inl (cI, 162, .inl (fun _ => 0)))]) ++ [(q2, .inl (cI, 1296, .inl (fun _ => 0)))]) ++ [(q3, .inl (cI, 324, .inl (fun _ => 0)))]) ++ [(q4, .inl (cI, 200, .inl (fun _ => 0)))]) ++ [(q5, .inl (cI, 162, .inl (fun _ => 0)))]) ++ [(q6, .inl (cI, 3, .inl (fun _ => 0)))]) ++ [(q7, .inl (cI, 4, .inl (fun _ => 0)))]) ++ [(q8, .inl (cI, 4, .inl (fun _ => 0)))]) ++ [(q9, .inl (cI, 4, .inl (fun _ => 0)))]) ++ [(q10, .inl (cI, 16, .inl (fun _ => 0)))]) ++ [(q11, .inl (cI, 16, .inl (fun _ => 0)))])) := hD
  have hLs : (((((((((((cx ++ [(q1, .inl (cI, 162, .inl (fun _ => 0)))]) ++ [(q2, .inl (cI, 1296, .inl (fun _ => 0)))]) ++ [(q3, .inl (cI, 324, .inl (fun _ => 0)))]) ++ [(q4, .inl (cI, 200, .inl (fun _ => 0)))]) ++ [(q5, .inl (cI, 162, .inl (fun _ => 0)))]) ++ [(q6, .inl (cI, 3, .inl (fun _ => 0)))]) ++ [(q7, .inl (cI, 4, .inl (fun _ => 0)))]) ++ [(q8, .inl (cI, 4, .inl (fun _ => 0)))]) ++ [(q9, .inl (cI, 4, .inl (fun _ => 0)))]) ++ [(q10, .inl (cI, 16, .inl (fun _ => 0)))]) ++ [(q11, .inl (cI, 16, .inl (fun _ => 0)))]) = cx ++ [(q1, .inl (cI, 162, .inl (fun _ => 0))), (q2, .inl (cI, 1296, .inl (fun _ => 0))), (q3, .inl (cI, 324, .inl (fun _ => 0))), (q4, .inl (cI, 200, .inl (fun _ => 0))), (q5, .inl (cI, 162, .inl (fun _ => 0))), (q6, .inl (cI, 3, .inl (fun _ => 0))), (q7, .inl (cI, 4, .inl (fun _ => 0))), (q8, .inl (cI, 4, .inl (fun _ => 0))), (q9, .inl (cI, 4, .inl (fun _ => 0))), (q10, .inl (cI, 16, .inl (fun _ => 0))), (q11, .inl (cI, 16, .inl (fun _ => 0)))] := by simp only [List.append_assoc, List.cons_append, List.nil_append]
  rw [hLs] at hP hD
  have hpm : ((h0, .inr (5, [.ref q1, .ref q2, .int 0, .ref q3, .int 0, .ref q4, .int 0, .ref q5, .int 0, .int 0, .int 0, .ref q6, .ref q7, .ref q8, .ref q9, .ref q10, .ref q11])) :: (cx ++ [(q1, .inl (cI, 162, .inl (fun _ => 0))), (q2, .inl (cI, 1296, .inl (fun _ => 0))), (q3, .inl (cI, 324, .inl (fun _ => 0))), (q4, .inl (cI, 200, .inl (fun _ => 0))), (q5, .inl (cI, 162, .inl (fun _ => 0))), (q6, .inl (cI, 3, .inl (fun _ => 0))), (q7, .inl (cI, 4, .inl (fun _ => 0))), (q8, .inl (cI, 4, .inl (fun _ => 0))), (q9, .inl (cI, 4, .inl (fun _ => 0))), (q10, .inl (cI, 16, .inl (fun _ => 0))), (q11, .inl (cI, 16, .inl (fun _ => 0)))])).Perm (cx ++ (h0, .inr (5, [.ref q1, .ref q2, .int 0, .ref q3, .int 0, .ref q4, .int 0, .ref q5, .int 0, .int 0, .int 0, .ref q6, .ref q7, .ref q8, .ref q9, .ref q10, .ref q11])) :: [(q1, .inl (cI, 162, .inl (fun _ => 0))), (q2, .inl (cI, 1296, .inl (fun _ => 0))), (q3, .inl (cI, 324, .inl (fun _ => 0))), (q4, .inl (cI, 200, .inl (fun _ => 0))), (q5, .inl (cI, 162, .inl (fun _ => 0))), (q6, .inl (cI, 3, .inl (fun _ => 0))), (q7, .inl (cI, 4, .inl (fun _ => 0))), (q8, .inl (cI, 4, .inl (fun _ => 0))), (q9, .inl (cI, 4, .inl (fun _ => 0))), (q10, .inl (cI, 16, .inl (fun _ => 0))), (q11, .inl (cI, 16, .inl (fun _ => 0)))]) := List.perm_middle.symm
  have hP := va_P_mem hP (fun q hq => hpm.mem_iff.mpr hq)
  have hD := va_D_perm hpm hD
  obtain ⟨ad, had⟩ : ∃ ad : Nat → Nat, ad = adM adX [h0, q1, q2, q3, q4, q5, q6, q7, q8, q9, q10, q11] := ⟨_, rfl⟩
  have hE : cls (wdX D cI cC t ad (lyX ++ lyM)) (hM0 h) = cx ++ (h0, .inr (5, [.ref q1, .ref q2, .int 0, .ref q3, .int 0, .ref q4, .int 0, .ref q5, .int 0, .int 0, .int 0, .ref q6, .ref q7, .ref q8, .ref q9, .ref q10, .ref q11])) :: [(q1, .inl (cI, 162, .inl (fun _ => 0))), (q2, .inl (cI, 1296, .inl (fun _ => 0))), (q3, .inl (cI, 324, .inl (fun _ => 0))), (q4, .inl (cI, 200, .inl (fun _ => 0))), (q5, .inl (cI, 162, .inl (fun _ => 0))), (q6, .inl (cI, 3, .inl (fun _ => 0))), (q7, .inl (cI, 4, .inl (fun _ => 0))), (q8, .inl (cI, 4, .inl (fun _ => 0))), (q9, .inl (cI, 4, .inl (fun _ => 0))), (q10, .inl (cI, 16, .inl (fun _ => 0))), (q11, .inl (cI, 16, .inl (fun _ => 0)))] := by
    subst had
    unfold cls
    show clsA _ _ 0 (lyX ++ lyM) = _
    rw [clsA_app, hcx]
    rfl
  rw [← hE] at hP hD
  have C : Ok (wdX D cI cC t ad (lyX ++ lyM)) (p, l, e, { frames := 1000, cells := 11, slots := 2191, locals := 40000 }, s, m, #[.ref h0], below, meth, c, A, 1, 11, 2191, fun r => MQ below (va_Qv (fun (_ : Unit) => True) (fun _ u => va_P D vwCl (cls (wdX D cI cC t ad (lyX ++ lyM)) r.2) u.heap) A) #[.ref h0] s 11 2191 A) cX5_init RX5 900 :=
    ⟨hx, hb, hml, hown, hts, hlk, ⟨Nat.le_of_ble_eq_true rfl, Nat.le_of_ble_eq_true rfl, Nat.le_refl _, Nat.le_refl _⟩, ⟨hK, fun h => cls_D hD, hU.2.1, hU.2.2.1, hU.2.2.2.1, hU.2.2.2.2.1⟩⟩
  have hLM : LM (wdX D cI cC t ad (lyX ++ lyM)) := fun i e he _ => he
  have e22 : ad 22 = h0 := by subst had; rfl
  have K := p_X5_initT C ⟨hr, rfl⟩ rfl N (hM0 h) hLM r hr0 H locs ls hP hS (by show lv_has ls 1 [(0, .ref (ad 22))]; rw [e22]; exact hl)
  refine W_mono (MQ_mono (fun o u hq => ?_)) K
  obtain ⟨⟨u1, h1, h2, h3⟩, h4⟩ := hq
  exact ⟨⟨ad, h1, trivial, fun i hi => by subst had; exact adM_lt hi, e22, h3, cls_D hD⟩, h4⟩
