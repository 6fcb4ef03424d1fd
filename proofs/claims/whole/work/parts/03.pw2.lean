section
theorem inT : ∀ (ci : Nat) (q : vw_C), vwCl[ci]? = some q → ∀ w ∈ u_ws q.1 q.2.1 q.2.2, w ∈ TBL := by
  intro ci q hq
  match ci, hq with
  | 0, hq => cases hq; exact fun w h => tbl_in ((by decide +kernel : ∀ w ∈ wsX00, w ∈ lw_tbl) w h) ((by decide +kernel : ∀ w ∈ wsX00, goodWord w = true) w h)
  | 1, hq => cases hq; exact fun w h => tbl_in ((by decide +kernel : ∀ w ∈ wsX10, w ∈ lw_tbl) w h) ((by decide +kernel : ∀ w ∈ wsX10, goodWord w = true) w h)
  | 2, hq => cases hq; exact fun w h => tbl_in ((by decide +kernel : ∀ w ∈ wsX20, w ∈ lw_tbl) w h) ((by decide +kernel : ∀ w ∈ wsX20, goodWord w = true) w h)
  | 3, hq => cases hq; exact fun w h => tbl_in ((by decide +kernel : ∀ w ∈ wsX30, w ∈ lw_tbl) w h) ((by decide +kernel : ∀ w ∈ wsX30, goodWord w = true) w h)
  | 4, hq => cases hq; exact fun w h => tbl_in ((by decide +kernel : ∀ w ∈ wsX40, w ∈ lw_tbl) w h) ((by decide +kernel : ∀ w ∈ wsX40, goodWord w = true) w h)
  | 5, hq => cases hq; exact fun w h => tbl_in ((by decide +kernel : ∀ w ∈ wsX50, w ∈ lw_tbl) w h) ((by decide +kernel : ∀ w ∈ wsX50, goodWord w = true) w h)
  | k + 6, hq => simp [vwCl] at hq
theorem tyT : ∀ (ci : Nat) (q : vw_C), vwCl[ci]? = some q → ∃ ty0 : Nat → FieldType, ∀ k, k < q.2.2 → parseFieldDescriptor (q.2.1 k).2.2.1 = some (ty0 k) := by
  intro ci q hq
  match ci, hq with
  | 0, hq => cases hq; exact ⟨_, tyX0_ok⟩
  | 1, hq => cases hq; exact ⟨_, tyX1_ok⟩
  | 2, hq => cases hq; exact ⟨_, tyX2_ok⟩
  | 3, hq => cases hq; exact ⟨_, tyX3_ok⟩
  | 4, hq => cases hq; exact ⟨_, tyX4_ok⟩
  | 5, hq => cases hq; exact ⟨_, tyX5_ok⟩
  | k + 6, hq => simp [vwCl] at hq
theorem nmT : ∀ (ci : Nat) (q : vw_C), vwCl[ci]? = some q → ∀ a, a < q.2.2 → ∀ b, b < q.2.2 → a ≠ b → (q.2.1 a).2.1 ≠ (q.2.1 b).2.1 := by
  intro ci q hq
  match ci, hq with
  | 0, hq => cases hq; exact nmX0
  | 1, hq => cases hq; exact nmX1
  | 2, hq => cases hq; exact nmX2
  | 3, hq => cases hq; exact nmX3
  | 4, hq => cases hq; exact nmX4
  | 5, hq => cases hq; exact nmX5
  | k + 6, hq => simp [vwCl] at hq

theorem pw_get {w : Wd} {x : Cz} {cc : ByteArray} {own : String} {d pc : Nat} {lv : List (Option Value)} {rest : List Value} {h : Hp} {X : Option Rs} {q ci k N kd index : Nat} {ks : List Nat} {CN : String} {T : u_T} (C : Ok w x cc own d) (hq : w.2.2.1[q]? = some (0, ci, ks)) (hc : vwCl[ci]? = some (CN, T, N)) (hk : k < N) (hkd : ks[k]? = some kd) (hlink : Cond.fieldLink own index (T k).1 (T k).2.1 (T k).2.2.1 ∈ TBL) (hdg : decode cc pc = .ok (.getfield index, 3)) (k2 : PW w x (pc + 3) lv (fv w h q k kd :: rest) h X) : PW w x pc lv (.ref (w.2.1 q) :: rest) h X := fun r hr H locs ls hP hS hl => va_get C.x C.b C.ts (inT ci _ hc) C.own C.K hP q (cls_o hq) hc k hk (C.ts _ hlink) (fun _ h9 => h9) (by rw [fvs_get, hkd]; simp) hdg (k2 r hr H locs ls hP hS hl)
theorem pw_getN {w : Wd} {x : Cz} {cc : ByteArray} {own : String} {d pc : Nat} {lv : List (Option Value)} {rest : List Value} {h : Hp} {X : Option Rs} {q ci k N kd index : Nat} {ks : List Nat} {CN : String} {T : u_T} (C : Ok w x cc own d) (hq : w.2.2.1[q]? = some (0, ci, ks)) (hc : vwCl[ci]? = some (CN, T, N)) (hk : k < N) (hkd : ks[k]? = some kd) (host : String) (hlink : (own, index, (T k).1, (T k).2.1, (T k).2.2.1, host) ∈ nestF) (hdg : decode cc pc = .ok (.getfield index, 3)) (k2 : PW w x (pc + 3) lv (fv w h q k kd :: rest) h X) : PW w x pc lv (.ref (w.2.1 q) :: rest) h X := fun r hr H locs ls hP hS hl => va_getN C.x C.b (host := host) C.ts (inT ci _ hc) C.own C.K hP q (cls_o hq) hc k hk (va_Nw.use rfl (C.st.2.2.2.2.2 _ hlink)) (fun _ h9 => h9) (by rw [fvs_get, hkd]; simp) hdg (k2 r hr H locs ls hP hS hl)
theorem pw_geti {w : Wd} {x : Cz} {cc : ByteArray} {own : String} {d pc : Nat} {lv : List (Option Value)} {rest : List Value} {h : Hp} {X : Option Rs} {q ci k N index : Nat} {ks : List Nat} {CN : String} {T : u_T} (C : Ok w x cc own d) (hq : w.2.2.1[q]? = some (0, ci, ks)) (hc : vwCl[ci]? = some (CN, T, N)) (hk : k < N) (hkd : ks[k]? = some 0) (hlink : Cond.fieldLink own index (T k).1 (T k).2.1 (T k).2.2.1 ∈ TBL) (hdg : decode cc pc = .ok (.getfield index, 3)) (k2 : PW w x (pc + 3) lv (.int (h q k) :: rest) h X) : PW w x pc lv (.ref (w.2.1 q) :: rest) h X := pw_get C hq hc hk hkd hlink hdg k2
theorem pw_getiN {w : Wd} {x : Cz} {cc : ByteArray} {own : String} {d pc : Nat} {lv : List (Option Value)} {rest : List Value} {h : Hp} {X : Option Rs} {q ci k N index : Nat} {ks : List Nat} {CN : String} {T : u_T} (C : Ok w x cc own d) (hq : w.2.2.1[q]? = some (0, ci, ks)) (hc : vwCl[ci]? = some (CN, T, N)) (hk : k < N) (hkd : ks[k]? = some 0) (host : String) (hlink : (own, index, (T k).1, (T k).2.1, (T k).2.2.1, host) ∈ nestF) (hdg : decode cc pc = .ok (.getfield index, 3)) (k2 : PW w x (pc + 3) lv (.int (h q k) :: rest) h X) : PW w x pc lv (.ref (w.2.1 q) :: rest) h X := pw_getN C hq hc hk hkd host hlink hdg k2
theorem pw_getd {w : Wd} {x : Cz} {cc : ByteArray} {own : String} {d pc : Nat} {lv : List (Option Value)} {rest : List Value} {h : Hp} {X : Option Rs} {q ci k N index : Nat} {ks : List Nat} {CN : String} {T : u_T} (C : Ok w x cc own d) (hq : w.2.2.1[q]? = some (0, ci, ks)) (hc : vwCl[ci]? = some (CN, T, N)) (hk : k < N) (hkd : ks[k]? = some 1) (hlink : Cond.fieldLink own index (T k).1 (T k).2.1 (T k).2.2.1 ∈ TBL) (hdg : decode cc pc = .ok (.getfield index, 3)) (k2 : PW w x (pc + 3) lv (.ref (w.2.1 (h q k).toNatClampNeg) :: rest) h X) : PW w x pc lv (.ref (w.2.1 q) :: rest) h X := pw_get C hq hc hk hkd hlink hdg k2
theorem pw_getdN {w : Wd} {x : Cz} {cc : ByteArray} {own : String} {d pc : Nat} {lv : List (Option Value)} {rest : List Value} {h : Hp} {X : Option Rs} {q ci k N index : Nat} {ks : List Nat} {CN : String} {T : u_T} (C : Ok w x cc own d) (hq : w.2.2.1[q]? = some (0, ci, ks)) (hc : vwCl[ci]? = some (CN, T, N)) (hk : k < N) (hkd : ks[k]? = some 1) (host : String) (hlink : (own, index, (T k).1, (T k).2.1, (T k).2.2.1, host) ∈ nestF) (hdg : decode cc pc = .ok (.getfield index, 3)) (k2 : PW w x (pc + 3) lv (.ref (w.2.1 (h q k).toNatClampNeg) :: rest) h X) : PW w x pc lv (.ref (w.2.1 q) :: rest) h X := pw_getN C hq hc hk hkd host hlink hdg k2
theorem pw_getr {w : Wd} {x : Cz} {cc : ByteArray} {own : String} {d pc : Nat} {lv : List (Option Value)} {rest : List Value} {h : Hp} {X : Option Rs} {q ci k N index : Nat} {ks : List Nat} {CN : String} {T : u_T} {q2 : Nat} (C : Ok w x cc own d) (hq : w.2.2.1[q]? = some (0, ci, ks)) (hc : vwCl[ci]? = some (CN, T, N)) (hk : k < N) (hkd : ks[k]? = some (q2 + 2)) (hlink : Cond.fieldLink own index (T k).1 (T k).2.1 (T k).2.2.1 ∈ TBL) (hdg : decode cc pc = .ok (.getfield index, 3)) (k2 : PW w x (pc + 3) lv (.ref (w.2.1 q2) :: rest) h X) : PW w x pc lv (.ref (w.2.1 q) :: rest) h X := pw_get C hq hc hk hkd hlink hdg (by rw [show fv w h q k (q2 + 2) = .ref (w.2.1 q2) from by simp [fv]]; exact k2)
theorem pw_getrN {w : Wd} {x : Cz} {cc : ByteArray} {own : String} {d pc : Nat} {lv : List (Option Value)} {rest : List Value} {h : Hp} {X : Option Rs} {q ci k N index : Nat} {ks : List Nat} {CN : String} {T : u_T} {q2 : Nat} (C : Ok w x cc own d) (hq : w.2.2.1[q]? = some (0, ci, ks)) (hc : vwCl[ci]? = some (CN, T, N)) (hk : k < N) (hkd : ks[k]? = some (q2 + 2)) (host : String) (hlink : (own, index, (T k).1, (T k).2.1, (T k).2.2.1, host) ∈ nestF) (hdg : decode cc pc = .ok (.getfield index, 3)) (k2 : PW w x (pc + 3) lv (.ref (w.2.1 q2) :: rest) h X) : PW w x pc lv (.ref (w.2.1 q) :: rest) h X := pw_getN C hq hc hk hkd host hlink hdg (by rw [show fv w h q k (q2 + 2) = .ref (w.2.1 q2) from by simp [fv]]; exact k2)
theorem pw_puti {w : Wd} {x : Cz} {cc : ByteArray} {own : String} {d pc : Nat} {lv : List (Option Value)} {rest : List Value} {h : Hp} {X : Option Rs} {q ci k N index : Nat} {ks : List Nat} {CN : String} {T : u_T} {a : Int32} (C : Ok w x cc own d) (hq : w.2.2.1[q]? = some (0, ci, ks)) (hc : vwCl[ci]? = some (CN, T, N)) (hk : k < N) (hkd : ks[k]? = some 0) (hlink : Cond.fieldLink own index (T k).1 (T k).2.1 (T k).2.2.1 ∈ TBL) (hdg : decode cc pc = .ok (.putfield index, 3)) (hfin : (T k).2.2.2 = false) (hd : parseFieldDescriptor (T k).2.2.1 = some .int)  (k2 : PW w x (pc + 3) lv rest (hset h q k a) X) : PW w x pc lv (.int a :: .ref (w.2.1 q) :: rest) h X := fun r hr H locs ls hP hS hl => by
  obtain ⟨ty0, hty⟩ := tyT ci _ hc
  refine va_put C.x C.b C.ts (inT ci _ hc) ty0 hty (nmT ci _ hc) C.own C.K hP (C.D h) hS q (cls_o hq) hc k hk (C.ts _ hlink) (fun _ h9 => h9) hfin hd rfl rfl (by rw [fvs_len]; exact (List.getElem?_eq_some_iff.mp hkd).1) hdg (fun H1 locs1 hP1 hD1 hS1 => ?_)
  rw [cls_seto (x := a) hq hkd (by simp [fv, hset_s, upd])] at hP1
  exact k2 r hr H1 locs1 ls hP1 hS1 hl
theorem pw_putz {w : Wd} {x : Cz} {cc : ByteArray} {own : String} {d pc : Nat} {lv : List (Option Value)} {rest : List Value} {h : Hp} {X : Option Rs} {q ci k N index : Nat} {ks : List Nat} {CN : String} {T : u_T} {a : Int32} (C : Ok w x cc own d) (hq : w.2.2.1[q]? = some (0, ci, ks)) (hc : vwCl[ci]? = some (CN, T, N)) (hk : k < N) (hkd : ks[k]? = some 0) (hlink : Cond.fieldLink own index (T k).1 (T k).2.1 (T k).2.2.1 ∈ TBL) (hdg : decode cc pc = .ok (.putfield index, 3)) (hfin : (T k).2.2.2 = false) (hd : parseFieldDescriptor (T k).2.2.1 = some .boolean) (hz : a = 0 ∨ a = 1) (k2 : PW w x (pc + 3) lv rest (hset h q k a) X) : PW w x pc lv (.int a :: .ref (w.2.1 q) :: rest) h X := fun r hr H locs ls hP hS hl => by
  obtain ⟨ty0, hty⟩ := tyT ci _ hc
  refine va_put C.x C.b C.ts (inT ci _ hc) ty0 hty (nmT ci _ hc) C.own C.K hP (C.D h) hS q (cls_o hq) hc k hk (C.ts _ hlink) (fun _ h9 => h9) hfin hd (by rcases hz with e | e <;> subst e <;> rfl) (by rcases hz with e | e <;> subst e <;> rfl) (by rw [fvs_len]; exact (List.getElem?_eq_some_iff.mp hkd).1) hdg (fun H1 locs1 hP1 hD1 hS1 => ?_)
  rw [cls_seto (x := a) hq hkd (by simp [fv, hset_s, upd])] at hP1
  exact k2 r hr H1 locs1 ls hP1 hS1 hl
theorem pw_putd {w : Wd} {x : Cz} {cc : ByteArray} {own : String} {d pc : Nat} {lv : List (Option Value)} {rest : List Value} {h : Hp} {X : Option Rs} {q ci k N index : Nat} {ks : List Nat} {CN : String} {T : u_T} {q2 : Nat} (C : Ok w x cc own d) (hq : w.2.2.1[q]? = some (0, ci, ks)) (hc : vwCl[ci]? = some (CN, T, N)) (hk : k < N) (hkd : ks[k]? = some 1) (hlink : Cond.fieldLink own index (T k).1 (T k).2.1 (T k).2.2.1 ∈ TBL) (hdg : decode cc pc = .ok (.putfield index, 3)) (hfin : (T k).2.2.2 = false) (hd : parseFieldDescriptor (T k).2.2.1 = some (.array .int)) (hq2 : q2 < 2 ^ 31) (k2 : PW w x (pc + 3) lv rest (hset h q k (nI q2)) X) : PW w x pc lv (.ref (w.2.1 q2) :: .ref (w.2.1 q) :: rest) h X := fun r hr H locs ls hP hS hl => by
  obtain ⟨ty0, hty⟩ := tyT ci _ hc
  refine va_put C.x C.b C.ts (inT ci _ hc) ty0 hty (nmT ci _ hc) C.own C.K hP (C.D h) hS q (cls_o hq) hc k hk (C.ts _ hlink) (fun _ h9 => h9) hfin hd rfl rfl (by rw [fvs_len]; exact (List.getElem?_eq_some_iff.mp hkd).1) hdg (fun H1 locs1 hP1 hD1 hS1 => ?_)
  rw [cls_seto (x := (nI q2)) hq hkd (by simp [fv, hset_s, upd, nI_clamp hq2])] at hP1
  exact k2 r hr H1 locs1 ls hP1 hS1 hl
theorem pw_iald {w : Wd} {x : Cz} {cc : ByteArray} {own : String} {d pc : Nat} {lv : List (Option Value)} {rest : List Value} {h : Hp} {X : Option Rs} {q n : Nat} {i : Int32} (C : Ok w x cc own d) (hq : w.2.2.1[q]? = some (1, n, [])) (hdg : decode cc pc = .ok (.iaload, 1)) (k : PW w x (pc + 1) lv (.int (h q i.toNatClampNeg) :: rest) h X) : PW w x pc lv (.int i :: .ref (w.2.1 q) :: rest) h (if 0 ≤ i.toInt ∧ i.toInt < n then X else none) := fun r hr H locs ls hP hS hl => by
  by_cases hc : 0 ≤ i.toInt ∧ i.toInt < n
  · rw [if_pos hc] at hr
    exact va_iald C.x C.b C.K hP q 0 (cls_i hq) rfl (vp_in_iff.mpr hc) hdg (k r hr H locs ls hP hS hl)
  · rw [if_neg hc] at hr; cases hr
theorem pw_cald {w : Wd} {x : Cz} {cc : ByteArray} {own : String} {d pc : Nat} {lv : List (Option Value)} {rest : List Value} {h : Hp} {X : Option Rs} {q n : Nat} {i : Int32} (C : Ok w x cc own d) (hq : w.2.2.1[q]? = some (2, n, [])) (hdg : decode cc pc = .ok (.caload, 1)) (k : PW w x (pc + 1) lv (.int (h q i.toNatClampNeg) :: rest) h X) : PW w x pc lv (.int i :: .ref (w.2.1 q) :: rest) h (if 0 ≤ i.toInt ∧ i.toInt < n then X else none) := fun r hr H locs ls hP hS hl => by
  by_cases hc : 0 ≤ i.toInt ∧ i.toInt < n
  · rw [if_pos hc] at hr
    exact va_cald C.x C.b C.K hP q 1 (cls_c hq) rfl (vp_in_iff.mpr hc) hdg (k r hr H locs ls hP hS hl)
  · rw [if_neg hc] at hr; cases hr
theorem pw_iast {w : Wd} {x : Cz} {cc : ByteArray} {own : String} {d pc : Nat} {lv : List (Option Value)} {rest : List Value} {h : Hp} {X : Option Rs} {q n : Nat} {i a : Int32} (C : Ok w x cc own d) (hq : w.2.2.1[q]? = some (1, n, [])) (hdg : decode cc pc = .ok (.iastore, 1)) (k : PW w x (pc + 1) lv rest (hset h q i.toNatClampNeg a) X) : PW w x pc lv (.int a :: .int i :: .ref (w.2.1 q) :: rest) h (if 0 ≤ i.toInt ∧ i.toInt < n then X else none) := fun r hr H locs ls hP hS hl => by
  by_cases hc : 0 ≤ i.toInt ∧ i.toInt < n
  · rw [if_pos hc] at hr
    refine va_iast C.x C.b C.K hP (C.D h) hS q 0 (cls_i hq) rfl (vp_in_iff.mpr hc) hdg (fun H1 locs1 hP1 hD1 hS1 => ?_)
    rw [cls_seti hq] at hP1
    exact k r hr H1 locs1 ls hP1 hS1 hl
  · rw [if_neg hc] at hr; cases hr
theorem pw_cast {w : Wd} {x : Cz} {cc : ByteArray} {own : String} {d pc : Nat} {lv : List (Option Value)} {rest : List Value} {h : Hp} {X : Option Rs} {q n : Nat} {i a : Int32} (C : Ok w x cc own d) (hq : w.2.2.1[q]? = some (2, n, [])) (hdg : decode cc pc = .ok (.castore, 1)) (k : PW w x (pc + 1) lv rest (hset h q i.toNatClampNeg (vp_nar .char a)) X) : PW w x pc lv (.int a :: .int i :: .ref (w.2.1 q) :: rest) h (if 0 ≤ i.toInt ∧ i.toInt < n then X else none) := fun r hr H locs ls hP hS hl => by
  by_cases hc : 0 ≤ i.toInt ∧ i.toInt < n
  · rw [if_pos hc] at hr
    refine va_cast C.x C.b C.K hP (C.D h) hS q 1 (cls_c hq) rfl (vp_in_iff.mpr hc) hdg (fun H1 locs1 hP1 hD1 hS1 => ?_)
    rw [cls_setc hq] at hP1
    exact k r hr H1 locs1 ls hP1 hS1 hl
  · rw [if_neg hc] at hr; cases hr
theorem pw_ialen {w : Wd} {x : Cz} {cc : ByteArray} {own : String} {d pc : Nat} {lv : List (Option Value)} {rest : List Value} {h : Hp} {X : Option Rs} {q n : Nat} {v : Int32} (C : Ok w x cc own d) (hq : w.2.2.1[q]? = some (1, n, [])) (hv : Int32.ofNat n = v) (hdg : decode cc pc = .ok (.arraylength, 1)) (k : PW w x (pc + 1) lv (.int v :: rest) h X) : PW w x pc lv (.ref (w.2.1 q) :: rest) h X := fun r hr H locs ls hP hS hl => va_alen C.x C.b C.K hP q 0 (cls_i hq) rfl hv hdg (k r hr H locs ls hP hS hl)
theorem pw_calen {w : Wd} {x : Cz} {cc : ByteArray} {own : String} {d pc : Nat} {lv : List (Option Value)} {rest : List Value} {h : Hp} {X : Option Rs} {q n : Nat} {v : Int32} (C : Ok w x cc own d) (hq : w.2.2.1[q]? = some (2, n, [])) (hv : Int32.ofNat n = v) (hdg : decode cc pc = .ok (.arraylength, 1)) (k : PW w x (pc + 1) lv (.int v :: rest) h X) : PW w x pc lv (.ref (w.2.1 q) :: rest) h X := fun r hr H locs ls hP hS hl => va_alen C.x C.b C.K hP q 1 (cls_c hq) rfl hv hdg (k r hr H locs ls hP hS hl)
theorem pw_gets {w : Wd} {x : Cz} {cc : ByteArray} {own : String} {d pc : Nat} {lv : List (Option Value)} {rest : List Value} {h : Hp} {X : Option Rs} {index : Nat} (C : Ok w x cc own d) (hlink : Cond.fieldLink own index "ToldInKnots" "TENS" "[I" ∈ TBL) (hdg : decode cc pc = .ok (.getstatic index, 3)) (k : PW w x (pc + 3) lv (.ref w.2.2.2.2 :: rest) h X) : PW w x pc lv rest h X := fun r hr H locs ls hP hS hl => va_gets C.x C.b C.st.2.2.1 hS C.own (C.ts _ hlink) (fun _ h9 => h9) hdg (k r hr H locs ls hP hS hl)
theorem pw_tlen {w : Wd} {x : Cz} {cc : ByteArray} {own : String} {d pc : Nat} {lv : List (Option Value)} {rest : List Value} {h : Hp} {X : Option Rs} (C : Ok w x cc own d) (hdg : decode cc pc = .ok (.arraylength, 1)) (k : PW w x (pc + 1) lv (.int 5 :: rest) h X) : PW w x pc lv (.ref w.2.2.2.2 :: rest) h X := fun r hr H locs ls hP hS hl => va_tlen C.x C.b C.st.2.2.2.1 hS rfl hdg (k r hr H locs ls hP hS hl)
theorem pw_tld {w : Wd} {x : Cz} {cc : ByteArray} {own : String} {d pc : Nat} {lv : List (Option Value)} {rest : List Value} {h : Hp} {X : Option Rs} {i : Int32} (C : Ok w x cc own d) (hdg : decode cc pc = .ok (.iaload, 1)) (k : PW w x (pc + 1) lv (.int (10 ^ i.toNatClampNeg) :: rest) h X) : PW w x pc lv (.int i :: .ref w.2.2.2.2 :: rest) h (if 0 ≤ i.toInt ∧ i.toInt < (5 : Nat) then X else none) := fun r hr H locs ls hP hS hl => by
  by_cases hc : 0 ≤ i.toInt ∧ i.toInt < (5 : Nat)
  · rw [if_pos hc] at hr
    exact va_ti C.x C.b C.st.2.2.2.1 hS (vp_in_iff.mpr hc) rfl hdg (k r hr H locs ls hP hS hl)
  · rw [if_neg hc] at hr; cases hr
theorem pw_copy {w : Wd} {x : Cz} {cc : ByteArray} {own : String} {d pc : Nat} {lv : List (Option Value)} {rest : List Value} {h : Hp} {X : Option Rs} {q0 q1 n0 n1 index : Nat} {sp dp n : Int32} (C : Ok w x cc own d) (hq0 : w.2.2.1[q0]? = some (1, n0, [])) (hq1 : w.2.2.1[q1]? = some (1, n1, [])) (hd : 1 ≤ d) (hlink : Cond.methodLink own index arraycopyName ∈ TBL) (hcat : (rest.map fun v => v.category).sum ≤ 8) (hdg : decode cc pc = .ok (.invokestatic index, 3)) (k : PW w x (pc + 3) lv rest (hcpy h q0 q1 sp.toNatClampNeg dp.toNatClampNeg n.toNatClampNeg) X) : PW w x pc lv (.int n :: .int dp :: .ref (w.2.1 q1) :: .int sp :: .ref (w.2.1 q0) :: rest) h (if ((¬ sp < 0 ∧ ¬ dp < 0 ∧ ¬ n < 0) ∧ sp.toNatClampNeg + n.toNatClampNeg ≤ n0 ∧ dp.toNatClampNeg + n.toNatClampNeg ≤ n1) then X else none) := fun r hr H locs ls hP hS hl => by
  by_cases hc : ((¬ sp < 0 ∧ ¬ dp < 0 ∧ ¬ n < 0) ∧ sp.toNatClampNeg + n.toNatClampNeg ≤ n0 ∧ dp.toNatClampNeg + n.toNatClampNeg ≤ n1)
  · rw [if_pos hc] at hr
    obtain ⟨⟨h1, h2, h3⟩, h4, h5⟩ := hc
    have hrm := C.rm
    refine va_copyi C.x C.b (C.ml.trans hl.1.symm) C.own (C.ts _ hlink) (C.ts _ (tbl_in (by decide +kernel) rfl)) (C.ts _ (tbl_in (by decide +kernel) rfl)) (C.ts _ (tbl_in (by decide +kernel) rfl)) C.K hP (C.D h) hS q0 q1 0 0 (cls_i hq0) (cls_i hq1) rfl rfl rfl h1 h2 h3 h4 h5 (fun _ _ => rfl) (by omega) ?_ hdg (fun H1 locs1 hP1 hD1 hS1 => ?_)
    · have : nativeFrameWords "java/lang/System" "arraycopy" 5 + 11 ≤ 32 := by decide +kernel
      omega
    rw [cls_setcp hq1] at hP1
    exact k r hr H1 locs1 ls hP1 hS1 hl
  · rw [if_neg hc] at hr; cases hr
theorem pw_mmax {w : Wd} {x : Cz} {cc : ByteArray} {own : String} {d pc : Nat} {lv : List (Option Value)} {rest : List Value} {h : Hp} {X : Option Rs} {index : Nat} {a b : Int32} (C : Ok w x cc own d) (hd : 1 ≤ d) (hlink : Cond.methodLink own index Lib.Math.max.name ∈ TBL) (hcat : (rest.map fun v => v.category).sum ≤ 8) (hdg : decode cc pc = .ok (.invokestatic index, 3)) (k : PW w x (pc + 3) lv (.int (if a < b then b else a) :: rest) h X) : PW w x pc lv (.int b :: .int a :: rest) h X := fun r hr H locs ls hP hS hl => by
  have hrm := C.rm
  exact va_mmax C.x C.b (C.ml.trans hl.1.symm) C.own (C.ts _ hlink) (C.ts _ (tbl_in (by decide +kernel) rfl)) (C.ts _ (tbl_in (by decide +kernel) rfl)) (C.ts _ (tbl_in (by decide +kernel) rfl)) (by omega) (by omega) hrm.2.2.1 hrm.2.2.2 hdg (k r hr H locs ls hP hS hl)
theorem pw_mmin {w : Wd} {x : Cz} {cc : ByteArray} {own : String} {d pc : Nat} {lv : List (Option Value)} {rest : List Value} {h : Hp} {X : Option Rs} {index : Nat} {a b : Int32} (C : Ok w x cc own d) (hd : 1 ≤ d) (hlink : Cond.methodLink own index Lib.Math.min.name ∈ TBL) (hcat : (rest.map fun v => v.category).sum ≤ 8) (hdg : decode cc pc = .ok (.invokestatic index, 3)) (k : PW w x (pc + 3) lv (.int (if b < a then b else a) :: rest) h X) : PW w x pc lv (.int b :: .int a :: rest) h X := fun r hr H locs ls hP hS hl => by
  have hrm := C.rm
  exact va_mmin C.x C.b (C.ml.trans hl.1.symm) C.own (C.ts _ hlink) (C.ts _ (tbl_in (by decide +kernel) rfl)) (C.ts _ (tbl_in (by decide +kernel) rfl)) (C.ts _ (tbl_in (by decide +kernel) rfl)) (by omega) (by omega) hrm.2.2.1 hrm.2.2.2 hdg (k r hr H locs ls hP hS hl)
theorem pw_mabs {w : Wd} {x : Cz} {cc : ByteArray} {own : String} {d pc : Nat} {lv : List (Option Value)} {rest : List Value} {h : Hp} {X : Option Rs} {index : Nat} {a : Int32} (C : Ok w x cc own d) (hd : 1 ≤ d) (hlink : Cond.methodLink own index Lib.Math.abs.name ∈ TBL) (hcat : (rest.map fun v => v.category).sum ≤ 8) (hdg : decode cc pc = .ok (.invokestatic index, 3)) (k : PW w x (pc + 3) lv (.int (if 0 ≤ a then a else 0 - a) :: rest) h X) : PW w x pc lv (.int a :: rest) h X := fun r hr H locs ls hP hS hl => by
  have hrm := C.rm
  exact va_mabs C.x C.b (C.ml.trans hl.1.symm) C.own (C.ts _ hlink) (C.ts _ (tbl_in (by decide +kernel) rfl)) (C.ts _ (tbl_in (by decide +kernel) rfl)) (C.ts _ (tbl_in (by decide +kernel) rfl)) (by omega) (by omega) hrm.2.2.1 hrm.2.2.2 hdg (k r hr H locs ls hP hS hl)
def CW (y : MethodName) (b : ByteArray) (n : Nat) (ret : Option FieldType) (na : Nat) : Prop := Cond.code y b n ret ∈ TBL ∧ Cond.initialized y.cls ∈ TBL ∧ (y.cls ≠ "java/lang/invoke/MethodHandle" ∧ y.cls ≠ "java/lang/invoke/VarHandle") ∧ (parseMethodDescriptor y.desc).map (fun d => d.parameters.length) = some na
theorem cw_good {y : MethodName} {b : ByteArray} {n : Nat} {ret : Option FieldType} {na : Nat} (h : CW y b n ret na) : GoodIn TBL (.code y b n ret :: TBL) := fun w hw => by
  rcases List.mem_cons.mp hw with e | e
  · subst e; exact ⟨h.1, tbl_good h.1⟩
  · exact ⟨e, tbl_good e⟩
theorem cw_callB {R : Room} {s : State} {args : Array Value} {own : String} {index : Nat} {y : MethodName} {b : ByteArray} {n : Nat} {ret : Option FieldType} {na dc d : Nat} (ht : ∀ w ∈ TBL, w.before args s = true) (h : CW y b n ret na) (hl : Cond.methodLink own index y ∈ TBL) (hd : dc < d ∧ n ≤ 21) (hR : d ≤ R.frames ∧ 40 * d ≤ R.locals) :
    CallB R s args own index y b n ret (.code y b n ret :: TBL) (rmd dc) 0 0 na :=
  callB_of na ht (cw_good h) rfl rfl rfl (ht _ h.2.1) (ht _ hl) ⟨h.2.2.1.1, h.2.2.1.2, h.2.2.2⟩ (by simp only [rmd]; omega)
theorem cw_callN {R : Room} {s : State} {args : Array Value} {own : String} {index : Nat} {y : MethodName} {host : String} {b : ByteArray} {n : Nat} {ret : Option FieldType} {na dc d : Nat} (ht : ∀ w ∈ TBL, w.before args s = true) (h : CW y b n ret na) (hN : NW s) (hl : (own, index, y, host) ∈ nestM) (hd : dc < d ∧ n ≤ 21) (hR : d ≤ R.frames ∧ 40 * d ≤ R.locals) :
    va_CN R s args own index y host b n ret (.code y b n ret :: TBL) (rmd dc) 0 0 na :=
  va_cnB na ht (cw_good h) rfl rfl rfl (hN _ hl) (ht _ h.2.1) ⟨h.2.2.1.1, h.2.2.1.2, h.2.2.2⟩ (by simp only [rmd]; omega)
theorem pre_S {w : Wd} {x : Cz} {cc : ByteArray} {own : String} {d : Nat} {h : Hp} {H : Heap} {locs : List Loc} {as : List Value} (C : Ok w x cc own d) (hP : va_P w.1 vwCl (cls w h) H) (hS : va_S (xA x) (xs x).heap H locs) : PreS (xs x) H (va_Pc as (PreW w (xA x) h)) as :=
  ⟨PreW.blind, fun U hU hW => ⟨rfl, by rw [hU]; exact hP, C.st.at hS hU hW⟩⟩
theorem pre_V {w : Wd} {x : Cz} {cc : ByteArray} {own : String} {d : Nat} {h : Hp} {H : Heap} {locs : List Loc} {as : List Value} {q ci N : Nat} {ks : List Nat} {CN : String} {T : u_T} (C : Ok w x cc own d) (hP : va_P w.1 vwCl (cls w h) H) (hS : va_S (xA x) (xs x).heap H locs) (hq : w.2.2.1[q]? = some (0, ci, ks)) (hc : vwCl[ci]? = some (CN, T, N)) : PreV (xs x) H CN (w.2.1 q) (va_Pc (.ref (w.2.1 q) :: as) (PreW w (xA x) h)) as :=
  ⟨PreW.blind, va_recv C.K hP hc (cls_o hq), fun U hU hW => ⟨rfl, by rw [hU]; exact hP, C.st.at hS hU hW⟩⟩

theorem pw_callSi {w : Wd} {x : Cz} {cc : ByteArray} {own : String} {d pc : Nat} {lv : List (Option Value)} {rest : List Value} {h : Hp}  {y : MethodName} {b : ByteArray} {n na dc index : Nat} {as st0 : List Value} {g : Option Rs} {K : Rs → Option Rs} {rt : FieldType} (C : Ok w x cc own d) (hdg : decode cc pc = .ok (.invokestatic index, 3)) (hl : Cond.methodLink own index y ∈ TBL) (hy : CW y b n (some rt) na) (hst : Cond.static y ∈ TBL) (hd : dc < d ∧ n ≤ 21) (hcon : ConI (xl x) y b n rt dc w (xA x) as h g) (has : as.length = na) (hstk : st0 = as.reverse ++ rest) (hcat : (rest.map fun v => v.category).sum ≤ 8) (k : ∀ (v : Int32) (h2 : Hp), g = some (v, h2) → PW w x (pc + 3) lv (.int v :: rest) h2 (K (v, h2))) : PW w x pc lv st0 h (g.bind K) := fun r hr H locs ls hP hS hl2 => by
  obtain ⟨r0, hg, hK⟩ := Option.bind_eq_some_iff.mp hr
  refine va_calli (va_runS ⟨C.x, C.b, C.ml, C.own, C.ts⟩ (hcon r0 hg) ⟨cw_callB C.ts hy hl hd ⟨C.rm.1, C.rm.2.1⟩, C.ts _ hst⟩ (pre_S C hP hS) rfl has hl2.1 hstk (lv_room hcat) hdg ⟨C.rm.2.2.1, C.rm.2.2.2⟩) hS (fun q _ h => h) (fun q h => h) (fun v u t H1 locs1 ht hvm hp hB hz hk1 hS1 => ?_)
  rw [ht] at hB
  subst hp
  exact k r0.1 r0.2 hg r hK H1 locs1 ls hB hS1 hl2
theorem pw_callSv {w : Wd} {x : Cz} {cc : ByteArray} {own : String} {d pc : Nat} {lv : List (Option Value)} {rest : List Value} {h : Hp}  {y : MethodName} {b : ByteArray} {n na dc index : Nat} {as st0 : List Value} {g : Option Rs} {K : Rs → Option Rs} (C : Ok w x cc own d) (hdg : decode cc pc = .ok (.invokestatic index, 3)) (hl : Cond.methodLink own index y ∈ TBL) (hy : CW y b n none na) (hst : Cond.static y ∈ TBL) (hd : dc < d ∧ n ≤ 21) (hcon : ConV (xl x) y b n dc w (xA x) as h g) (has : as.length = na) (hstk : st0 = as.reverse ++ rest) (hcat : (rest.map fun v => v.category).sum ≤ 8) (k : ∀ (v : Int32) (h2 : Hp), g = some (v, h2) → PW w x (pc + 3) lv rest h2 (K (v, h2))) : PW w x pc lv st0 h (g.bind K) := fun r hr H locs ls hP hS hl2 => by
  obtain ⟨r0, hg, hK⟩ := Option.bind_eq_some_iff.mp hr
  refine va_callv (va_runS ⟨C.x, C.b, C.ml, C.own, C.ts⟩ (hcon r0 hg) ⟨cw_callB C.ts hy hl hd ⟨C.rm.1, C.rm.2.1⟩, C.ts _ hst⟩ (pre_S C hP hS) rfl has hl2.1 hstk (lv_room hcat) hdg ⟨C.rm.2.2.1, C.rm.2.2.2⟩) hS (fun q _ h => h) (fun q h => h) (fun u t H1 locs1 ht hvm hp hB hz hk1 hS1 => ?_)
  rw [ht] at hB
  exact k r0.1 r0.2 hg r hK H1 locs1 ls hB hS1 hl2
theorem pw_callVi {w : Wd} {x : Cz} {cc : ByteArray} {own : String} {d pc : Nat} {lv : List (Option Value)} {rest : List Value} {h : Hp}  {y : MethodName} {b : ByteArray} {n na dc index : Nat} {as st0 : List Value} {g : Option Rs} {K : Rs → Option Rs} {rt : FieldType} {q ci N : Nat} {ks : List Nat} {T : u_T} (C : Ok w x cc own d) (hdg : decode cc pc = .ok (.invokevirtual index, 3)) (hl : Cond.methodLink own index y ∈ TBL) (hy : CW y b n (some rt) na) (hi : Cond.instanceMethod y ∈ TBL) (hsel : Cond.selects y.cls y y ∈ TBL) (hq : w.2.2.1[q]? = some (0, ci, ks)) (hc : vwCl[ci]? = some (y.cls, T, N)) (hd : dc < d ∧ n ≤ 21) (hcon : ConI (xl x) y b n rt dc w (xA x) (.ref (w.2.1 q) :: as) h g) (has : as.length = na) (hstk : st0 = as.reverse ++ .ref (w.2.1 q) :: rest) (hcat : (rest.map fun v => v.category).sum ≤ 8) (k : ∀ (v : Int32) (h2 : Hp), g = some (v, h2) → PW w x (pc + 3) lv (.int v :: rest) h2 (K (v, h2))) : PW w x pc lv st0 h (g.bind K) := fun r hr H locs ls hP hS hl2 => by
  obtain ⟨r0, hg, hK⟩ := Option.bind_eq_some_iff.mp hr
  refine va_calli (va_runV ⟨C.x, C.b, C.ml, C.own, C.ts⟩ (hcon r0 hg) ⟨cw_callB C.ts hy hl hd ⟨C.rm.1, C.rm.2.1⟩, C.ts _ hi, C.ts _ hsel⟩ (pre_V C hP hS hq hc) rfl has hl2.1 hstk (lv_room hcat) hdg ⟨C.rm.2.2.1, C.rm.2.2.2⟩) hS (fun q _ h => h) (fun q h => h) (fun v u t H1 locs1 ht hvm hp hB hz hk1 hS1 => ?_)
  rw [ht] at hB
  subst hp
  exact k r0.1 r0.2 hg r hK H1 locs1 ls hB hS1 hl2
theorem pw_callVv {w : Wd} {x : Cz} {cc : ByteArray} {own : String} {d pc : Nat} {lv : List (Option Value)} {rest : List Value} {h : Hp}  {y : MethodName} {b : ByteArray} {n na dc index : Nat} {as st0 : List Value} {g : Option Rs} {K : Rs → Option Rs} {q ci N : Nat} {ks : List Nat} {T : u_T} (C : Ok w x cc own d) (hdg : decode cc pc = .ok (.invokevirtual index, 3)) (hl : Cond.methodLink own index y ∈ TBL) (hy : CW y b n none na) (hi : Cond.instanceMethod y ∈ TBL) (hsel : Cond.selects y.cls y y ∈ TBL) (hq : w.2.2.1[q]? = some (0, ci, ks)) (hc : vwCl[ci]? = some (y.cls, T, N)) (hd : dc < d ∧ n ≤ 21) (hcon : ConV (xl x) y b n dc w (xA x) (.ref (w.2.1 q) :: as) h g) (has : as.length = na) (hstk : st0 = as.reverse ++ .ref (w.2.1 q) :: rest) (hcat : (rest.map fun v => v.category).sum ≤ 8) (k : ∀ (v : Int32) (h2 : Hp), g = some (v, h2) → PW w x (pc + 3) lv rest h2 (K (v, h2))) : PW w x pc lv st0 h (g.bind K) := fun r hr H locs ls hP hS hl2 => by
  obtain ⟨r0, hg, hK⟩ := Option.bind_eq_some_iff.mp hr
  refine va_callv (va_runV ⟨C.x, C.b, C.ml, C.own, C.ts⟩ (hcon r0 hg) ⟨cw_callB C.ts hy hl hd ⟨C.rm.1, C.rm.2.1⟩, C.ts _ hi, C.ts _ hsel⟩ (pre_V C hP hS hq hc) rfl has hl2.1 hstk (lv_room hcat) hdg ⟨C.rm.2.2.1, C.rm.2.2.2⟩) hS (fun q _ h => h) (fun q h => h) (fun u t H1 locs1 ht hvm hp hB hz hk1 hS1 => ?_)
  rw [ht] at hB
  exact k r0.1 r0.2 hg r hK H1 locs1 ls hB hS1 hl2
theorem pw_callSNi {w : Wd} {x : Cz} {cc : ByteArray} {own : String} {d pc : Nat} {lv : List (Option Value)} {rest : List Value} {h : Hp}  {y : MethodName} {b : ByteArray} {n na dc index : Nat} {as st0 : List Value} {g : Option Rs} {K : Rs → Option Rs} {rt : FieldType} {host : String} (C : Ok w x cc own d) (hdg : decode cc pc = .ok (.invokestatic index, 3)) (hl : (own, index, y, host) ∈ nestM) (hy : CW y b n (some rt) na) (hst : Cond.static y ∈ TBL) (hd : dc < d ∧ n ≤ 21) (hcon : ConI (xl x) y b n rt dc w (xA x) as h g) (has : as.length = na) (hstk : st0 = as.reverse ++ rest) (hcat : (rest.map fun v => v.category).sum ≤ 8) (k : ∀ (v : Int32) (h2 : Hp), g = some (v, h2) → PW w x (pc + 3) lv (.int v :: rest) h2 (K (v, h2))) : PW w x pc lv st0 h (g.bind K) := fun r hr H locs ls hP hS hl2 => by
  obtain ⟨r0, hg, hK⟩ := Option.bind_eq_some_iff.mp hr
  refine va_calli (va_runSN ⟨C.x, C.b, C.ml, C.own, C.ts⟩ (hcon r0 hg) ⟨cw_callN C.ts hy C.st.2.2.2.2.1 hl hd ⟨C.rm.1, C.rm.2.1⟩, C.ts _ hst, trivial⟩ (pre_S C hP hS) rfl has hl2.1 hstk (lv_room hcat) hdg ⟨C.rm.2.2.1, C.rm.2.2.2⟩) hS (fun q _ h => h) (fun q h => h) (fun v u t H1 locs1 ht hvm hp hB hz hk1 hS1 => ?_)
  rw [ht] at hB
  subst hp
  exact k r0.1 r0.2 hg r hK H1 locs1 ls hB hS1 hl2
theorem pw_callSNv {w : Wd} {x : Cz} {cc : ByteArray} {own : String} {d pc : Nat} {lv : List (Option Value)} {rest : List Value} {h : Hp}  {y : MethodName} {b : ByteArray} {n na dc index : Nat} {as st0 : List Value} {g : Option Rs} {K : Rs → Option Rs} {host : String} (C : Ok w x cc own d) (hdg : decode cc pc = .ok (.invokestatic index, 3)) (hl : (own, index, y, host) ∈ nestM) (hy : CW y b n none na) (hst : Cond.static y ∈ TBL) (hd : dc < d ∧ n ≤ 21) (hcon : ConV (xl x) y b n dc w (xA x) as h g) (has : as.length = na) (hstk : st0 = as.reverse ++ rest) (hcat : (rest.map fun v => v.category).sum ≤ 8) (k : ∀ (v : Int32) (h2 : Hp), g = some (v, h2) → PW w x (pc + 3) lv rest h2 (K (v, h2))) : PW w x pc lv st0 h (g.bind K) := fun r hr H locs ls hP hS hl2 => by
  obtain ⟨r0, hg, hK⟩ := Option.bind_eq_some_iff.mp hr
  refine va_callv (va_runSN ⟨C.x, C.b, C.ml, C.own, C.ts⟩ (hcon r0 hg) ⟨cw_callN C.ts hy C.st.2.2.2.2.1 hl hd ⟨C.rm.1, C.rm.2.1⟩, C.ts _ hst, trivial⟩ (pre_S C hP hS) rfl has hl2.1 hstk (lv_room hcat) hdg ⟨C.rm.2.2.1, C.rm.2.2.2⟩) hS (fun q _ h => h) (fun q h => h) (fun u t H1 locs1 ht hvm hp hB hz hk1 hS1 => ?_)
  rw [ht] at hB
  exact k r0.1 r0.2 hg r hK H1 locs1 ls hB hS1 hl2
theorem pw_callVNi {w : Wd} {x : Cz} {cc : ByteArray} {own : String} {d pc : Nat} {lv : List (Option Value)} {rest : List Value} {h : Hp}  {y : MethodName} {b : ByteArray} {n na dc index : Nat} {as st0 : List Value} {g : Option Rs} {K : Rs → Option Rs} {rt : FieldType} {q ci N : Nat} {ks : List Nat} {T : u_T} {host : String} (C : Ok w x cc own d) (hdg : decode cc pc = .ok (.invokevirtual index, 3)) (hl : (own, index, y, host) ∈ nestM) (hy : CW y b n (some rt) na) (hi : Cond.instanceMethod y ∈ TBL) (hsel : Cond.selects y.cls y y ∈ TBL) (hq : w.2.2.1[q]? = some (0, ci, ks)) (hc : vwCl[ci]? = some (y.cls, T, N)) (hd : dc < d ∧ n ≤ 21) (hcon : ConI (xl x) y b n rt dc w (xA x) (.ref (w.2.1 q) :: as) h g) (has : as.length = na) (hstk : st0 = as.reverse ++ .ref (w.2.1 q) :: rest) (hcat : (rest.map fun v => v.category).sum ≤ 8) (k : ∀ (v : Int32) (h2 : Hp), g = some (v, h2) → PW w x (pc + 3) lv (.int v :: rest) h2 (K (v, h2))) : PW w x pc lv st0 h (g.bind K) := fun r hr H locs ls hP hS hl2 => by
  obtain ⟨r0, hg, hK⟩ := Option.bind_eq_some_iff.mp hr
  refine va_calli (va_runVN ⟨C.x, C.b, C.ml, C.own, C.ts⟩ (hcon r0 hg) ⟨cw_callN C.ts hy C.st.2.2.2.2.1 hl hd ⟨C.rm.1, C.rm.2.1⟩, C.ts _ hi, C.ts _ hsel⟩ (pre_V C hP hS hq hc) rfl has hl2.1 hstk (lv_room hcat) hdg ⟨C.rm.2.2.1, C.rm.2.2.2⟩) hS (fun q _ h => h) (fun q h => h) (fun v u t H1 locs1 ht hvm hp hB hz hk1 hS1 => ?_)
  rw [ht] at hB
  subst hp
  exact k r0.1 r0.2 hg r hK H1 locs1 ls hB hS1 hl2
theorem pw_callVNv {w : Wd} {x : Cz} {cc : ByteArray} {own : String} {d pc : Nat} {lv : List (Option Value)} {rest : List Value} {h : Hp}  {y : MethodName} {b : ByteArray} {n na dc index : Nat} {as st0 : List Value} {g : Option Rs} {K : Rs → Option Rs} {q ci N : Nat} {ks : List Nat} {T : u_T} {host : String} (C : Ok w x cc own d) (hdg : decode cc pc = .ok (.invokevirtual index, 3)) (hl : (own, index, y, host) ∈ nestM) (hy : CW y b n none na) (hi : Cond.instanceMethod y ∈ TBL) (hsel : Cond.selects y.cls y y ∈ TBL) (hq : w.2.2.1[q]? = some (0, ci, ks)) (hc : vwCl[ci]? = some (y.cls, T, N)) (hd : dc < d ∧ n ≤ 21) (hcon : ConV (xl x) y b n dc w (xA x) (.ref (w.2.1 q) :: as) h g) (has : as.length = na) (hstk : st0 = as.reverse ++ .ref (w.2.1 q) :: rest) (hcat : (rest.map fun v => v.category).sum ≤ 8) (k : ∀ (v : Int32) (h2 : Hp), g = some (v, h2) → PW w x (pc + 3) lv rest h2 (K (v, h2))) : PW w x pc lv st0 h (g.bind K) := fun r hr H locs ls hP hS hl2 => by
  obtain ⟨r0, hg, hK⟩ := Option.bind_eq_some_iff.mp hr
  refine va_callv (va_runVN ⟨C.x, C.b, C.ml, C.own, C.ts⟩ (hcon r0 hg) ⟨cw_callN C.ts hy C.st.2.2.2.2.1 hl hd ⟨C.rm.1, C.rm.2.1⟩, C.ts _ hi, C.ts _ hsel⟩ (pre_V C hP hS hq hc) rfl has hl2.1 hstk (lv_room hcat) hdg ⟨C.rm.2.2.1, C.rm.2.2.2⟩) hS (fun q _ h => h) (fun q h => h) (fun u t H1 locs1 ht hvm hp hB hz hk1 hS1 => ?_)
  rw [ht] at hB
  exact k r0.1 r0.2 hg r hK H1 locs1 ls hB hS1 hl2
theorem pw_callSp {w : Wd} {x : Cz} {cc : ByteArray} {own : String} {d pc : Nat} {lv : List (Option Value)} {rest : List Value} {h : Hp}  {y : MethodName} {b : ByteArray} {n na dc index : Nat} {as st0 : List Value}  {rt : FieldType} {g : Option Int32} {K : Int32 → Option Rs} (C : Ok w x cc own d) (hdg : decode cc pc = .ok (.invokestatic index, 3)) (hl : Cond.methodLink own index y ∈ TBL) (hy : CW y b n (some rt) na) (hst : Cond.static y ∈ TBL) (hd : dc < d ∧ n ≤ 21) (hcon : ConI (xl x) y b n rt dc w (xA x) as h (g.map (fun v => (v, h)))) (has : as.length = na) (hstk : st0 = as.reverse ++ rest) (hcat : (rest.map fun v => v.category).sum ≤ 8) (k : ∀ v : Int32, PW w x (pc + 3) lv (.int v :: rest) h (K v)) : PW w x pc lv st0 h (g.bind K) := by
  intro r hr
  obtain ⟨v0, hg, hK⟩ := Option.bind_eq_some_iff.mp hr
  subst hg
  exact pw_callSi (g := some (v0, h)) (K := fun _ => K v0) C hdg hl hy hst hd hcon has hstk hcat (fun v h2 e => by cases e; exact k v0) r hK
theorem pw_callSt {w : Wd} {x : Cz} {cc : ByteArray} {own : String} {d pc : Nat} {lv : List (Option Value)} {rest : List Value} {h : Hp}  {y : MethodName} {b : ByteArray} {n na dc index : Nat} {as st0 : List Value}  {rt : FieldType} {g : Int32} {X : Option Rs} (C : Ok w x cc own d) (hdg : decode cc pc = .ok (.invokestatic index, 3)) (hl : Cond.methodLink own index y ∈ TBL) (hy : CW y b n (some rt) na) (hst : Cond.static y ∈ TBL) (hd : dc < d ∧ n ≤ 21) (hcon : ConI (xl x) y b n rt dc w (xA x) as h (some (g, h))) (has : as.length = na) (hstk : st0 = as.reverse ++ rest) (hcat : (rest.map fun v => v.category).sum ≤ 8) (k : PW w x (pc + 3) lv (.int g :: rest) h X) : PW w x pc lv st0 h X := by
  intro r hr
  exact pw_callSi (g := some (g, h)) (K := fun _ => X) C hdg hl hy hst hd hcon has hstk hcat (fun v h2 e => by cases e; exact k) r hr
theorem pw_callVp {w : Wd} {x : Cz} {cc : ByteArray} {own : String} {d pc : Nat} {lv : List (Option Value)} {rest : List Value} {h : Hp}  {y : MethodName} {b : ByteArray} {n na dc index : Nat} {as st0 : List Value}  {rt : FieldType} {q ci N : Nat} {ks : List Nat} {T : u_T} {g : Option Int32} {K : Int32 → Option Rs} (C : Ok w x cc own d) (hdg : decode cc pc = .ok (.invokevirtual index, 3)) (hl : Cond.methodLink own index y ∈ TBL) (hy : CW y b n (some rt) na) (hi : Cond.instanceMethod y ∈ TBL) (hsel : Cond.selects y.cls y y ∈ TBL) (hq : w.2.2.1[q]? = some (0, ci, ks)) (hc : vwCl[ci]? = some (y.cls, T, N)) (hd : dc < d ∧ n ≤ 21) (hcon : ConI (xl x) y b n rt dc w (xA x) (.ref (w.2.1 q) :: as) h (g.map (fun v => (v, h)))) (has : as.length = na) (hstk : st0 = as.reverse ++ .ref (w.2.1 q) :: rest) (hcat : (rest.map fun v => v.category).sum ≤ 8) (k : ∀ v : Int32, PW w x (pc + 3) lv (.int v :: rest) h (K v)) : PW w x pc lv st0 h (g.bind K) := by
  intro r hr
  obtain ⟨v0, hg, hK⟩ := Option.bind_eq_some_iff.mp hr
  subst hg
  exact pw_callVi (g := some (v0, h)) (K := fun _ => K v0) C hdg hl hy hi hsel hq hc hd hcon has hstk hcat (fun v h2 e => by cases e; exact k v0) r hK
theorem pw_callVt {w : Wd} {x : Cz} {cc : ByteArray} {own : String} {d pc : Nat} {lv : List (Option Value)} {rest : List Value} {h : Hp}  {y : MethodName} {b : ByteArray} {n na dc index : Nat} {as st0 : List Value}  {rt : FieldType} {q ci N : Nat} {ks : List Nat} {T : u_T} {g : Int32} {X : Option Rs} (C : Ok w x cc own d) (hdg : decode cc pc = .ok (.invokevirtual index, 3)) (hl : Cond.methodLink own index y ∈ TBL) (hy : CW y b n (some rt) na) (hi : Cond.instanceMethod y ∈ TBL) (hsel : Cond.selects y.cls y y ∈ TBL) (hq : w.2.2.1[q]? = some (0, ci, ks)) (hc : vwCl[ci]? = some (y.cls, T, N)) (hd : dc < d ∧ n ≤ 21) (hcon : ConI (xl x) y b n rt dc w (xA x) (.ref (w.2.1 q) :: as) h (some (g, h))) (has : as.length = na) (hstk : st0 = as.reverse ++ .ref (w.2.1 q) :: rest) (hcat : (rest.map fun v => v.category).sum ≤ 8) (k : PW w x (pc + 3) lv (.int g :: rest) h X) : PW w x pc lv st0 h X := by
  intro r hr
  exact pw_callVi (g := some (g, h)) (K := fun _ => X) C hdg hl hy hi hsel hq hc hd hcon has hstk hcat (fun v h2 e => by cases e; exact k) r hr
theorem pw_callSNp {w : Wd} {x : Cz} {cc : ByteArray} {own : String} {d pc : Nat} {lv : List (Option Value)} {rest : List Value} {h : Hp}  {y : MethodName} {b : ByteArray} {n na dc index : Nat} {as st0 : List Value}  {rt : FieldType} {host : String} {g : Option Int32} {K : Int32 → Option Rs} (C : Ok w x cc own d) (hdg : decode cc pc = .ok (.invokestatic index, 3)) (hl : (own, index, y, host) ∈ nestM) (hy : CW y b n (some rt) na) (hst : Cond.static y ∈ TBL) (hd : dc < d ∧ n ≤ 21) (hcon : ConI (xl x) y b n rt dc w (xA x) as h (g.map (fun v => (v, h)))) (has : as.length = na) (hstk : st0 = as.reverse ++ rest) (hcat : (rest.map fun v => v.category).sum ≤ 8) (k : ∀ v : Int32, PW w x (pc + 3) lv (.int v :: rest) h (K v)) : PW w x pc lv st0 h (g.bind K) := by
  intro r hr
  obtain ⟨v0, hg, hK⟩ := Option.bind_eq_some_iff.mp hr
  subst hg
  exact pw_callSNi (g := some (v0, h)) (K := fun _ => K v0) C hdg hl hy hst hd hcon has hstk hcat (fun v h2 e => by cases e; exact k v0) r hK
theorem pw_callSNt {w : Wd} {x : Cz} {cc : ByteArray} {own : String} {d pc : Nat} {lv : List (Option Value)} {rest : List Value} {h : Hp}  {y : MethodName} {b : ByteArray} {n na dc index : Nat} {as st0 : List Value}  {rt : FieldType} {host : String} {g : Int32} {X : Option Rs} (C : Ok w x cc own d) (hdg : decode cc pc = .ok (.invokestatic index, 3)) (hl : (own, index, y, host) ∈ nestM) (hy : CW y b n (some rt) na) (hst : Cond.static y ∈ TBL) (hd : dc < d ∧ n ≤ 21) (hcon : ConI (xl x) y b n rt dc w (xA x) as h (some (g, h))) (has : as.length = na) (hstk : st0 = as.reverse ++ rest) (hcat : (rest.map fun v => v.category).sum ≤ 8) (k : PW w x (pc + 3) lv (.int g :: rest) h X) : PW w x pc lv st0 h X := by
  intro r hr
  exact pw_callSNi (g := some (g, h)) (K := fun _ => X) C hdg hl hy hst hd hcon has hstk hcat (fun v h2 e => by cases e; exact k) r hr
theorem pw_callVNp {w : Wd} {x : Cz} {cc : ByteArray} {own : String} {d pc : Nat} {lv : List (Option Value)} {rest : List Value} {h : Hp}  {y : MethodName} {b : ByteArray} {n na dc index : Nat} {as st0 : List Value}  {rt : FieldType} {q ci N : Nat} {ks : List Nat} {T : u_T} {host : String} {g : Option Int32} {K : Int32 → Option Rs} (C : Ok w x cc own d) (hdg : decode cc pc = .ok (.invokevirtual index, 3)) (hl : (own, index, y, host) ∈ nestM) (hy : CW y b n (some rt) na) (hi : Cond.instanceMethod y ∈ TBL) (hsel : Cond.selects y.cls y y ∈ TBL) (hq : w.2.2.1[q]? = some (0, ci, ks)) (hc : vwCl[ci]? = some (y.cls, T, N)) (hd : dc < d ∧ n ≤ 21) (hcon : ConI (xl x) y b n rt dc w (xA x) (.ref (w.2.1 q) :: as) h (g.map (fun v => (v, h)))) (has : as.length = na) (hstk : st0 = as.reverse ++ .ref (w.2.1 q) :: rest) (hcat : (rest.map fun v => v.category).sum ≤ 8) (k : ∀ v : Int32, PW w x (pc + 3) lv (.int v :: rest) h (K v)) : PW w x pc lv st0 h (g.bind K) := by
  intro r hr
  obtain ⟨v0, hg, hK⟩ := Option.bind_eq_some_iff.mp hr
  subst hg
  exact pw_callVNi (g := some (v0, h)) (K := fun _ => K v0) C hdg hl hy hi hsel hq hc hd hcon has hstk hcat (fun v h2 e => by cases e; exact k v0) r hK
theorem pw_callVNt {w : Wd} {x : Cz} {cc : ByteArray} {own : String} {d pc : Nat} {lv : List (Option Value)} {rest : List Value} {h : Hp}  {y : MethodName} {b : ByteArray} {n na dc index : Nat} {as st0 : List Value}  {rt : FieldType} {q ci N : Nat} {ks : List Nat} {T : u_T} {host : String} {g : Int32} {X : Option Rs} (C : Ok w x cc own d) (hdg : decode cc pc = .ok (.invokevirtual index, 3)) (hl : (own, index, y, host) ∈ nestM) (hy : CW y b n (some rt) na) (hi : Cond.instanceMethod y ∈ TBL) (hsel : Cond.selects y.cls y y ∈ TBL) (hq : w.2.2.1[q]? = some (0, ci, ks)) (hc : vwCl[ci]? = some (y.cls, T, N)) (hd : dc < d ∧ n ≤ 21) (hcon : ConI (xl x) y b n rt dc w (xA x) (.ref (w.2.1 q) :: as) h (some (g, h))) (has : as.length = na) (hstk : st0 = as.reverse ++ .ref (w.2.1 q) :: rest) (hcat : (rest.map fun v => v.category).sum ≤ 8) (k : PW w x (pc + 3) lv (.int g :: rest) h X) : PW w x pc lv st0 h X := by
  intro r hr
  exact pw_callVNi (g := some (g, h)) (K := fun _ => X) C hdg hl hy hi hsel hq hc hd hcon has hstk hcat (fun v h2 e => by cases e; exact k) r hr
theorem pw_callSw {w : Wd} {x : Cz} {cc : ByteArray} {own : String} {d pc : Nat} {lv : List (Option Value)} {rest : List Value} {h : Hp}  {y : MethodName} {b : ByteArray} {n na dc index : Nat} {as st0 : List Value}  {h2 : Hp} {X : Option Rs} (C : Ok w x cc own d) (hdg : decode cc pc = .ok (.invokestatic index, 3)) (hl : Cond.methodLink own index y ∈ TBL) (hy : CW y b n none na) (hst : Cond.static y ∈ TBL) (hd : dc < d ∧ n ≤ 21) (hcon : ConV (xl x) y b n dc w (xA x) as h (some (0, h2))) (has : as.length = na) (hstk : st0 = as.reverse ++ rest) (hcat : (rest.map fun v => v.category).sum ≤ 8) (k : PW w x (pc + 3) lv rest h2 X) : PW w x pc lv st0 h X := by
  intro r hr
  exact pw_callSv (g := some (0, h2)) (K := fun _ => X) C hdg hl hy hst hd hcon has hstk hcat (fun v h3 e => by cases e; exact k) r hr
theorem pw_callVw {w : Wd} {x : Cz} {cc : ByteArray} {own : String} {d pc : Nat} {lv : List (Option Value)} {rest : List Value} {h : Hp}  {y : MethodName} {b : ByteArray} {n na dc index : Nat} {as st0 : List Value}  {q ci N : Nat} {ks : List Nat} {T : u_T} {h2 : Hp} {X : Option Rs} (C : Ok w x cc own d) (hdg : decode cc pc = .ok (.invokevirtual index, 3)) (hl : Cond.methodLink own index y ∈ TBL) (hy : CW y b n none na) (hi : Cond.instanceMethod y ∈ TBL) (hsel : Cond.selects y.cls y y ∈ TBL) (hq : w.2.2.1[q]? = some (0, ci, ks)) (hc : vwCl[ci]? = some (y.cls, T, N)) (hd : dc < d ∧ n ≤ 21) (hcon : ConV (xl x) y b n dc w (xA x) (.ref (w.2.1 q) :: as) h (some (0, h2))) (has : as.length = na) (hstk : st0 = as.reverse ++ .ref (w.2.1 q) :: rest) (hcat : (rest.map fun v => v.category).sum ≤ 8) (k : PW w x (pc + 3) lv rest h2 X) : PW w x pc lv st0 h X := by
  intro r hr
  exact pw_callVv (g := some (0, h2)) (K := fun _ => X) C hdg hl hy hi hsel hq hc hd hcon has hstk hcat (fun v h3 e => by cases e; exact k) r hr
theorem pw_callSNw {w : Wd} {x : Cz} {cc : ByteArray} {own : String} {d pc : Nat} {lv : List (Option Value)} {rest : List Value} {h : Hp}  {y : MethodName} {b : ByteArray} {n na dc index : Nat} {as st0 : List Value}  {host : String} {h2 : Hp} {X : Option Rs} (C : Ok w x cc own d) (hdg : decode cc pc = .ok (.invokestatic index, 3)) (hl : (own, index, y, host) ∈ nestM) (hy : CW y b n none na) (hst : Cond.static y ∈ TBL) (hd : dc < d ∧ n ≤ 21) (hcon : ConV (xl x) y b n dc w (xA x) as h (some (0, h2))) (has : as.length = na) (hstk : st0 = as.reverse ++ rest) (hcat : (rest.map fun v => v.category).sum ≤ 8) (k : PW w x (pc + 3) lv rest h2 X) : PW w x pc lv st0 h X := by
  intro r hr
  exact pw_callSNv (g := some (0, h2)) (K := fun _ => X) C hdg hl hy hst hd hcon has hstk hcat (fun v h3 e => by cases e; exact k) r hr
theorem pw_callVNw {w : Wd} {x : Cz} {cc : ByteArray} {own : String} {d pc : Nat} {lv : List (Option Value)} {rest : List Value} {h : Hp}  {y : MethodName} {b : ByteArray} {n na dc index : Nat} {as st0 : List Value}  {q ci N : Nat} {ks : List Nat} {T : u_T} {host : String} {h2 : Hp} {X : Option Rs} (C : Ok w x cc own d) (hdg : decode cc pc = .ok (.invokevirtual index, 3)) (hl : (own, index, y, host) ∈ nestM) (hy : CW y b n none na) (hi : Cond.instanceMethod y ∈ TBL) (hsel : Cond.selects y.cls y y ∈ TBL) (hq : w.2.2.1[q]? = some (0, ci, ks)) (hc : vwCl[ci]? = some (y.cls, T, N)) (hd : dc < d ∧ n ≤ 21) (hcon : ConV (xl x) y b n dc w (xA x) (.ref (w.2.1 q) :: as) h (some (0, h2))) (has : as.length = na) (hstk : st0 = as.reverse ++ .ref (w.2.1 q) :: rest) (hcat : (rest.map fun v => v.category).sum ≤ 8) (k : PW w x (pc + 3) lv rest h2 X) : PW w x pc lv st0 h X := by
  intro r hr
  exact pw_callVNv (g := some (0, h2)) (K := fun _ => X) C hdg hl hy hi hsel hq hc hd hcon has hstk hcat (fun v h3 e => by cases e; exact k) r hr
theorem pw_iret {w : Wd} {x : Cz} {cc : ByteArray} {own : String} {d pc : Nat} {lv : List (Option Value)} {h : Hp} {v : Int32} (C : Ok w x cc own d) (hR : OkI w x .int) (hdg : decode cc pc = .ok (.ireturn, 1)) : PW w x pc lv [.int v] h (some (v, h)) := fun r hr H locs ls hP hS hl => by
  cases hr
  rw [hR.2]
  exact W.iret C.x C.b hR.1 (fun t ht hW => ⟨⟨v, (), rfl, rfl, by show va_P _ _ _ t.heap; rw [ht]; exact hP⟩, hS.F ht⟩) hS.2.2 hdg C.lk
theorem pw_zret {w : Wd} {x : Cz} {cc : ByteArray} {own : String} {d pc : Nat} {lv : List (Option Value)} {h : Hp} {v : Int32} (C : Ok w x cc own d) (hR : OkI w x .boolean) (hdg : decode cc pc = .ok (.ireturn, 1)) : PW w x pc lv [.int v] h (if v = 0 ∨ v = 1 then some (v, h) else none) := fun r hr H locs ls hP hS hl => by
  by_cases hc : v = 0 ∨ v = 1
  · rw [if_pos hc] at hr
    cases hr
    rw [hR.2]
    exact W.zret C.x C.b hR.1 (by rcases hc with e | e <;> subst e <;> rfl) (fun t ht hW => ⟨⟨v, (), rfl, rfl, by show va_P _ _ _ t.heap; rw [ht]; exact hP⟩, hS.F ht⟩) hS.2.2 hdg C.lk
  · rw [if_neg hc] at hr; cases hr
theorem pw_zret' {w : Wd} {x : Cz} {cc : ByteArray} {own : String} {d pc : Nat} {lv : List (Option Value)} {h : Hp} {v : Int32} (C : Ok w x cc own d) (hR : OkI w x .boolean) (hdg : decode cc pc = .ok (.ireturn, 1)) (hv : v = 0 ∨ v = 1) : PW w x pc lv [.int v] h (some (v, h)) := by
  have := pw_zret (lv := lv) (h := h) (v := v) C hR hdg
  rwa [if_pos hv] at this
theorem pw_vret {w : Wd} {x : Cz} {cc : ByteArray} {own : String} {d pc : Nat} {lv : List (Option Value)} {h : Hp} (C : Ok w x cc own d) (hR : OkV w x) (hdg : decode cc pc = .ok (.return_, 1)) : PW w x pc lv [] h (some (0, h)) := fun r hr H locs ls hP hS hl => by
  cases hr
  rw [hR.2]
  exact W.vret C.x C.b hR.1 (fun t ht hW => ⟨⟨(), rfl, trivial, by show va_P _ _ _ t.heap; rw [ht]; exact hP⟩, hS.F ht⟩) hS.2.2 hdg C.lk
theorem ConI.of {l : Launch} {y : MethodName} {b : ByteArray} {n : Nat} {rt : FieldType} {d : Nat} {w : Wd} {A : Nat → Prop} {as : List Value} {h : Hp} {res : Option Rs} {lv0 : List (Option Value)} (hpl : plainFor y = true) (hn : (lg_sl as).length ≤ n) (hlv : lv_args 0 as = asc 0 lv0) (k : ∀ x : Cz, Ok w x b y.cls d → OkI w x rt → xN x = n → PW w x 0 lv0 [] h res) : ConI l y b n rt d w A as h res := by
  intro r hr
  refine va_MetF (cc := b) (maxL := n) (ret := some rt) hpl rfl ?_
  intro p e s m args below meth c s₁ B hml hv
  obtain ⟨rfl, hP, hSt⟩ := hv
  have hts := atoms_spec (ws := .code y b n (some rt) :: TBL) B.pre
  have C : Ok w (p, l, e, (headSpec (.code y b n (some rt) :: TBL) (rmd d)).room, s, m, as.toArray, below, meth, c, A, n, 0, 0, fun r => MQ below (va_Qi (fun v (_ : Unit) => v = r.1) (fun _ t => va_P w.1 vwCl (cls w r.2) t.heap) A) as.toArray s 0 0 A) b y.cls d :=
    ⟨B.exec, B.bytes, hml, findClass_of_methodNamed B.named, fun w hw => hts w (List.mem_cons_of_mem _ hw), B.notSynchronized, ⟨Nat.le_refl _, Nat.le_refl _, Nat.zero_le _, Nat.zero_le _⟩, hSt⟩
  have hl := lv_entry as hn
  rw [lg_entry_eq]
  exact k _ C ⟨B.returns, rfl⟩ rfl r hr s.heap [] _ hP va_S.rf (by rw [← hlv]; exact hl)
theorem ConV.of {l : Launch} {y : MethodName} {b : ByteArray} {n : Nat} {d : Nat} {w : Wd} {A : Nat → Prop} {as : List Value} {h : Hp} {res : Option Rs} {lv0 : List (Option Value)} (hpl : plainFor y = true) (hn : (lg_sl as).length ≤ n) (hlv : lv_args 0 as = asc 0 lv0) (k : ∀ x : Cz, Ok w x b y.cls d → OkV w x → xN x = n → PW w x 0 lv0 [] h res) : ConV l y b n d w A as h res := by
  intro r hr
  refine va_MetF (cc := b) (maxL := n) (ret := none) hpl rfl ?_
  intro p e s m args below meth c s₁ B hml hv
  obtain ⟨rfl, hP, hSt⟩ := hv
  have hts := atoms_spec (ws := .code y b n none :: TBL) B.pre
  have C : Ok w (p, l, e, (headSpec (.code y b n none :: TBL) (rmd d)).room, s, m, as.toArray, below, meth, c, A, n, 0, 0, fun r => MQ below (va_Qv (fun (_ : Unit) => True) (fun _ t => va_P w.1 vwCl (cls w r.2) t.heap) A) as.toArray s 0 0 A) b y.cls d :=
    ⟨B.exec, B.bytes, hml, findClass_of_methodNamed B.named, fun w hw => hts w (List.mem_cons_of_mem _ hw), B.notSynchronized, ⟨Nat.le_refl _, Nat.le_refl _, Nat.zero_le _, Nat.zero_le _⟩, hSt⟩
  have hl := lv_entry as hn
  rw [lg_entry_eq]
  exact k _ C ⟨B.returns, rfl⟩ rfl r hr s.heap [] _ hP va_S.rf (by rw [← hlv]; exact hl)
theorem PW.eq {w : Wd} {x : Cz} {pc : Nat} {lv : List (Option Value)} {st : List Value} {h : Hp} {X Y : Option Rs} (e : X = Y) (k : PW w x pc lv st h Y) : PW w x pc lv st h X := e ▸ k

end
