def SF_write (N : Nat) (RR : Nat → Hp → Prop) : Prop := ∀ (k : Nat) (h : Hp), k < 64 → RR k h → ∀ (a1 : Int32), ∃ (v : Int32) (h1 h2 : Hp), fX4_write h a1 = some (v, h1) ∧ fX5_write h1 a1 = some (v, h2) ∧ RR (k + 1) h2
def SF_wipe (N : Nat) (RR : Nat → Hp → Prop) : Prop := ∀ (k : Nat) (h : Hp), k < 64 → RR k h → ∃ (v : Int32) (h1 h2 : Hp), fX4_wipe h = some (v, h1) ∧ fX5_wipe h1 = some (v, h2) ∧ RR (k + 1) h2
def SF_fault (N : Nat) (RR : Nat → Hp → Prop) : Prop := ∀ (k : Nat) (h : Hp), k < 64 → RR k h → ∃ (v : Int32) (h1 h2 : Hp), fX4_fault N h = some (v, h1) ∧ fX5_fault N h1 = some (v, h2) ∧ RR (k + 1) h2
def SF_lay (N : Nat) (RR : Nat → Hp → Prop) : Prop := ∀ (k : Nat) (h : Hp), k < 64 → RR k h → ∃ (v : Int32) (h1 h2 : Hp), fX4_lay N h = some (v, h1) ∧ fX5_lay N h1 = some (v, h2) ∧ RR (k + 1) h2
def SF_cord (N : Nat) (RR : Nat → Hp → Prop) : Prop := ∀ (k : Nat) (h : Hp), k < 64 → RR k h → ∀ (a1 a2 : Int32), ∃ (v : Int32) (h1 h2 : Hp), Option.map (fun v => (v, h)) (fX4_cord N h a1 a2) = some (v, h1) ∧ Option.map (fun v => (v, h1)) (fX5_cord N h1 a1 a2) = some (v, h2) ∧ RR (k + 1) h2
def SF_cluster (N : Nat) (RR : Nat → Hp → Prop) : Prop := ∀ (k : Nat) (h : Hp), k < 64 → RR k h → ∀ (a1 a2 : Int32), ∃ (v : Int32) (h1 h2 : Hp), some (fX4_cluster h a1 a2, h) = some (v, h1) ∧ Option.map (fun v => (v, h1)) (fX5_cluster h1 a1 a2) = some (v, h2) ∧ RR (k + 1) h2
def SF_group (N : Nat) (RR : Nat → Hp → Prop) : Prop := ∀ (k : Nat) (h : Hp), k < 64 → RR k h → ∀ (a1 a2 : Int32), ∃ (v : Int32) (h1 h2 : Hp), Option.map (fun v => (v, h)) (fX4_group N h a1 a2) = some (v, h1) ∧ Option.map (fun v => (v, h1)) (fX5_group N h1 a1 a2) = some (v, h2) ∧ RR (k + 1) h2
def SF_pendant (N : Nat) (RR : Nat → Hp → Prop) : Prop := ∀ (k : Nat) (h : Hp), k < 64 → RR k h → ∀ (a1 a2 : Int32), ∃ (v : Int32) (h1 h2 : Hp), Option.map (fun v => (v, h)) (fX4_pendant N h a1 a2) = some (v, h1) ∧ Option.map (fun v => (v, h1)) (fX5_pendant N h1 a1 a2) = some (v, h2) ∧ RR (k + 1) h2
def SF_tie (N : Nat) (RR : Nat → Hp → Prop) : Prop := ∀ (k : Nat) (h : Hp), k < 64 → RR k h → ∀ (a1 a2 : Int32), ∃ (v : Int32) (h1 h2 : Hp), fX4_tie N h a1 a2 = some (v, h1) ∧ fX5_tie N h1 a1 a2 = some (v, h2) ∧ RR (k + 1) h2
def SF_more (N : Nat) (RR : Nat → Hp → Prop) : Prop := ∀ (k : Nat) (h : Hp), k < 64 → RR k h → ∀ (a1 a2 : Int32), ∃ (v : Int32) (h1 h2 : Hp), fX4_more N h a1 a2 = some (v, h1) ∧ fX5_more N h1 a1 a2 = some (v, h2) ∧ RR (k + 1) h2
def SF_knot (N : Nat) (RR : Nat → Hp → Prop) : Prop := ∀ (k : Nat) (h : Hp), k < 64 → RR k h → ∀ (a1 a2 a3 a4 : Int32), ∃ (v : Int32) (h1 h2 : Hp), fX4_knot N h a1 a2 a3 a4 = some (v, h1) ∧ fX5_knot N h1 a1 a2 a3 a4 = some (v, h2) ∧ RR (k + 1) h2
def SF_dye (N : Nat) (RR : Nat → Hp → Prop) : Prop := ∀ (k : Nat) (h : Hp), k < 64 → RR k h → ∀ (a1 a2 : Int32), ∃ (v : Int32) (h1 h2 : Hp), fX4_dye N h a1 a2 = some (v, h1) ∧ fX5_dye N h1 a1 a2 = some (v, h2) ∧ RR (k + 1) h2
def SF_hang (N : Nat) (RR : Nat → Hp → Prop) : Prop := ∀ (k : Nat) (h : Hp), k < 64 → RR k h → ∀ (a1 a2 : Int32), ∃ (v : Int32) (h1 h2 : Hp), fX4_hang N h a1 a2 = some (v, h1) ∧ fX5_hang N h1 a1 a2 = some (v, h2) ∧ RR (k + 1) h2
def SF_undo (N : Nat) (RR : Nat → Hp → Prop) : Prop := ∀ (k : Nat) (h : Hp), k < 64 → RR k h → ∃ (v : Int32) (h1 h2 : Hp), fX4_undo h = some (v, h1) ∧ fX5_undo N h1 = some (v, h2) ∧ RR (k + 1) h2
def SF_wrong (N : Nat) (RR : Nat → Hp → Prop) : Prop := ∀ (k : Nat) (h : Hp), k < 64 → RR k h → ∀ (a1 : Int32), ∃ (v : Int32) (h1 h2 : Hp), Option.map (fun v => (v, h)) (fX4_wrong N h a1) = some (v, h1) ∧ Option.map (fun v => (v, h1)) (fX5_wrong N h1 a1) = some (v, h2) ∧ RR (k + 1) h2
def SF_mend (N : Nat) (RR : Nat → Hp → Prop) : Prop := ∀ (k : Nat) (h : Hp), k < 64 → RR k h → ∀ (a1 : Int32), ∃ (v : Int32) (h1 h2 : Hp), fX4_mend N h a1 = some (v, h1) ∧ fX5_mend N h1 a1 = some (v, h2) ∧ RR (k + 1) h2
def SF_slip (N : Nat) (RR : Nat → Hp → Prop) : Prop := ∀ (k : Nat) (h : Hp), k < 64 → RR k h → ∀ (a1 a2 : Int32), ∃ (v : Int32) (h1 h2 : Hp), Option.map (fun v => (v, h)) (fX4_slip N h a1 a2) = some (v, h1) ∧ Option.map (fun v => (v, h1)) (fX5_slip N h1 a1 a2) = some (v, h2) ∧ RR (k + 1) h2
def SF_lost (N : Nat) (RR : Nat → Hp → Prop) : Prop := ∀ (k : Nat) (h : Hp), k < 64 → RR k h → ∀ (a1 : Int32), ∃ (v : Int32) (h1 h2 : Hp), Option.map (fun v => (v, h)) (fX4_lost N h a1) = some (v, h1) ∧ Option.map (fun v => (v, h1)) (fX5_lost N h1 a1) = some (v, h2) ∧ RR (k + 1) h2
def SF_closed (N : Nat) (RR : Nat → Hp → Prop) : Prop := ∀ (k : Nat) (h : Hp), k < 64 → RR k h → ∀ (a1 a2 a3 : Int32), ∃ (v : Int32) (h1 h2 : Hp), Option.map (fun v => (v, h)) (fX4_closed N h a1 a2 a3) = some (v, h1) ∧ fX5_closed N h1 a1 a2 a3 = some (v, h2) ∧ RR (k + 1) h2
def SF_order (N : Nat) (RR : Nat → Hp → Prop) : Prop := ∀ (k : Nat) (h : Hp), k < 64 → RR k h → ∀ (a1 : Int32), ∃ (v : Int32) (h1 h2 : Hp), fX4_order N h a1 = some (v, h1) ∧ fX5_order N h1 a1 = some (v, h2) ∧ RR (k + 1) h2
def SF_share (N : Nat) (RR : Nat → Hp → Prop) : Prop := ∀ (k : Nat) (h : Hp), k < 64 → RR k h → ∀ (a1 a2 : Int32), ∃ (v : Int32) (h1 h2 : Hp), fX4_share N h a1 a2 = some (v, h1) ∧ fX5_share N h1 a1 a2 = some (v, h2) ∧ RR (k + 1) h2
def SF_make (N : Nat) (RR : Nat → Hp → Prop) : Prop := ∀ (k : Nat) (h : Hp), k < 64 → RR k h → ∀ (a1 : Int32), ∃ (v : Int32) (h1 h2 : Hp), fX4_make N h a1 = some (v, h1) ∧ fX5_make N h1 a1 = some (v, h2) ∧ RR (k + 1) h2
def SF_colours (N : Nat) (RR : Nat → Hp → Prop) : Prop := ∀ (k : Nat) (h : Hp), k < 64 → RR k h → ∀ (a1 a2 : Int32), ∃ (v : Int32) (h1 h2 : Hp), Option.map (fun v => (v, h)) (fX4_colours N h a1 a2) = some (v, h1) ∧ Option.map (fun v => (v, h1)) (fX5_colours N h1 a1 a2) = some (v, h2) ∧ RR (k + 1) h2
def SF_path (N : Nat) (RR : Nat → Hp → Prop) : Prop := ∀ (k : Nat) (h : Hp), k < 64 → RR k h → ∀ (a1 a2 : Int32), ∃ (v : Int32) (h1 h2 : Hp), Option.map (fun v => (v, h)) (fX4_path N h a1 a2) = some (v, h1) ∧ Option.map (fun v => (v, h1)) (fX5_path N h1 a1 a2) = some (v, h2) ∧ RR (k + 1) h2
def SF_same (N : Nat) (RR : Nat → Hp → Prop) : Prop := ∀ (k : Nat) (h : Hp), k < 64 → RR k h → ∀ (a1 a2 : Int32), ∃ (v : Int32) (h1 h2 : Hp), Option.map (fun v => (v, h)) (fX4_same N h a1 a2) = some (v, h1) ∧ Option.map (fun v => (v, h1)) (fX5_same N h1 a1 a2) = some (v, h2) ∧ RR (k + 1) h2
def SF_year (N : Nat) (RR : Nat → Hp → Prop) : Prop := ∀ (k : Nat) (h : Hp), k < 64 → RR k h → ∀ (a1 a2 : Int32), ∃ (v : Int32) (h1 h2 : Hp), Option.map (fun v => (v, h)) (fX4_year N h a1 a2) = some (v, h1) ∧ Option.map (fun v => (v, h1)) (fX5_year N h1 a1 a2) = some (v, h2) ∧ RR (k + 1) h2
def SF_keep (N : Nat) (RR : Nat → Hp → Prop) : Prop := ∀ (k : Nat) (h : Hp), k < 64 → RR k h → ∃ (v : Int32) (h1 h2 : Hp), fX4_keep N h = some (v, h1) ∧ fX5_keep N h1 = some (v, h2) ∧ RR (k + 1) h2
def SF_back (N : Nat) (RR : Nat → Hp → Prop) : Prop := ∀ (k : Nat) (h : Hp), k < 64 → RR k h → ∃ (v : Int32) (h1 h2 : Hp), fX4_back h = some (v, h1) ∧ fX5_back N h1 = some (v, h2) ∧ RR (k + 1) h2
def SF_count (N : Nat) (RR : Nat → Hp → Prop) : Prop := ∀ (k : Nat) (h : Hp), k < 64 → RR k h → ∀ (a1 : Int32), ∃ (v : Int32) (h1 h2 : Hp), Option.map (fun v => (v, h)) (fX4_count N h a1) = some (v, h1) ∧ Option.map (fun v => (v, h1)) (fX5_count N h1 a1) = some (v, h2) ∧ RR (k + 1) h2
theorem pw_sld {w : Wd} {x : Cz} {cc : ByteArray} {own : String} {d pc : Nat} {lv : List (Option Value)} {rest : List Value} {h : Hp} {X : Option Rs} {b L : Nat} {f : Nat → Int32} {i : Int32} (C : Ok w x cc own d) (hX : va_X b L f (xs x) (xs x).heap) (hbl : b < (xs x).heap.size) (hbA : ¬ xA x b) (hin : vp_in i L) (hdg : decode cc pc = .ok (.iaload, 1)) (k : PW w x (pc + 1) lv (.int (f i.toNatClampNeg) :: rest) h X) : PW w x pc lv (.int i :: .ref b :: rest) h X := fun r hr H locs ls hP hS hl => va_sld C.x C.b hX hbl hbA hS hin hdg (k r hr H locs ls hP hS hl)
theorem pw_slen {w : Wd} {x : Cz} {cc : ByteArray} {own : String} {d pc : Nat} {lv : List (Option Value)} {rest : List Value} {h : Hp} {X : Option Rs} {b L : Nat} {f : Nat → Int32} (C : Ok w x cc own d) (hX : va_X b L f (xs x) (xs x).heap) (hbl : b < (xs x).heap.size) (hbA : ¬ xA x b) (hdg : decode cc pc = .ok (.arraylength, 1)) (k : PW w x (pc + 1) lv (.int (nI L) :: rest) h X) : PW w x pc lv (.ref b :: rest) h X := fun r hr H locs ls hP hS hl => va_slen C.x C.b hX hbl hbA hS hdg (k r hr H locs ls hP hS hl)
theorem pw_callVe {w : Wd} {x : Cz} {cc : ByteArray} {own : String} {d pc : Nat} {lv : List (Option Value)} {rest : List Value} {h : Hp} {y : MethodName} {b : ByteArray} {n na dc index : Nat} {as st0 : List Value} {rt : FieldType} {q ci N : Nat} {ks : List Nat} {T : u_T} {v : Int32} {h2 : Hp} {X : Option Rs} (C : Ok w x cc own d) (hdg : decode cc pc = .ok (.invokevirtual index, 3)) (hl : Cond.methodLink own index y ∈ TBL) (hy : CW y b n (some rt) na) (hi : Cond.instanceMethod y ∈ TBL) (hsel : Cond.selects y.cls y y ∈ TBL) (hq : w.2.2.1[q]? = some (0, ci, ks)) (hc : vwCl[ci]? = some (y.cls, T, N)) (hd : dc < d ∧ n ≤ 21) (hcon : ConI (xl x) y b n rt dc w (xA x) (.ref (w.2.1 q) :: as) h (some (v, h2))) (has : as.length = na) (hstk : st0 = as.reverse ++ .ref (w.2.1 q) :: rest) (hcat : (rest.map fun v => v.category).sum ≤ 8) (k : PW w x (pc + 3) lv (.int v :: rest) h2 X) : PW w x pc lv st0 h X := fun r hr =>
  pw_callVi (g := some (v, h2)) (K := fun _ => X) C hdg hl hy hi hsel hq hc hd hcon has hstk hcat (fun v3 h3 e => by cases e; exact k) r hr
theorem law_lt {L j : Nat} (hL : L ≤ 320) (h2 : j ≤ L) (c : ¬ nI L - 5 < nI j) : j + 5 ≤ L := by
  rw [Int32.lt_iff_toInt_lt, Int32.toInt_sub, nI_toInt (by omega), nI_toInt (by omega)] at c
  have e5 : (5 : Int32).toInt = 5 := rfl
  rw [e5] at c
  have : ((L : Int) - 5).bmod (2 ^ 32) = (L : Int) - 5 := Int.bmod_eq_of_le (by omega) (by omega)
  rw [this] at c
  omega
theorem vp_inA {j k L : Nat} (h : j + k < L) (hL : L ≤ 320) : vp_in (nI j + nI k) L := by
  rw [nI_add]; exact vp_in_nI h (by omega)
theorem vp_inB {j L : Nat} (h : j < L) (hL : L ≤ 320) : vp_in (nI j) L := vp_in_nI h (by omega)
set_option maxRecDepth 100000 in
set_option maxHeartbeats 4000000 in
theorem lawc_write {w : Wd} {x : Cz} {b L : Nat} {f : Nat → Int32} (hL : LX w) (hM : LM w) (C : Ok w x cL_law RL 1000) (hN4 : xN x = 4) (hX : va_X b L f (xs x) (xs x).heap) (hbl : b < (xs x).heap.size) (hbA : ¬ xA x b) (hL3 : L ≤ 320) {N : Nat} {RR : Nat → Hp → Prop} {X : Option Rs} (HS : SF_write N RR) (k j : Nat) (h : Hp) (hk : k < 64) (hj : j + 5 ≤ L) (hR : RR k h) (kk : ∀ h2, RR (k + 1) h2 → PW w x 961 [some (.ref b), some (.ref (w.2.1 0)), some (.ref (w.2.1 22)), some (.int (nI j))] [] h2 X) : PW w x 164 [some (.ref b), some (.ref (w.2.1 0)), some (.ref (w.2.1 22)), some (.int (nI j))] [] h X := by
  obtain ⟨v, h1, h2, e4, e5, hR2⟩ := HS k h hk hR (f (nI j + 1).toNatClampNeg)
  have ce4 := c_X4_write (l := xl x) (w := w) (A := xA x) h (f (nI j + 1).toNatClampNeg) hL
  rw [e4] at ce4
  have ce5 := c_X5_write (l := xl x) (w := w) (A := xA x) h1 (f (nI j + 1).toNatClampNeg) hM
  rw [e5] at ce5
  refine pw_aload_n C dL_law_164 rfl rfl ?_
  refine pw_aload_n C dL_law_165 rfl rfl ?_
  refine pw_iload_n C dL_law_166 rfl rfl ?_
  refine pw_iconst (v := 1) C dL_law_167 (by decide) ?_
  refine pw_iadd C dL_law_168 ?_
  refine pw_sld C hX hbl hbA (vp_inA (k := 1) (by omega) hL3) dL_law_169 ?_
  refine pw_callVe (as := [.int (f (nI j + 1).toNatClampNeg)]) (rest := []) C dL_law_170 ml_L_13 cw_X4_write im_X4_write sl_X4_write (hL 0 _ rfl) rfl ⟨by decide, by decide⟩ ce4 rfl rfl (Nat.le_of_ble_eq_true rfl) ?_
  refine pw_aload_n C dL_law_173 rfl rfl ?_
  refine pw_aload_n C dL_law_174 rfl rfl ?_
  refine pw_iload_n C dL_law_175 rfl rfl ?_
  refine pw_iconst (v := 1) C dL_law_176 (by decide) ?_
  refine pw_iadd C dL_law_177 ?_
  refine pw_sld C hX hbl hbA (vp_inA (k := 1) (by omega) hL3) dL_law_178 ?_
  refine pw_callVe (as := [.int (f (nI j + 1).toNatClampNeg)]) (rest := [.int v]) C dL_law_179 ml_L_17 cw_X5_write im_X5_write sl_X5_write (hM 22 _ rfl (by decide)) rfl ⟨by decide, by decide⟩ ce5 rfl rfl (Nat.le_of_ble_eq_true rfl) ?_
  refine PW.eq (Y := if v = v then X else none) (by rw [if_pos rfl]) ?_
  exact pw_icmp_eq (tgt := 961) C dL_law_182 (by decide) (fun _ => kk h2 hR2) (fun c => absurd rfl c)
set_option maxRecDepth 100000 in
set_option maxHeartbeats 4000000 in
theorem lawc_wipe {w : Wd} {x : Cz} {b L : Nat} {f : Nat → Int32} (hL : LX w) (hM : LM w) (C : Ok w x cL_law RL 1000) (hN4 : xN x = 4) (hX : va_X b L f (xs x) (xs x).heap) (hbl : b < (xs x).heap.size) (hbA : ¬ xA x b) (hL3 : L ≤ 320) {N : Nat} {RR : Nat → Hp → Prop} {X : Option Rs} (HS : SF_wipe N RR) (k j : Nat) (h : Hp) (hk : k < 64) (hj : j + 5 ≤ L) (hR : RR k h) (kk : ∀ h2, RR (k + 1) h2 → PW w x 961 [some (.ref b), some (.ref (w.2.1 0)), some (.ref (w.2.1 22)), some (.int (nI j))] [] h2 X) : PW w x 187 [some (.ref b), some (.ref (w.2.1 0)), some (.ref (w.2.1 22)), some (.int (nI j))] [] h X := by
  obtain ⟨v, h1, h2, e4, e5, hR2⟩ := HS k h hk hR
  have ce4 := c_X4_wipe (l := xl x) (w := w) (A := xA x) h hL
  rw [e4] at ce4
  have ce5 := c_X5_wipe (l := xl x) (w := w) (A := xA x) h1 hM
  rw [e5] at ce5
  refine pw_aload_n C dL_law_187 rfl rfl ?_
  refine pw_callVe (as := []) (rest := []) C dL_law_188 ml_L_18 cw_X4_wipe im_X4_wipe sl_X4_wipe (hL 0 _ rfl) rfl ⟨by decide, by decide⟩ ce4 rfl rfl (Nat.le_of_ble_eq_true rfl) ?_
  refine pw_aload_n C dL_law_191 rfl rfl ?_
  refine pw_callVe (as := []) (rest := [.int v]) C dL_law_192 ml_L_22 cw_X5_wipe im_X5_wipe sl_X5_wipe (hM 22 _ rfl (by decide)) rfl ⟨by decide, by decide⟩ ce5 rfl rfl (Nat.le_of_ble_eq_true rfl) ?_
  refine PW.eq (Y := if v = v then X else none) (by rw [if_pos rfl]) ?_
  exact pw_icmp_eq (tgt := 961) C dL_law_195 (by decide) (fun _ => kk h2 hR2) (fun c => absurd rfl c)
set_option maxRecDepth 100000 in
set_option maxHeartbeats 4000000 in
theorem lawc_fault {w : Wd} {x : Cz} {b L : Nat} {f : Nat → Int32} (hL : LX w) (hM : LM w) (C : Ok w x cL_law RL 1000) (hN4 : xN x = 4) (hX : va_X b L f (xs x) (xs x).heap) (hbl : b < (xs x).heap.size) (hbA : ¬ xA x b) (hL3 : L ≤ 320) {N : Nat} {RR : Nat → Hp → Prop} {X : Option Rs} (HS : SF_fault N RR) (k j : Nat) (h : Hp) (hk : k < 64) (hj : j + 5 ≤ L) (hR : RR k h) (kk : ∀ h2, RR (k + 1) h2 → PW w x 961 [some (.ref b), some (.ref (w.2.1 0)), some (.ref (w.2.1 22)), some (.int (nI j))] [] h2 X) : PW w x 200 [some (.ref b), some (.ref (w.2.1 0)), some (.ref (w.2.1 22)), some (.int (nI j))] [] h X := by
  obtain ⟨v, h1, h2, e4, e5, hR2⟩ := HS k h hk hR
  have ce4 := c_X4_fault (l := xl x) (w := w) (A := xA x) N h hL
  rw [e4] at ce4
  have ce5 := c_X5_fault (l := xl x) (w := w) (A := xA x) N h1 hM
  rw [e5] at ce5
  refine pw_aload_n C dL_law_200 rfl rfl ?_
  refine pw_callVe (as := []) (rest := []) C dL_law_201 ml_L_23 cw_X4_fault im_X4_fault sl_X4_fault (hL 0 _ rfl) rfl ⟨by decide, by decide⟩ ce4 rfl rfl (Nat.le_of_ble_eq_true rfl) ?_
  refine pw_aload_n C dL_law_204 rfl rfl ?_
  refine pw_callVe (as := []) (rest := [.int v]) C dL_law_205 ml_L_26 cw_X5_fault im_X5_fault sl_X5_fault (hM 22 _ rfl (by decide)) rfl ⟨by decide, by decide⟩ ce5 rfl rfl (Nat.le_of_ble_eq_true rfl) ?_
  refine PW.eq (Y := if v = v then X else none) (by rw [if_pos rfl]) ?_
  exact pw_icmp_eq (tgt := 961) C dL_law_208 (by decide) (fun _ => kk h2 hR2) (fun c => absurd rfl c)
set_option maxRecDepth 100000 in
set_option maxHeartbeats 4000000 in
theorem lawc_lay {w : Wd} {x : Cz} {b L : Nat} {f : Nat → Int32} (hL : LX w) (hM : LM w) (C : Ok w x cL_law RL 1000) (hN4 : xN x = 4) (hX : va_X b L f (xs x) (xs x).heap) (hbl : b < (xs x).heap.size) (hbA : ¬ xA x b) (hL3 : L ≤ 320) {N : Nat} {RR : Nat → Hp → Prop} {X : Option Rs} (HS : SF_lay N RR) (k j : Nat) (h : Hp) (hk : k < 64) (hj : j + 5 ≤ L) (hR : RR k h) (kk : ∀ h2, RR (k + 1) h2 → PW w x 961 [some (.ref b), some (.ref (w.2.1 0)), some (.ref (w.2.1 22)), some (.int (nI j))] [] h2 X) : PW w x 213 [some (.ref b), some (.ref (w.2.1 0)), some (.ref (w.2.1 22)), some (.int (nI j))] [] h X := by
  obtain ⟨v, h1, h2, e4, e5, hR2⟩ := HS k h hk hR
  have ce4 := c_X4_lay (l := xl x) (w := w) (A := xA x) N h hL
  rw [e4] at ce4
  have ce5 := c_X5_lay (l := xl x) (w := w) (A := xA x) N h1 hM
  rw [e5] at ce5
  refine pw_aload_n C dL_law_213 rfl rfl ?_
  refine pw_callVe (as := []) (rest := []) C dL_law_214 ml_L_27 cw_X4_lay im_X4_lay sl_X4_lay (hL 0 _ rfl) rfl ⟨by decide, by decide⟩ ce4 rfl rfl (Nat.le_of_ble_eq_true rfl) ?_
  refine pw_aload_n C dL_law_217 rfl rfl ?_
  refine pw_callVe (as := []) (rest := [.int v]) C dL_law_218 ml_L_30 cw_X5_lay im_X5_lay sl_X5_lay (hM 22 _ rfl (by decide)) rfl ⟨by decide, by decide⟩ ce5 rfl rfl (Nat.le_of_ble_eq_true rfl) ?_
  refine PW.eq (Y := if v = v then X else none) (by rw [if_pos rfl]) ?_
  exact pw_icmp_eq (tgt := 961) C dL_law_221 (by decide) (fun _ => kk h2 hR2) (fun c => absurd rfl c)
set_option maxRecDepth 100000 in
set_option maxHeartbeats 4000000 in
theorem lawc_cord {w : Wd} {x : Cz} {b L : Nat} {f : Nat → Int32} (hL : LX w) (hM : LM w) (C : Ok w x cL_law RL 1000) (hN4 : xN x = 4) (hX : va_X b L f (xs x) (xs x).heap) (hbl : b < (xs x).heap.size) (hbA : ¬ xA x b) (hL3 : L ≤ 320) {N : Nat} {RR : Nat → Hp → Prop} {X : Option Rs} (HS : SF_cord N RR) (k j : Nat) (h : Hp) (hk : k < 64) (hj : j + 5 ≤ L) (hR : RR k h) (kk : ∀ h2, RR (k + 1) h2 → PW w x 961 [some (.ref b), some (.ref (w.2.1 0)), some (.ref (w.2.1 22)), some (.int (nI j))] [] h2 X) : PW w x 226 [some (.ref b), some (.ref (w.2.1 0)), some (.ref (w.2.1 22)), some (.int (nI j))] [] h X := by
  obtain ⟨v, h1, h2, e4, e5, hR2⟩ := HS k h hk hR (f (nI j + 1).toNatClampNeg) (f (nI j + 2).toNatClampNeg)
  have ce4 := c_X4_cord (l := xl x) (w := w) (A := xA x) N h (f (nI j + 1).toNatClampNeg) (f (nI j + 2).toNatClampNeg) hL
  rw [e4] at ce4
  have ce5 := c_X5_cord (l := xl x) (w := w) (A := xA x) N h1 (f (nI j + 1).toNatClampNeg) (f (nI j + 2).toNatClampNeg) hM
  rw [e5] at ce5
  refine pw_aload_n C dL_law_226 rfl rfl ?_
  refine pw_aload_n C dL_law_227 rfl rfl ?_
  refine pw_iload_n C dL_law_228 rfl rfl ?_
  refine pw_iconst (v := 1) C dL_law_229 (by decide) ?_
  refine pw_iadd C dL_law_230 ?_
  refine pw_sld C hX hbl hbA (vp_inA (k := 1) (by omega) hL3) dL_law_231 ?_
  refine pw_aload_n C dL_law_232 rfl rfl ?_
  refine pw_iload_n C dL_law_233 rfl rfl ?_
  refine pw_iconst (v := 2) C dL_law_234 (by decide) ?_
  refine pw_iadd C dL_law_235 ?_
  refine pw_sld C hX hbl hbA (vp_inA (k := 2) (by omega) hL3) dL_law_236 ?_
  refine pw_callVe (as := [.int (f (nI j + 1).toNatClampNeg), .int (f (nI j + 2).toNatClampNeg)]) (rest := []) C dL_law_237 ml_L_31 cw_X4_cord im_X4_cord sl_X4_cord (hL 0 _ rfl) rfl ⟨by decide, by decide⟩ ce4 rfl rfl (Nat.le_of_ble_eq_true rfl) ?_
  refine pw_aload_n C dL_law_240 rfl rfl ?_
  refine pw_aload_n C dL_law_241 rfl rfl ?_
  refine pw_iload_n C dL_law_242 rfl rfl ?_
  refine pw_iconst (v := 1) C dL_law_243 (by decide) ?_
  refine pw_iadd C dL_law_244 ?_
  refine pw_sld C hX hbl hbA (vp_inA (k := 1) (by omega) hL3) dL_law_245 ?_
  refine pw_aload_n C dL_law_246 rfl rfl ?_
  refine pw_iload_n C dL_law_247 rfl rfl ?_
  refine pw_iconst (v := 2) C dL_law_248 (by decide) ?_
  refine pw_iadd C dL_law_249 ?_
  refine pw_sld C hX hbl hbA (vp_inA (k := 2) (by omega) hL3) dL_law_250 ?_
  refine pw_callVe (as := [.int (f (nI j + 1).toNatClampNeg), .int (f (nI j + 2).toNatClampNeg)]) (rest := [.int v]) C dL_law_251 ml_L_35 cw_X5_cord im_X5_cord sl_X5_cord (hM 22 _ rfl (by decide)) rfl ⟨by decide, by decide⟩ ce5 rfl rfl (Nat.le_of_ble_eq_true rfl) ?_
  refine PW.eq (Y := if v = v then X else none) (by rw [if_pos rfl]) ?_
  exact pw_icmp_eq (tgt := 961) C dL_law_254 (by decide) (fun _ => kk h2 hR2) (fun c => absurd rfl c)
set_option maxRecDepth 100000 in
set_option maxHeartbeats 4000000 in
theorem lawc_cluster {w : Wd} {x : Cz} {b L : Nat} {f : Nat → Int32} (hL : LX w) (hM : LM w) (C : Ok w x cL_law RL 1000) (hN4 : xN x = 4) (hX : va_X b L f (xs x) (xs x).heap) (hbl : b < (xs x).heap.size) (hbA : ¬ xA x b) (hL3 : L ≤ 320) {N : Nat} {RR : Nat → Hp → Prop} {X : Option Rs} (HS : SF_cluster N RR) (k j : Nat) (h : Hp) (hk : k < 64) (hj : j + 5 ≤ L) (hR : RR k h) (kk : ∀ h2, RR (k + 1) h2 → PW w x 961 [some (.ref b), some (.ref (w.2.1 0)), some (.ref (w.2.1 22)), some (.int (nI j))] [] h2 X) : PW w x 259 [some (.ref b), some (.ref (w.2.1 0)), some (.ref (w.2.1 22)), some (.int (nI j))] [] h X := by
  obtain ⟨v, h1, h2, e4, e5, hR2⟩ := HS k h hk hR (f (nI j + 1).toNatClampNeg) (f (nI j + 2).toNatClampNeg)
  have ce4 := c_X4_cluster (l := xl x) (w := w) (A := xA x) h (f (nI j + 1).toNatClampNeg) (f (nI j + 2).toNatClampNeg) hL
  rw [e4] at ce4
  have ce5 := c_X5_cluster (l := xl x) (w := w) (A := xA x) h1 (f (nI j + 1).toNatClampNeg) (f (nI j + 2).toNatClampNeg) hM
  rw [e5] at ce5
  refine pw_aload_n C dL_law_259 rfl rfl ?_
  refine pw_aload_n C dL_law_260 rfl rfl ?_
  refine pw_iload_n C dL_law_261 rfl rfl ?_
  refine pw_iconst (v := 1) C dL_law_262 (by decide) ?_
  refine pw_iadd C dL_law_263 ?_
  refine pw_sld C hX hbl hbA (vp_inA (k := 1) (by omega) hL3) dL_law_264 ?_
  refine pw_aload_n C dL_law_265 rfl rfl ?_
  refine pw_iload_n C dL_law_266 rfl rfl ?_
  refine pw_iconst (v := 2) C dL_law_267 (by decide) ?_
  refine pw_iadd C dL_law_268 ?_
  refine pw_sld C hX hbl hbA (vp_inA (k := 2) (by omega) hL3) dL_law_269 ?_
  refine pw_callVe (as := [.int (f (nI j + 1).toNatClampNeg), .int (f (nI j + 2).toNatClampNeg)]) (rest := []) C dL_law_270 ml_L_36 cw_X4_cluster im_X4_cluster sl_X4_cluster (hL 0 _ rfl) rfl ⟨by decide, by decide⟩ ce4 rfl rfl (Nat.le_of_ble_eq_true rfl) ?_
  refine pw_aload_n C dL_law_273 rfl rfl ?_
  refine pw_aload_n C dL_law_274 rfl rfl ?_
  refine pw_iload_n C dL_law_275 rfl rfl ?_
  refine pw_iconst (v := 1) C dL_law_276 (by decide) ?_
  refine pw_iadd C dL_law_277 ?_
  refine pw_sld C hX hbl hbA (vp_inA (k := 1) (by omega) hL3) dL_law_278 ?_
  refine pw_aload_n C dL_law_279 rfl rfl ?_
  refine pw_iload_n C dL_law_280 rfl rfl ?_
  refine pw_iconst (v := 2) C dL_law_281 (by decide) ?_
  refine pw_iadd C dL_law_282 ?_
  refine pw_sld C hX hbl hbA (vp_inA (k := 2) (by omega) hL3) dL_law_283 ?_
  refine pw_callVe (as := [.int (f (nI j + 1).toNatClampNeg), .int (f (nI j + 2).toNatClampNeg)]) (rest := [.int v]) C dL_law_284 ml_L_39 cw_X5_cluster im_X5_cluster sl_X5_cluster (hM 22 _ rfl (by decide)) rfl ⟨by decide, by decide⟩ ce5 rfl rfl (Nat.le_of_ble_eq_true rfl) ?_
  refine PW.eq (Y := if v = v then X else none) (by rw [if_pos rfl]) ?_
  exact pw_icmp_eq (tgt := 961) C dL_law_287 (by decide) (fun _ => kk h2 hR2) (fun c => absurd rfl c)
set_option maxRecDepth 100000 in
set_option maxHeartbeats 4000000 in
theorem lawc_group {w : Wd} {x : Cz} {b L : Nat} {f : Nat → Int32} (hL : LX w) (hM : LM w) (C : Ok w x cL_law RL 1000) (hN4 : xN x = 4) (hX : va_X b L f (xs x) (xs x).heap) (hbl : b < (xs x).heap.size) (hbA : ¬ xA x b) (hL3 : L ≤ 320) {N : Nat} {RR : Nat → Hp → Prop} {X : Option Rs} (HS : SF_group N RR) (k j : Nat) (h : Hp) (hk : k < 64) (hj : j + 5 ≤ L) (hR : RR k h) (kk : ∀ h2, RR (k + 1) h2 → PW w x 961 [some (.ref b), some (.ref (w.2.1 0)), some (.ref (w.2.1 22)), some (.int (nI j))] [] h2 X) : PW w x 292 [some (.ref b), some (.ref (w.2.1 0)), some (.ref (w.2.1 22)), some (.int (nI j))] [] h X := by
  obtain ⟨v, h1, h2, e4, e5, hR2⟩ := HS k h hk hR (f (nI j + 1).toNatClampNeg) (f (nI j + 2).toNatClampNeg)
  have ce4 := c_X4_group (l := xl x) (w := w) (A := xA x) N h (f (nI j + 1).toNatClampNeg) (f (nI j + 2).toNatClampNeg) hL
  rw [e4] at ce4
  have ce5 := c_X5_group (l := xl x) (w := w) (A := xA x) N h1 (f (nI j + 1).toNatClampNeg) (f (nI j + 2).toNatClampNeg) hM
  rw [e5] at ce5
  refine pw_aload_n C dL_law_292 rfl rfl ?_
  refine pw_aload_n C dL_law_293 rfl rfl ?_
  refine pw_iload_n C dL_law_294 rfl rfl ?_
  refine pw_iconst (v := 1) C dL_law_295 (by decide) ?_
  refine pw_iadd C dL_law_296 ?_
  refine pw_sld C hX hbl hbA (vp_inA (k := 1) (by omega) hL3) dL_law_297 ?_
  refine pw_aload_n C dL_law_298 rfl rfl ?_
  refine pw_iload_n C dL_law_299 rfl rfl ?_
  refine pw_iconst (v := 2) C dL_law_300 (by decide) ?_
  refine pw_iadd C dL_law_301 ?_
  refine pw_sld C hX hbl hbA (vp_inA (k := 2) (by omega) hL3) dL_law_302 ?_
  refine pw_callVe (as := [.int (f (nI j + 1).toNatClampNeg), .int (f (nI j + 2).toNatClampNeg)]) (rest := []) C dL_law_303 ml_L_40 cw_X4_group im_X4_group sl_X4_group (hL 0 _ rfl) rfl ⟨by decide, by decide⟩ ce4 rfl rfl (Nat.le_of_ble_eq_true rfl) ?_
  refine pw_aload_n C dL_law_306 rfl rfl ?_
  refine pw_aload_n C dL_law_307 rfl rfl ?_
  refine pw_iload_n C dL_law_308 rfl rfl ?_
  refine pw_iconst (v := 1) C dL_law_309 (by decide) ?_
  refine pw_iadd C dL_law_310 ?_
  refine pw_sld C hX hbl hbA (vp_inA (k := 1) (by omega) hL3) dL_law_311 ?_
  refine pw_aload_n C dL_law_312 rfl rfl ?_
  refine pw_iload_n C dL_law_313 rfl rfl ?_
  refine pw_iconst (v := 2) C dL_law_314 (by decide) ?_
  refine pw_iadd C dL_law_315 ?_
  refine pw_sld C hX hbl hbA (vp_inA (k := 2) (by omega) hL3) dL_law_316 ?_
  refine pw_callVe (as := [.int (f (nI j + 1).toNatClampNeg), .int (f (nI j + 2).toNatClampNeg)]) (rest := [.int v]) C dL_law_317 ml_L_43 cw_X5_group im_X5_group sl_X5_group (hM 22 _ rfl (by decide)) rfl ⟨by decide, by decide⟩ ce5 rfl rfl (Nat.le_of_ble_eq_true rfl) ?_
  refine PW.eq (Y := if v = v then X else none) (by rw [if_pos rfl]) ?_
  exact pw_icmp_eq (tgt := 961) C dL_law_320 (by decide) (fun _ => kk h2 hR2) (fun c => absurd rfl c)
set_option maxRecDepth 100000 in
set_option maxHeartbeats 4000000 in
theorem lawc_pendant {w : Wd} {x : Cz} {b L : Nat} {f : Nat → Int32} (hL : LX w) (hM : LM w) (C : Ok w x cL_law RL 1000) (hN4 : xN x = 4) (hX : va_X b L f (xs x) (xs x).heap) (hbl : b < (xs x).heap.size) (hbA : ¬ xA x b) (hL3 : L ≤ 320) {N : Nat} {RR : Nat → Hp → Prop} {X : Option Rs} (HS : SF_pendant N RR) (k j : Nat) (h : Hp) (hk : k < 64) (hj : j + 5 ≤ L) (hR : RR k h) (kk : ∀ h2, RR (k + 1) h2 → PW w x 961 [some (.ref b), some (.ref (w.2.1 0)), some (.ref (w.2.1 22)), some (.int (nI j))] [] h2 X) : PW w x 325 [some (.ref b), some (.ref (w.2.1 0)), some (.ref (w.2.1 22)), some (.int (nI j))] [] h X := by
  obtain ⟨v, h1, h2, e4, e5, hR2⟩ := HS k h hk hR (f (nI j + 1).toNatClampNeg) (f (nI j + 2).toNatClampNeg)
  have ce4 := c_X4_pendant (l := xl x) (w := w) (A := xA x) N h (f (nI j + 1).toNatClampNeg) (f (nI j + 2).toNatClampNeg) hL
  rw [e4] at ce4
  have ce5 := c_X5_pendant (l := xl x) (w := w) (A := xA x) N h1 (f (nI j + 1).toNatClampNeg) (f (nI j + 2).toNatClampNeg) hM
  rw [e5] at ce5
  refine pw_aload_n C dL_law_325 rfl rfl ?_
  refine pw_aload_n C dL_law_326 rfl rfl ?_
  refine pw_iload_n C dL_law_327 rfl rfl ?_
  refine pw_iconst (v := 1) C dL_law_328 (by decide) ?_
  refine pw_iadd C dL_law_329 ?_
  refine pw_sld C hX hbl hbA (vp_inA (k := 1) (by omega) hL3) dL_law_330 ?_
  refine pw_aload_n C dL_law_331 rfl rfl ?_
  refine pw_iload_n C dL_law_332 rfl rfl ?_
  refine pw_iconst (v := 2) C dL_law_333 (by decide) ?_
  refine pw_iadd C dL_law_334 ?_
  refine pw_sld C hX hbl hbA (vp_inA (k := 2) (by omega) hL3) dL_law_335 ?_
  refine pw_callVe (as := [.int (f (nI j + 1).toNatClampNeg), .int (f (nI j + 2).toNatClampNeg)]) (rest := []) C dL_law_336 ml_L_44 cw_X4_pendant im_X4_pendant sl_X4_pendant (hL 0 _ rfl) rfl ⟨by decide, by decide⟩ ce4 rfl rfl (Nat.le_of_ble_eq_true rfl) ?_
  refine pw_aload_n C dL_law_339 rfl rfl ?_
  refine pw_aload_n C dL_law_340 rfl rfl ?_
  refine pw_iload_n C dL_law_341 rfl rfl ?_
  refine pw_iconst (v := 1) C dL_law_342 (by decide) ?_
  refine pw_iadd C dL_law_343 ?_
  refine pw_sld C hX hbl hbA (vp_inA (k := 1) (by omega) hL3) dL_law_344 ?_
  refine pw_aload_n C dL_law_345 rfl rfl ?_
  refine pw_iload_n C dL_law_346 rfl rfl ?_
  refine pw_iconst (v := 2) C dL_law_347 (by decide) ?_
  refine pw_iadd C dL_law_348 ?_
  refine pw_sld C hX hbl hbA (vp_inA (k := 2) (by omega) hL3) dL_law_349 ?_
  refine pw_callVe (as := [.int (f (nI j + 1).toNatClampNeg), .int (f (nI j + 2).toNatClampNeg)]) (rest := [.int v]) C dL_law_350 ml_L_47 cw_X5_pendant im_X5_pendant sl_X5_pendant (hM 22 _ rfl (by decide)) rfl ⟨by decide, by decide⟩ ce5 rfl rfl (Nat.le_of_ble_eq_true rfl) ?_
  refine PW.eq (Y := if v = v then X else none) (by rw [if_pos rfl]) ?_
  exact pw_icmp_eq (tgt := 961) C dL_law_353 (by decide) (fun _ => kk h2 hR2) (fun c => absurd rfl c)
set_option maxRecDepth 100000 in
set_option maxHeartbeats 4000000 in
theorem lawc_tie {w : Wd} {x : Cz} {b L : Nat} {f : Nat → Int32} (hL : LX w) (hM : LM w) (C : Ok w x cL_law RL 1000) (hN4 : xN x = 4) (hX : va_X b L f (xs x) (xs x).heap) (hbl : b < (xs x).heap.size) (hbA : ¬ xA x b) (hL3 : L ≤ 320) {N : Nat} {RR : Nat → Hp → Prop} {X : Option Rs} (HS : SF_tie N RR) (k j : Nat) (h : Hp) (hk : k < 64) (hj : j + 5 ≤ L) (hR : RR k h) (kk : ∀ h2, RR (k + 1) h2 → PW w x 961 [some (.ref b), some (.ref (w.2.1 0)), some (.ref (w.2.1 22)), some (.int (nI j))] [] h2 X) : PW w x 358 [some (.ref b), some (.ref (w.2.1 0)), some (.ref (w.2.1 22)), some (.int (nI j))] [] h X := by
  obtain ⟨v, h1, h2, e4, e5, hR2⟩ := HS k h hk hR (f (nI j + 1).toNatClampNeg) (f (nI j + 2).toNatClampNeg)
  have ce4 := c_X4_tie (l := xl x) (w := w) (A := xA x) N h (f (nI j + 1).toNatClampNeg) (f (nI j + 2).toNatClampNeg) hL
  rw [e4] at ce4
  have ce5 := c_X5_tie (l := xl x) (w := w) (A := xA x) N h1 (f (nI j + 1).toNatClampNeg) (f (nI j + 2).toNatClampNeg) hM
  rw [e5] at ce5
  refine pw_aload_n C dL_law_358 rfl rfl ?_
  refine pw_aload_n C dL_law_359 rfl rfl ?_
  refine pw_iload_n C dL_law_360 rfl rfl ?_
  refine pw_iconst (v := 1) C dL_law_361 (by decide) ?_
  refine pw_iadd C dL_law_362 ?_
  refine pw_sld C hX hbl hbA (vp_inA (k := 1) (by omega) hL3) dL_law_363 ?_
  refine pw_aload_n C dL_law_364 rfl rfl ?_
  refine pw_iload_n C dL_law_365 rfl rfl ?_
  refine pw_iconst (v := 2) C dL_law_366 (by decide) ?_
  refine pw_iadd C dL_law_367 ?_
  refine pw_sld C hX hbl hbA (vp_inA (k := 2) (by omega) hL3) dL_law_368 ?_
  refine pw_callVe (as := [.int (f (nI j + 1).toNatClampNeg), .int (f (nI j + 2).toNatClampNeg)]) (rest := []) C dL_law_369 ml_L_48 cw_X4_tie im_X4_tie sl_X4_tie (hL 0 _ rfl) rfl ⟨by decide, by decide⟩ ce4 rfl rfl (Nat.le_of_ble_eq_true rfl) ?_
  refine pw_aload_n C dL_law_372 rfl rfl ?_
  refine pw_aload_n C dL_law_373 rfl rfl ?_
  refine pw_iload_n C dL_law_374 rfl rfl ?_
  refine pw_iconst (v := 1) C dL_law_375 (by decide) ?_
  refine pw_iadd C dL_law_376 ?_
  refine pw_sld C hX hbl hbA (vp_inA (k := 1) (by omega) hL3) dL_law_377 ?_
  refine pw_aload_n C dL_law_378 rfl rfl ?_
  refine pw_iload_n C dL_law_379 rfl rfl ?_
  refine pw_iconst (v := 2) C dL_law_380 (by decide) ?_
  refine pw_iadd C dL_law_381 ?_
  refine pw_sld C hX hbl hbA (vp_inA (k := 2) (by omega) hL3) dL_law_382 ?_
  refine pw_callVe (as := [.int (f (nI j + 1).toNatClampNeg), .int (f (nI j + 2).toNatClampNeg)]) (rest := [.int v]) C dL_law_383 ml_L_51 cw_X5_tie im_X5_tie sl_X5_tie (hM 22 _ rfl (by decide)) rfl ⟨by decide, by decide⟩ ce5 rfl rfl (Nat.le_of_ble_eq_true rfl) ?_
  refine PW.eq (Y := if v = v then X else none) (by rw [if_pos rfl]) ?_
  exact pw_icmp_eq (tgt := 961) C dL_law_386 (by decide) (fun _ => kk h2 hR2) (fun c => absurd rfl c)
set_option maxRecDepth 100000 in
set_option maxHeartbeats 4000000 in
theorem lawc_more {w : Wd} {x : Cz} {b L : Nat} {f : Nat → Int32} (hL : LX w) (hM : LM w) (C : Ok w x cL_law RL 1000) (hN4 : xN x = 4) (hX : va_X b L f (xs x) (xs x).heap) (hbl : b < (xs x).heap.size) (hbA : ¬ xA x b) (hL3 : L ≤ 320) {N : Nat} {RR : Nat → Hp → Prop} {X : Option Rs} (HS : SF_more N RR) (k j : Nat) (h : Hp) (hk : k < 64) (hj : j + 5 ≤ L) (hR : RR k h) (kk : ∀ h2, RR (k + 1) h2 → PW w x 961 [some (.ref b), some (.ref (w.2.1 0)), some (.ref (w.2.1 22)), some (.int (nI j))] [] h2 X) : PW w x 391 [some (.ref b), some (.ref (w.2.1 0)), some (.ref (w.2.1 22)), some (.int (nI j))] [] h X := by
  obtain ⟨v, h1, h2, e4, e5, hR2⟩ := HS k h hk hR (f (nI j + 1).toNatClampNeg) (f (nI j + 2).toNatClampNeg)
  have ce4 := c_X4_more (l := xl x) (w := w) (A := xA x) N h (f (nI j + 1).toNatClampNeg) (f (nI j + 2).toNatClampNeg) hL
  rw [e4] at ce4
  have ce5 := c_X5_more (l := xl x) (w := w) (A := xA x) N h1 (f (nI j + 1).toNatClampNeg) (f (nI j + 2).toNatClampNeg) hM
  rw [e5] at ce5
  refine pw_aload_n C dL_law_391 rfl rfl ?_
  refine pw_aload_n C dL_law_392 rfl rfl ?_
  refine pw_iload_n C dL_law_393 rfl rfl ?_
  refine pw_iconst (v := 1) C dL_law_394 (by decide) ?_
  refine pw_iadd C dL_law_395 ?_
  refine pw_sld C hX hbl hbA (vp_inA (k := 1) (by omega) hL3) dL_law_396 ?_
  refine pw_aload_n C dL_law_397 rfl rfl ?_
  refine pw_iload_n C dL_law_398 rfl rfl ?_
  refine pw_iconst (v := 2) C dL_law_399 (by decide) ?_
  refine pw_iadd C dL_law_400 ?_
  refine pw_sld C hX hbl hbA (vp_inA (k := 2) (by omega) hL3) dL_law_401 ?_
  refine pw_callVe (as := [.int (f (nI j + 1).toNatClampNeg), .int (f (nI j + 2).toNatClampNeg)]) (rest := []) C dL_law_402 ml_L_52 cw_X4_more im_X4_more sl_X4_more (hL 0 _ rfl) rfl ⟨by decide, by decide⟩ ce4 rfl rfl (Nat.le_of_ble_eq_true rfl) ?_
  refine pw_aload_n C dL_law_405 rfl rfl ?_
  refine pw_aload_n C dL_law_406 rfl rfl ?_
  refine pw_iload_n C dL_law_407 rfl rfl ?_
  refine pw_iconst (v := 1) C dL_law_408 (by decide) ?_
  refine pw_iadd C dL_law_409 ?_
  refine pw_sld C hX hbl hbA (vp_inA (k := 1) (by omega) hL3) dL_law_410 ?_
  refine pw_aload_n C dL_law_411 rfl rfl ?_
  refine pw_iload_n C dL_law_412 rfl rfl ?_
  refine pw_iconst (v := 2) C dL_law_413 (by decide) ?_
  refine pw_iadd C dL_law_414 ?_
  refine pw_sld C hX hbl hbA (vp_inA (k := 2) (by omega) hL3) dL_law_415 ?_
  refine pw_callVe (as := [.int (f (nI j + 1).toNatClampNeg), .int (f (nI j + 2).toNatClampNeg)]) (rest := [.int v]) C dL_law_416 ml_L_55 cw_X5_more im_X5_more sl_X5_more (hM 22 _ rfl (by decide)) rfl ⟨by decide, by decide⟩ ce5 rfl rfl (Nat.le_of_ble_eq_true rfl) ?_
  refine PW.eq (Y := if v = v then X else none) (by rw [if_pos rfl]) ?_
  exact pw_icmp_eq (tgt := 961) C dL_law_419 (by decide) (fun _ => kk h2 hR2) (fun c => absurd rfl c)
set_option maxRecDepth 100000 in
set_option maxHeartbeats 4000000 in
theorem lawc_knot {w : Wd} {x : Cz} {b L : Nat} {f : Nat → Int32} (hL : LX w) (hM : LM w) (C : Ok w x cL_law RL 1000) (hN4 : xN x = 4) (hX : va_X b L f (xs x) (xs x).heap) (hbl : b < (xs x).heap.size) (hbA : ¬ xA x b) (hL3 : L ≤ 320) {N : Nat} {RR : Nat → Hp → Prop} {X : Option Rs} (HS : SF_knot N RR) (k j : Nat) (h : Hp) (hk : k < 64) (hj : j + 5 ≤ L) (hR : RR k h) (kk : ∀ h2, RR (k + 1) h2 → PW w x 961 [some (.ref b), some (.ref (w.2.1 0)), some (.ref (w.2.1 22)), some (.int (nI j))] [] h2 X) : PW w x 424 [some (.ref b), some (.ref (w.2.1 0)), some (.ref (w.2.1 22)), some (.int (nI j))] [] h X := by
  obtain ⟨v, h1, h2, e4, e5, hR2⟩ := HS k h hk hR (f (nI j + 1).toNatClampNeg) (f (nI j + 2).toNatClampNeg) (f (nI j + 3).toNatClampNeg) (f (nI j + 4).toNatClampNeg)
  have ce4 := c_X4_knot (l := xl x) (w := w) (A := xA x) N h (f (nI j + 1).toNatClampNeg) (f (nI j + 2).toNatClampNeg) (f (nI j + 3).toNatClampNeg) (f (nI j + 4).toNatClampNeg) hL
  rw [e4] at ce4
  have ce5 := c_X5_knot (l := xl x) (w := w) (A := xA x) N h1 (f (nI j + 1).toNatClampNeg) (f (nI j + 2).toNatClampNeg) (f (nI j + 3).toNatClampNeg) (f (nI j + 4).toNatClampNeg) hM
  rw [e5] at ce5
  refine pw_aload_n C dL_law_424 rfl rfl ?_
  refine pw_aload_n C dL_law_425 rfl rfl ?_
  refine pw_iload_n C dL_law_426 rfl rfl ?_
  refine pw_iconst (v := 1) C dL_law_427 (by decide) ?_
  refine pw_iadd C dL_law_428 ?_
  refine pw_sld C hX hbl hbA (vp_inA (k := 1) (by omega) hL3) dL_law_429 ?_
  refine pw_aload_n C dL_law_430 rfl rfl ?_
  refine pw_iload_n C dL_law_431 rfl rfl ?_
  refine pw_iconst (v := 2) C dL_law_432 (by decide) ?_
  refine pw_iadd C dL_law_433 ?_
  refine pw_sld C hX hbl hbA (vp_inA (k := 2) (by omega) hL3) dL_law_434 ?_
  refine pw_aload_n C dL_law_435 rfl rfl ?_
  refine pw_iload_n C dL_law_436 rfl rfl ?_
  refine pw_iconst (v := 3) C dL_law_437 (by decide) ?_
  refine pw_iadd C dL_law_438 ?_
  refine pw_sld C hX hbl hbA (vp_inA (k := 3) (by omega) hL3) dL_law_439 ?_
  refine pw_aload_n C dL_law_440 rfl rfl ?_
  refine pw_iload_n C dL_law_441 rfl rfl ?_
  refine pw_iconst (v := 4) C dL_law_442 (by decide) ?_
  refine pw_iadd C dL_law_443 ?_
  refine pw_sld C hX hbl hbA (vp_inA (k := 4) (by omega) hL3) dL_law_444 ?_
  refine pw_callVe (as := [.int (f (nI j + 1).toNatClampNeg), .int (f (nI j + 2).toNatClampNeg), .int (f (nI j + 3).toNatClampNeg), .int (f (nI j + 4).toNatClampNeg)]) (rest := []) C dL_law_445 ml_L_56 cw_X4_knot im_X4_knot sl_X4_knot (hL 0 _ rfl) rfl ⟨by decide, by decide⟩ ce4 rfl rfl (Nat.le_of_ble_eq_true rfl) ?_
  refine pw_aload_n C dL_law_448 rfl rfl ?_
  refine pw_aload_n C dL_law_449 rfl rfl ?_
  refine pw_iload_n C dL_law_450 rfl rfl ?_
  refine pw_iconst (v := 1) C dL_law_451 (by decide) ?_
  refine pw_iadd C dL_law_452 ?_
  refine pw_sld C hX hbl hbA (vp_inA (k := 1) (by omega) hL3) dL_law_453 ?_
  refine pw_aload_n C dL_law_454 rfl rfl ?_
  refine pw_iload_n C dL_law_455 rfl rfl ?_
  refine pw_iconst (v := 2) C dL_law_456 (by decide) ?_
  refine pw_iadd C dL_law_457 ?_
  refine pw_sld C hX hbl hbA (vp_inA (k := 2) (by omega) hL3) dL_law_458 ?_
  refine pw_aload_n C dL_law_459 rfl rfl ?_
  refine pw_iload_n C dL_law_460 rfl rfl ?_
  refine pw_iconst (v := 3) C dL_law_461 (by decide) ?_
  refine pw_iadd C dL_law_462 ?_
  refine pw_sld C hX hbl hbA (vp_inA (k := 3) (by omega) hL3) dL_law_463 ?_
  refine pw_aload_n C dL_law_464 rfl rfl ?_
  refine pw_iload_n C dL_law_465 rfl rfl ?_
  refine pw_iconst (v := 4) C dL_law_466 (by decide) ?_
  refine pw_iadd C dL_law_467 ?_
  refine pw_sld C hX hbl hbA (vp_inA (k := 4) (by omega) hL3) dL_law_468 ?_
  refine pw_callVe (as := [.int (f (nI j + 1).toNatClampNeg), .int (f (nI j + 2).toNatClampNeg), .int (f (nI j + 3).toNatClampNeg), .int (f (nI j + 4).toNatClampNeg)]) (rest := [.int v]) C dL_law_469 ml_L_60 cw_X5_knot im_X5_knot sl_X5_knot (hM 22 _ rfl (by decide)) rfl ⟨by decide, by decide⟩ ce5 rfl rfl (Nat.le_of_ble_eq_true rfl) ?_
  refine PW.eq (Y := if v = v then X else none) (by rw [if_pos rfl]) ?_
  exact pw_icmp_eq (tgt := 961) C dL_law_472 (by decide) (fun _ => kk h2 hR2) (fun c => absurd rfl c)
set_option maxRecDepth 100000 in
set_option maxHeartbeats 4000000 in
theorem lawc_dye {w : Wd} {x : Cz} {b L : Nat} {f : Nat → Int32} (hL : LX w) (hM : LM w) (C : Ok w x cL_law RL 1000) (hN4 : xN x = 4) (hX : va_X b L f (xs x) (xs x).heap) (hbl : b < (xs x).heap.size) (hbA : ¬ xA x b) (hL3 : L ≤ 320) {N : Nat} {RR : Nat → Hp → Prop} {X : Option Rs} (HS : SF_dye N RR) (k j : Nat) (h : Hp) (hk : k < 64) (hj : j + 5 ≤ L) (hR : RR k h) (kk : ∀ h2, RR (k + 1) h2 → PW w x 961 [some (.ref b), some (.ref (w.2.1 0)), some (.ref (w.2.1 22)), some (.int (nI j))] [] h2 X) : PW w x 477 [some (.ref b), some (.ref (w.2.1 0)), some (.ref (w.2.1 22)), some (.int (nI j))] [] h X := by
  obtain ⟨v, h1, h2, e4, e5, hR2⟩ := HS k h hk hR (f (nI j + 1).toNatClampNeg) (f (nI j + 2).toNatClampNeg)
  have ce4 := c_X4_dye (l := xl x) (w := w) (A := xA x) N h (f (nI j + 1).toNatClampNeg) (f (nI j + 2).toNatClampNeg) hL
  rw [e4] at ce4
  have ce5 := c_X5_dye (l := xl x) (w := w) (A := xA x) N h1 (f (nI j + 1).toNatClampNeg) (f (nI j + 2).toNatClampNeg) hM
  rw [e5] at ce5
  refine pw_aload_n C dL_law_477 rfl rfl ?_
  refine pw_aload_n C dL_law_478 rfl rfl ?_
  refine pw_iload_n C dL_law_479 rfl rfl ?_
  refine pw_iconst (v := 1) C dL_law_480 (by decide) ?_
  refine pw_iadd C dL_law_481 ?_
  refine pw_sld C hX hbl hbA (vp_inA (k := 1) (by omega) hL3) dL_law_482 ?_
  refine pw_aload_n C dL_law_483 rfl rfl ?_
  refine pw_iload_n C dL_law_484 rfl rfl ?_
  refine pw_iconst (v := 2) C dL_law_485 (by decide) ?_
  refine pw_iadd C dL_law_486 ?_
  refine pw_sld C hX hbl hbA (vp_inA (k := 2) (by omega) hL3) dL_law_487 ?_
  refine pw_callVe (as := [.int (f (nI j + 1).toNatClampNeg), .int (f (nI j + 2).toNatClampNeg)]) (rest := []) C dL_law_488 ml_L_61 cw_X4_dye im_X4_dye sl_X4_dye (hL 0 _ rfl) rfl ⟨by decide, by decide⟩ ce4 rfl rfl (Nat.le_of_ble_eq_true rfl) ?_
  refine pw_aload_n C dL_law_491 rfl rfl ?_
  refine pw_aload_n C dL_law_492 rfl rfl ?_
  refine pw_iload_n C dL_law_493 rfl rfl ?_
  refine pw_iconst (v := 1) C dL_law_494 (by decide) ?_
  refine pw_iadd C dL_law_495 ?_
  refine pw_sld C hX hbl hbA (vp_inA (k := 1) (by omega) hL3) dL_law_496 ?_
  refine pw_aload_n C dL_law_497 rfl rfl ?_
  refine pw_iload_n C dL_law_498 rfl rfl ?_
  refine pw_iconst (v := 2) C dL_law_499 (by decide) ?_
  refine pw_iadd C dL_law_500 ?_
  refine pw_sld C hX hbl hbA (vp_inA (k := 2) (by omega) hL3) dL_law_501 ?_
  refine pw_callVe (as := [.int (f (nI j + 1).toNatClampNeg), .int (f (nI j + 2).toNatClampNeg)]) (rest := [.int v]) C dL_law_502 ml_L_64 cw_X5_dye im_X5_dye sl_X5_dye (hM 22 _ rfl (by decide)) rfl ⟨by decide, by decide⟩ ce5 rfl rfl (Nat.le_of_ble_eq_true rfl) ?_
  refine PW.eq (Y := if v = v then X else none) (by rw [if_pos rfl]) ?_
  exact pw_icmp_eq (tgt := 961) C dL_law_505 (by decide) (fun _ => kk h2 hR2) (fun c => absurd rfl c)
set_option maxRecDepth 100000 in
set_option maxHeartbeats 4000000 in
theorem lawc_hang {w : Wd} {x : Cz} {b L : Nat} {f : Nat → Int32} (hL : LX w) (hM : LM w) (C : Ok w x cL_law RL 1000) (hN4 : xN x = 4) (hX : va_X b L f (xs x) (xs x).heap) (hbl : b < (xs x).heap.size) (hbA : ¬ xA x b) (hL3 : L ≤ 320) {N : Nat} {RR : Nat → Hp → Prop} {X : Option Rs} (HS : SF_hang N RR) (k j : Nat) (h : Hp) (hk : k < 64) (hj : j + 5 ≤ L) (hR : RR k h) (kk : ∀ h2, RR (k + 1) h2 → PW w x 961 [some (.ref b), some (.ref (w.2.1 0)), some (.ref (w.2.1 22)), some (.int (nI j))] [] h2 X) : PW w x 510 [some (.ref b), some (.ref (w.2.1 0)), some (.ref (w.2.1 22)), some (.int (nI j))] [] h X := by
  obtain ⟨v, h1, h2, e4, e5, hR2⟩ := HS k h hk hR (f (nI j + 1).toNatClampNeg) (f (nI j + 2).toNatClampNeg)
  have ce4 := c_X4_hang (l := xl x) (w := w) (A := xA x) N h (f (nI j + 1).toNatClampNeg) (f (nI j + 2).toNatClampNeg) hL
  rw [e4] at ce4
  have ce5 := c_X5_hang (l := xl x) (w := w) (A := xA x) N h1 (f (nI j + 1).toNatClampNeg) (f (nI j + 2).toNatClampNeg) hM
  rw [e5] at ce5
  refine pw_aload_n C dL_law_510 rfl rfl ?_
  refine pw_aload_n C dL_law_511 rfl rfl ?_
  refine pw_iload_n C dL_law_512 rfl rfl ?_
  refine pw_iconst (v := 1) C dL_law_513 (by decide) ?_
  refine pw_iadd C dL_law_514 ?_
  refine pw_sld C hX hbl hbA (vp_inA (k := 1) (by omega) hL3) dL_law_515 ?_
  refine pw_aload_n C dL_law_516 rfl rfl ?_
  refine pw_iload_n C dL_law_517 rfl rfl ?_
  refine pw_iconst (v := 2) C dL_law_518 (by decide) ?_
  refine pw_iadd C dL_law_519 ?_
  refine pw_sld C hX hbl hbA (vp_inA (k := 2) (by omega) hL3) dL_law_520 ?_
  refine pw_callVe (as := [.int (f (nI j + 1).toNatClampNeg), .int (f (nI j + 2).toNatClampNeg)]) (rest := []) C dL_law_521 ml_L_65 cw_X4_hang im_X4_hang sl_X4_hang (hL 0 _ rfl) rfl ⟨by decide, by decide⟩ ce4 rfl rfl (Nat.le_of_ble_eq_true rfl) ?_
  refine pw_aload_n C dL_law_524 rfl rfl ?_
  refine pw_aload_n C dL_law_525 rfl rfl ?_
  refine pw_iload_n C dL_law_526 rfl rfl ?_
  refine pw_iconst (v := 1) C dL_law_527 (by decide) ?_
  refine pw_iadd C dL_law_528 ?_
  refine pw_sld C hX hbl hbA (vp_inA (k := 1) (by omega) hL3) dL_law_529 ?_
  refine pw_aload_n C dL_law_530 rfl rfl ?_
  refine pw_iload_n C dL_law_531 rfl rfl ?_
  refine pw_iconst (v := 2) C dL_law_532 (by decide) ?_
  refine pw_iadd C dL_law_533 ?_
  refine pw_sld C hX hbl hbA (vp_inA (k := 2) (by omega) hL3) dL_law_534 ?_
  refine pw_callVe (as := [.int (f (nI j + 1).toNatClampNeg), .int (f (nI j + 2).toNatClampNeg)]) (rest := [.int v]) C dL_law_535 ml_L_68 cw_X5_hang im_X5_hang sl_X5_hang (hM 22 _ rfl (by decide)) rfl ⟨by decide, by decide⟩ ce5 rfl rfl (Nat.le_of_ble_eq_true rfl) ?_
  refine PW.eq (Y := if v = v then X else none) (by rw [if_pos rfl]) ?_
  exact pw_icmp_eq (tgt := 961) C dL_law_538 (by decide) (fun _ => kk h2 hR2) (fun c => absurd rfl c)
set_option maxRecDepth 100000 in
set_option maxHeartbeats 4000000 in
theorem lawc_undo {w : Wd} {x : Cz} {b L : Nat} {f : Nat → Int32} (hL : LX w) (hM : LM w) (C : Ok w x cL_law RL 1000) (hN4 : xN x = 4) (hX : va_X b L f (xs x) (xs x).heap) (hbl : b < (xs x).heap.size) (hbA : ¬ xA x b) (hL3 : L ≤ 320) {N : Nat} {RR : Nat → Hp → Prop} {X : Option Rs} (HS : SF_undo N RR) (k j : Nat) (h : Hp) (hk : k < 64) (hj : j + 5 ≤ L) (hR : RR k h) (kk : ∀ h2, RR (k + 1) h2 → PW w x 961 [some (.ref b), some (.ref (w.2.1 0)), some (.ref (w.2.1 22)), some (.int (nI j))] [] h2 X) : PW w x 543 [some (.ref b), some (.ref (w.2.1 0)), some (.ref (w.2.1 22)), some (.int (nI j))] [] h X := by
  obtain ⟨v, h1, h2, e4, e5, hR2⟩ := HS k h hk hR
  have ce4 := c_X4_undo (l := xl x) (w := w) (A := xA x) h hL
  rw [e4] at ce4
  have ce5 := c_X5_undo (l := xl x) (w := w) (A := xA x) N h1 hM
  rw [e5] at ce5
  refine pw_aload_n C dL_law_543 rfl rfl ?_
  refine pw_callVe (as := []) (rest := []) C dL_law_544 ml_L_69 cw_X4_undo im_X4_undo sl_X4_undo (hL 0 _ rfl) rfl ⟨by decide, by decide⟩ ce4 rfl rfl (Nat.le_of_ble_eq_true rfl) ?_
  refine pw_aload_n C dL_law_547 rfl rfl ?_
  refine pw_callVe (as := []) (rest := [.int v]) C dL_law_548 ml_L_72 cw_X5_undo im_X5_undo sl_X5_undo (hM 22 _ rfl (by decide)) rfl ⟨by decide, by decide⟩ ce5 rfl rfl (Nat.le_of_ble_eq_true rfl) ?_
  refine PW.eq (Y := if v = v then X else none) (by rw [if_pos rfl]) ?_
  exact pw_icmp_eq (tgt := 961) C dL_law_551 (by decide) (fun _ => kk h2 hR2) (fun c => absurd rfl c)
set_option maxRecDepth 100000 in
set_option maxHeartbeats 4000000 in
theorem lawc_wrong {w : Wd} {x : Cz} {b L : Nat} {f : Nat → Int32} (hL : LX w) (hM : LM w) (C : Ok w x cL_law RL 1000) (hN4 : xN x = 4) (hX : va_X b L f (xs x) (xs x).heap) (hbl : b < (xs x).heap.size) (hbA : ¬ xA x b) (hL3 : L ≤ 320) {N : Nat} {RR : Nat → Hp → Prop} {X : Option Rs} (HS : SF_wrong N RR) (k j : Nat) (h : Hp) (hk : k < 64) (hj : j + 5 ≤ L) (hR : RR k h) (kk : ∀ h2, RR (k + 1) h2 → PW w x 961 [some (.ref b), some (.ref (w.2.1 0)), some (.ref (w.2.1 22)), some (.int (nI j))] [] h2 X) : PW w x 556 [some (.ref b), some (.ref (w.2.1 0)), some (.ref (w.2.1 22)), some (.int (nI j))] [] h X := by
  obtain ⟨v, h1, h2, e4, e5, hR2⟩ := HS k h hk hR (f (nI j + 1).toNatClampNeg)
  have ce4 := c_X4_wrong (l := xl x) (w := w) (A := xA x) N h (f (nI j + 1).toNatClampNeg) hL
  rw [e4] at ce4
  have ce5 := c_X5_wrong (l := xl x) (w := w) (A := xA x) N h1 (f (nI j + 1).toNatClampNeg) hM
  rw [e5] at ce5
  refine pw_aload_n C dL_law_556 rfl rfl ?_
  refine pw_aload_n C dL_law_557 rfl rfl ?_
  refine pw_iload_n C dL_law_558 rfl rfl ?_
  refine pw_iconst (v := 1) C dL_law_559 (by decide) ?_
  refine pw_iadd C dL_law_560 ?_
  refine pw_sld C hX hbl hbA (vp_inA (k := 1) (by omega) hL3) dL_law_561 ?_
  refine pw_callVe (as := [.int (f (nI j + 1).toNatClampNeg)]) (rest := []) C dL_law_562 ml_L_73 cw_X4_wrong im_X4_wrong sl_X4_wrong (hL 0 _ rfl) rfl ⟨by decide, by decide⟩ ce4 rfl rfl (Nat.le_of_ble_eq_true rfl) ?_
  refine pw_aload_n C dL_law_565 rfl rfl ?_
  refine pw_aload_n C dL_law_566 rfl rfl ?_
  refine pw_iload_n C dL_law_567 rfl rfl ?_
  refine pw_iconst (v := 1) C dL_law_568 (by decide) ?_
  refine pw_iadd C dL_law_569 ?_
  refine pw_sld C hX hbl hbA (vp_inA (k := 1) (by omega) hL3) dL_law_570 ?_
  refine pw_callVe (as := [.int (f (nI j + 1).toNatClampNeg)]) (rest := [.int v]) C dL_law_571 ml_L_76 cw_X5_wrong im_X5_wrong sl_X5_wrong (hM 22 _ rfl (by decide)) rfl ⟨by decide, by decide⟩ ce5 rfl rfl (Nat.le_of_ble_eq_true rfl) ?_
  refine PW.eq (Y := if v = v then X else none) (by rw [if_pos rfl]) ?_
  exact pw_icmp_eq (tgt := 961) C dL_law_574 (by decide) (fun _ => kk h2 hR2) (fun c => absurd rfl c)
set_option maxRecDepth 100000 in
set_option maxHeartbeats 4000000 in
theorem lawc_mend {w : Wd} {x : Cz} {b L : Nat} {f : Nat → Int32} (hL : LX w) (hM : LM w) (C : Ok w x cL_law RL 1000) (hN4 : xN x = 4) (hX : va_X b L f (xs x) (xs x).heap) (hbl : b < (xs x).heap.size) (hbA : ¬ xA x b) (hL3 : L ≤ 320) {N : Nat} {RR : Nat → Hp → Prop} {X : Option Rs} (HS : SF_mend N RR) (k j : Nat) (h : Hp) (hk : k < 64) (hj : j + 5 ≤ L) (hR : RR k h) (kk : ∀ h2, RR (k + 1) h2 → PW w x 961 [some (.ref b), some (.ref (w.2.1 0)), some (.ref (w.2.1 22)), some (.int (nI j))] [] h2 X) : PW w x 579 [some (.ref b), some (.ref (w.2.1 0)), some (.ref (w.2.1 22)), some (.int (nI j))] [] h X := by
  obtain ⟨v, h1, h2, e4, e5, hR2⟩ := HS k h hk hR (f (nI j + 1).toNatClampNeg)
  have ce4 := c_X4_mend (l := xl x) (w := w) (A := xA x) N h (f (nI j + 1).toNatClampNeg) hL
  rw [e4] at ce4
  have ce5 := c_X5_mend (l := xl x) (w := w) (A := xA x) N h1 (f (nI j + 1).toNatClampNeg) hM
  rw [e5] at ce5
  refine pw_aload_n C dL_law_579 rfl rfl ?_
  refine pw_aload_n C dL_law_580 rfl rfl ?_
  refine pw_iload_n C dL_law_581 rfl rfl ?_
  refine pw_iconst (v := 1) C dL_law_582 (by decide) ?_
  refine pw_iadd C dL_law_583 ?_
  refine pw_sld C hX hbl hbA (vp_inA (k := 1) (by omega) hL3) dL_law_584 ?_
  refine pw_callVe (as := [.int (f (nI j + 1).toNatClampNeg)]) (rest := []) C dL_law_585 ml_L_77 cw_X4_mend im_X4_mend sl_X4_mend (hL 0 _ rfl) rfl ⟨by decide, by decide⟩ ce4 rfl rfl (Nat.le_of_ble_eq_true rfl) ?_
  refine pw_aload_n C dL_law_588 rfl rfl ?_
  refine pw_aload_n C dL_law_589 rfl rfl ?_
  refine pw_iload_n C dL_law_590 rfl rfl ?_
  refine pw_iconst (v := 1) C dL_law_591 (by decide) ?_
  refine pw_iadd C dL_law_592 ?_
  refine pw_sld C hX hbl hbA (vp_inA (k := 1) (by omega) hL3) dL_law_593 ?_
  refine pw_callVe (as := [.int (f (nI j + 1).toNatClampNeg)]) (rest := [.int v]) C dL_law_594 ml_L_80 cw_X5_mend im_X5_mend sl_X5_mend (hM 22 _ rfl (by decide)) rfl ⟨by decide, by decide⟩ ce5 rfl rfl (Nat.le_of_ble_eq_true rfl) ?_
  refine PW.eq (Y := if v = v then X else none) (by rw [if_pos rfl]) ?_
  exact pw_icmp_eq (tgt := 961) C dL_law_597 (by decide) (fun _ => kk h2 hR2) (fun c => absurd rfl c)
set_option maxRecDepth 100000 in
set_option maxHeartbeats 4000000 in
theorem lawc_slip {w : Wd} {x : Cz} {b L : Nat} {f : Nat → Int32} (hL : LX w) (hM : LM w) (C : Ok w x cL_law RL 1000) (hN4 : xN x = 4) (hX : va_X b L f (xs x) (xs x).heap) (hbl : b < (xs x).heap.size) (hbA : ¬ xA x b) (hL3 : L ≤ 320) {N : Nat} {RR : Nat → Hp → Prop} {X : Option Rs} (HS : SF_slip N RR) (k j : Nat) (h : Hp) (hk : k < 64) (hj : j + 5 ≤ L) (hR : RR k h) (kk : ∀ h2, RR (k + 1) h2 → PW w x 961 [some (.ref b), some (.ref (w.2.1 0)), some (.ref (w.2.1 22)), some (.int (nI j))] [] h2 X) : PW w x 602 [some (.ref b), some (.ref (w.2.1 0)), some (.ref (w.2.1 22)), some (.int (nI j))] [] h X := by
  obtain ⟨v, h1, h2, e4, e5, hR2⟩ := HS k h hk hR (f (nI j + 1).toNatClampNeg) (f (nI j + 2).toNatClampNeg)
  have ce4 := c_X4_slip (l := xl x) (w := w) (A := xA x) N h (f (nI j + 1).toNatClampNeg) (f (nI j + 2).toNatClampNeg) hL
  rw [e4] at ce4
  have ce5 := c_X5_slip (l := xl x) (w := w) (A := xA x) N h1 (f (nI j + 1).toNatClampNeg) (f (nI j + 2).toNatClampNeg) hM
  rw [e5] at ce5
  refine pw_aload_n C dL_law_602 rfl rfl ?_
  refine pw_aload_n C dL_law_603 rfl rfl ?_
  refine pw_iload_n C dL_law_604 rfl rfl ?_
  refine pw_iconst (v := 1) C dL_law_605 (by decide) ?_
  refine pw_iadd C dL_law_606 ?_
  refine pw_sld C hX hbl hbA (vp_inA (k := 1) (by omega) hL3) dL_law_607 ?_
  refine pw_aload_n C dL_law_608 rfl rfl ?_
  refine pw_iload_n C dL_law_609 rfl rfl ?_
  refine pw_iconst (v := 2) C dL_law_610 (by decide) ?_
  refine pw_iadd C dL_law_611 ?_
  refine pw_sld C hX hbl hbA (vp_inA (k := 2) (by omega) hL3) dL_law_612 ?_
  refine pw_callVe (as := [.int (f (nI j + 1).toNatClampNeg), .int (f (nI j + 2).toNatClampNeg)]) (rest := []) C dL_law_613 ml_L_81 cw_X4_slip im_X4_slip sl_X4_slip (hL 0 _ rfl) rfl ⟨by decide, by decide⟩ ce4 rfl rfl (Nat.le_of_ble_eq_true rfl) ?_
  refine pw_aload_n C dL_law_616 rfl rfl ?_
  refine pw_aload_n C dL_law_617 rfl rfl ?_
  refine pw_iload_n C dL_law_618 rfl rfl ?_
  refine pw_iconst (v := 1) C dL_law_619 (by decide) ?_
  refine pw_iadd C dL_law_620 ?_
  refine pw_sld C hX hbl hbA (vp_inA (k := 1) (by omega) hL3) dL_law_621 ?_
  refine pw_aload_n C dL_law_622 rfl rfl ?_
  refine pw_iload_n C dL_law_623 rfl rfl ?_
  refine pw_iconst (v := 2) C dL_law_624 (by decide) ?_
  refine pw_iadd C dL_law_625 ?_
  refine pw_sld C hX hbl hbA (vp_inA (k := 2) (by omega) hL3) dL_law_626 ?_
  refine pw_callVe (as := [.int (f (nI j + 1).toNatClampNeg), .int (f (nI j + 2).toNatClampNeg)]) (rest := [.int v]) C dL_law_627 ml_L_84 cw_X5_slip im_X5_slip sl_X5_slip (hM 22 _ rfl (by decide)) rfl ⟨by decide, by decide⟩ ce5 rfl rfl (Nat.le_of_ble_eq_true rfl) ?_
  refine PW.eq (Y := if v = v then X else none) (by rw [if_pos rfl]) ?_
  exact pw_icmp_eq (tgt := 961) C dL_law_630 (by decide) (fun _ => kk h2 hR2) (fun c => absurd rfl c)
set_option maxRecDepth 100000 in
set_option maxHeartbeats 4000000 in
theorem lawc_lost {w : Wd} {x : Cz} {b L : Nat} {f : Nat → Int32} (hL : LX w) (hM : LM w) (C : Ok w x cL_law RL 1000) (hN4 : xN x = 4) (hX : va_X b L f (xs x) (xs x).heap) (hbl : b < (xs x).heap.size) (hbA : ¬ xA x b) (hL3 : L ≤ 320) {N : Nat} {RR : Nat → Hp → Prop} {X : Option Rs} (HS : SF_lost N RR) (k j : Nat) (h : Hp) (hk : k < 64) (hj : j + 5 ≤ L) (hR : RR k h) (kk : ∀ h2, RR (k + 1) h2 → PW w x 961 [some (.ref b), some (.ref (w.2.1 0)), some (.ref (w.2.1 22)), some (.int (nI j))] [] h2 X) : PW w x 635 [some (.ref b), some (.ref (w.2.1 0)), some (.ref (w.2.1 22)), some (.int (nI j))] [] h X := by
  obtain ⟨v, h1, h2, e4, e5, hR2⟩ := HS k h hk hR (f (nI j + 1).toNatClampNeg)
  have ce4 := c_X4_lost (l := xl x) (w := w) (A := xA x) N h (f (nI j + 1).toNatClampNeg) hL
  rw [e4] at ce4
  have ce5 := c_X5_lost (l := xl x) (w := w) (A := xA x) N h1 (f (nI j + 1).toNatClampNeg) hM
  rw [e5] at ce5
  refine pw_aload_n C dL_law_635 rfl rfl ?_
  refine pw_aload_n C dL_law_636 rfl rfl ?_
  refine pw_iload_n C dL_law_637 rfl rfl ?_
  refine pw_iconst (v := 1) C dL_law_638 (by decide) ?_
  refine pw_iadd C dL_law_639 ?_
  refine pw_sld C hX hbl hbA (vp_inA (k := 1) (by omega) hL3) dL_law_640 ?_
  refine pw_callVe (as := [.int (f (nI j + 1).toNatClampNeg)]) (rest := []) C dL_law_641 ml_L_85 cw_X4_lost im_X4_lost sl_X4_lost (hL 0 _ rfl) rfl ⟨by decide, by decide⟩ ce4 rfl rfl (Nat.le_of_ble_eq_true rfl) ?_
  refine pw_aload_n C dL_law_644 rfl rfl ?_
  refine pw_aload_n C dL_law_645 rfl rfl ?_
  refine pw_iload_n C dL_law_646 rfl rfl ?_
  refine pw_iconst (v := 1) C dL_law_647 (by decide) ?_
  refine pw_iadd C dL_law_648 ?_
  refine pw_sld C hX hbl hbA (vp_inA (k := 1) (by omega) hL3) dL_law_649 ?_
  refine pw_callVe (as := [.int (f (nI j + 1).toNatClampNeg)]) (rest := [.int v]) C dL_law_650 ml_L_88 cw_X5_lost im_X5_lost sl_X5_lost (hM 22 _ rfl (by decide)) rfl ⟨by decide, by decide⟩ ce5 rfl rfl (Nat.le_of_ble_eq_true rfl) ?_
  refine PW.eq (Y := if v = v then X else none) (by rw [if_pos rfl]) ?_
  exact pw_icmp_eq (tgt := 961) C dL_law_653 (by decide) (fun _ => kk h2 hR2) (fun c => absurd rfl c)
set_option maxRecDepth 100000 in
set_option maxHeartbeats 4000000 in
theorem lawc_closed {w : Wd} {x : Cz} {b L : Nat} {f : Nat → Int32} (hL : LX w) (hM : LM w) (C : Ok w x cL_law RL 1000) (hN4 : xN x = 4) (hX : va_X b L f (xs x) (xs x).heap) (hbl : b < (xs x).heap.size) (hbA : ¬ xA x b) (hL3 : L ≤ 320) {N : Nat} {RR : Nat → Hp → Prop} {X : Option Rs} (HS : SF_closed N RR) (k j : Nat) (h : Hp) (hk : k < 64) (hj : j + 5 ≤ L) (hR : RR k h) (kk : ∀ h2, RR (k + 1) h2 → PW w x 961 [some (.ref b), some (.ref (w.2.1 0)), some (.ref (w.2.1 22)), some (.int (nI j))] [] h2 X) : PW w x 658 [some (.ref b), some (.ref (w.2.1 0)), some (.ref (w.2.1 22)), some (.int (nI j))] [] h X := by
  obtain ⟨v, h1, h2, e4, e5, hR2⟩ := HS k h hk hR (f (nI j + 1).toNatClampNeg) (f (nI j + 2).toNatClampNeg) (f (nI j + 3).toNatClampNeg)
  have ce4 := c_X4_closed (l := xl x) (w := w) (A := xA x) N h (f (nI j + 1).toNatClampNeg) (f (nI j + 2).toNatClampNeg) (f (nI j + 3).toNatClampNeg) hL
  rw [e4] at ce4
  have ce5 := c_X5_closed (l := xl x) (w := w) (A := xA x) N h1 (f (nI j + 1).toNatClampNeg) (f (nI j + 2).toNatClampNeg) (f (nI j + 3).toNatClampNeg) hM
  rw [e5] at ce5
  refine pw_aload_n C dL_law_658 rfl rfl ?_
  refine pw_aload_n C dL_law_659 rfl rfl ?_
  refine pw_iload_n C dL_law_660 rfl rfl ?_
  refine pw_iconst (v := 1) C dL_law_661 (by decide) ?_
  refine pw_iadd C dL_law_662 ?_
  refine pw_sld C hX hbl hbA (vp_inA (k := 1) (by omega) hL3) dL_law_663 ?_
  refine pw_aload_n C dL_law_664 rfl rfl ?_
  refine pw_iload_n C dL_law_665 rfl rfl ?_
  refine pw_iconst (v := 2) C dL_law_666 (by decide) ?_
  refine pw_iadd C dL_law_667 ?_
  refine pw_sld C hX hbl hbA (vp_inA (k := 2) (by omega) hL3) dL_law_668 ?_
  refine pw_aload_n C dL_law_669 rfl rfl ?_
  refine pw_iload_n C dL_law_670 rfl rfl ?_
  refine pw_iconst (v := 3) C dL_law_671 (by decide) ?_
  refine pw_iadd C dL_law_672 ?_
  refine pw_sld C hX hbl hbA (vp_inA (k := 3) (by omega) hL3) dL_law_673 ?_
  refine pw_callVe (as := [.int (f (nI j + 1).toNatClampNeg), .int (f (nI j + 2).toNatClampNeg), .int (f (nI j + 3).toNatClampNeg)]) (rest := []) C dL_law_674 ml_L_89 cw_X4_closed im_X4_closed sl_X4_closed (hL 0 _ rfl) rfl ⟨by decide, by decide⟩ ce4 rfl rfl (Nat.le_of_ble_eq_true rfl) ?_
  refine pw_aload_n C dL_law_677 rfl rfl ?_
  refine pw_aload_n C dL_law_678 rfl rfl ?_
  refine pw_iload_n C dL_law_679 rfl rfl ?_
  refine pw_iconst (v := 1) C dL_law_680 (by decide) ?_
  refine pw_iadd C dL_law_681 ?_
  refine pw_sld C hX hbl hbA (vp_inA (k := 1) (by omega) hL3) dL_law_682 ?_
  refine pw_aload_n C dL_law_683 rfl rfl ?_
  refine pw_iload_n C dL_law_684 rfl rfl ?_
  refine pw_iconst (v := 2) C dL_law_685 (by decide) ?_
  refine pw_iadd C dL_law_686 ?_
  refine pw_sld C hX hbl hbA (vp_inA (k := 2) (by omega) hL3) dL_law_687 ?_
  refine pw_aload_n C dL_law_688 rfl rfl ?_
  refine pw_iload_n C dL_law_689 rfl rfl ?_
  refine pw_iconst (v := 3) C dL_law_690 (by decide) ?_
  refine pw_iadd C dL_law_691 ?_
  refine pw_sld C hX hbl hbA (vp_inA (k := 3) (by omega) hL3) dL_law_692 ?_
  refine pw_callVe (as := [.int (f (nI j + 1).toNatClampNeg), .int (f (nI j + 2).toNatClampNeg), .int (f (nI j + 3).toNatClampNeg)]) (rest := [.int v]) C dL_law_693 ml_L_93 cw_X5_closed im_X5_closed sl_X5_closed (hM 22 _ rfl (by decide)) rfl ⟨by decide, by decide⟩ ce5 rfl rfl (Nat.le_of_ble_eq_true rfl) ?_
  refine PW.eq (Y := if v = v then X else none) (by rw [if_pos rfl]) ?_
  exact pw_icmp_eq (tgt := 961) C dL_law_696 (by decide) (fun _ => kk h2 hR2) (fun c => absurd rfl c)
set_option maxRecDepth 100000 in
set_option maxHeartbeats 4000000 in
theorem lawc_order {w : Wd} {x : Cz} {b L : Nat} {f : Nat → Int32} (hL : LX w) (hM : LM w) (C : Ok w x cL_law RL 1000) (hN4 : xN x = 4) (hX : va_X b L f (xs x) (xs x).heap) (hbl : b < (xs x).heap.size) (hbA : ¬ xA x b) (hL3 : L ≤ 320) {N : Nat} {RR : Nat → Hp → Prop} {X : Option Rs} (HS : SF_order N RR) (k j : Nat) (h : Hp) (hk : k < 64) (hj : j + 5 ≤ L) (hR : RR k h) (kk : ∀ h2, RR (k + 1) h2 → PW w x 961 [some (.ref b), some (.ref (w.2.1 0)), some (.ref (w.2.1 22)), some (.int (nI j))] [] h2 X) : PW w x 701 [some (.ref b), some (.ref (w.2.1 0)), some (.ref (w.2.1 22)), some (.int (nI j))] [] h X := by
  obtain ⟨v, h1, h2, e4, e5, hR2⟩ := HS k h hk hR (f (nI j + 1).toNatClampNeg)
  have ce4 := c_X4_order (l := xl x) (w := w) (A := xA x) N h (f (nI j + 1).toNatClampNeg) hL
  rw [e4] at ce4
  have ce5 := c_X5_order (l := xl x) (w := w) (A := xA x) N h1 (f (nI j + 1).toNatClampNeg) hM
  rw [e5] at ce5
  refine pw_aload_n C dL_law_701 rfl rfl ?_
  refine pw_aload_n C dL_law_702 rfl rfl ?_
  refine pw_iload_n C dL_law_703 rfl rfl ?_
  refine pw_iconst (v := 1) C dL_law_704 (by decide) ?_
  refine pw_iadd C dL_law_705 ?_
  refine pw_sld C hX hbl hbA (vp_inA (k := 1) (by omega) hL3) dL_law_706 ?_
  refine pw_callVe (as := [.int (f (nI j + 1).toNatClampNeg)]) (rest := []) C dL_law_707 ml_L_94 cw_X4_order im_X4_order sl_X4_order (hL 0 _ rfl) rfl ⟨by decide, by decide⟩ ce4 rfl rfl (Nat.le_of_ble_eq_true rfl) ?_
  refine pw_aload_n C dL_law_710 rfl rfl ?_
  refine pw_aload_n C dL_law_711 rfl rfl ?_
  refine pw_iload_n C dL_law_712 rfl rfl ?_
  refine pw_iconst (v := 1) C dL_law_713 (by decide) ?_
  refine pw_iadd C dL_law_714 ?_
  refine pw_sld C hX hbl hbA (vp_inA (k := 1) (by omega) hL3) dL_law_715 ?_
  refine pw_callVe (as := [.int (f (nI j + 1).toNatClampNeg)]) (rest := [.int v]) C dL_law_716 ml_L_97 cw_X5_order im_X5_order sl_X5_order (hM 22 _ rfl (by decide)) rfl ⟨by decide, by decide⟩ ce5 rfl rfl (Nat.le_of_ble_eq_true rfl) ?_
  refine PW.eq (Y := if v = v then X else none) (by rw [if_pos rfl]) ?_
  exact pw_icmp_eq (tgt := 961) C dL_law_719 (by decide) (fun _ => kk h2 hR2) (fun c => absurd rfl c)
set_option maxRecDepth 100000 in
set_option maxHeartbeats 4000000 in
theorem lawc_share {w : Wd} {x : Cz} {b L : Nat} {f : Nat → Int32} (hL : LX w) (hM : LM w) (C : Ok w x cL_law RL 1000) (hN4 : xN x = 4) (hX : va_X b L f (xs x) (xs x).heap) (hbl : b < (xs x).heap.size) (hbA : ¬ xA x b) (hL3 : L ≤ 320) {N : Nat} {RR : Nat → Hp → Prop} {X : Option Rs} (HS : SF_share N RR) (k j : Nat) (h : Hp) (hk : k < 64) (hj : j + 5 ≤ L) (hR : RR k h) (kk : ∀ h2, RR (k + 1) h2 → PW w x 961 [some (.ref b), some (.ref (w.2.1 0)), some (.ref (w.2.1 22)), some (.int (nI j))] [] h2 X) : PW w x 724 [some (.ref b), some (.ref (w.2.1 0)), some (.ref (w.2.1 22)), some (.int (nI j))] [] h X := by
  obtain ⟨v, h1, h2, e4, e5, hR2⟩ := HS k h hk hR (f (nI j + 1).toNatClampNeg) (f (nI j + 2).toNatClampNeg)
  have ce4 := c_X4_share (l := xl x) (w := w) (A := xA x) N h (f (nI j + 1).toNatClampNeg) (f (nI j + 2).toNatClampNeg) hL
  rw [e4] at ce4
  have ce5 := c_X5_share (l := xl x) (w := w) (A := xA x) N h1 (f (nI j + 1).toNatClampNeg) (f (nI j + 2).toNatClampNeg) hM
  rw [e5] at ce5
  refine pw_aload_n C dL_law_724 rfl rfl ?_
  refine pw_aload_n C dL_law_725 rfl rfl ?_
  refine pw_iload_n C dL_law_726 rfl rfl ?_
  refine pw_iconst (v := 1) C dL_law_727 (by decide) ?_
  refine pw_iadd C dL_law_728 ?_
  refine pw_sld C hX hbl hbA (vp_inA (k := 1) (by omega) hL3) dL_law_729 ?_
  refine pw_aload_n C dL_law_730 rfl rfl ?_
  refine pw_iload_n C dL_law_731 rfl rfl ?_
  refine pw_iconst (v := 2) C dL_law_732 (by decide) ?_
  refine pw_iadd C dL_law_733 ?_
  refine pw_sld C hX hbl hbA (vp_inA (k := 2) (by omega) hL3) dL_law_734 ?_
  refine pw_callVe (as := [.int (f (nI j + 1).toNatClampNeg), .int (f (nI j + 2).toNatClampNeg)]) (rest := []) C dL_law_735 ml_L_98 cw_X4_share im_X4_share sl_X4_share (hL 0 _ rfl) rfl ⟨by decide, by decide⟩ ce4 rfl rfl (Nat.le_of_ble_eq_true rfl) ?_
  refine pw_aload_n C dL_law_738 rfl rfl ?_
  refine pw_aload_n C dL_law_739 rfl rfl ?_
  refine pw_iload_n C dL_law_740 rfl rfl ?_
  refine pw_iconst (v := 1) C dL_law_741 (by decide) ?_
  refine pw_iadd C dL_law_742 ?_
  refine pw_sld C hX hbl hbA (vp_inA (k := 1) (by omega) hL3) dL_law_743 ?_
  refine pw_aload_n C dL_law_744 rfl rfl ?_
  refine pw_iload_n C dL_law_745 rfl rfl ?_
  refine pw_iconst (v := 2) C dL_law_746 (by decide) ?_
  refine pw_iadd C dL_law_747 ?_
  refine pw_sld C hX hbl hbA (vp_inA (k := 2) (by omega) hL3) dL_law_748 ?_
  refine pw_callVe (as := [.int (f (nI j + 1).toNatClampNeg), .int (f (nI j + 2).toNatClampNeg)]) (rest := [.int v]) C dL_law_749 ml_L_101 cw_X5_share im_X5_share sl_X5_share (hM 22 _ rfl (by decide)) rfl ⟨by decide, by decide⟩ ce5 rfl rfl (Nat.le_of_ble_eq_true rfl) ?_
  refine PW.eq (Y := if v = v then X else none) (by rw [if_pos rfl]) ?_
  exact pw_icmp_eq (tgt := 961) C dL_law_752 (by decide) (fun _ => kk h2 hR2) (fun c => absurd rfl c)
set_option maxRecDepth 100000 in
set_option maxHeartbeats 4000000 in
theorem lawc_make {w : Wd} {x : Cz} {b L : Nat} {f : Nat → Int32} (hL : LX w) (hM : LM w) (C : Ok w x cL_law RL 1000) (hN4 : xN x = 4) (hX : va_X b L f (xs x) (xs x).heap) (hbl : b < (xs x).heap.size) (hbA : ¬ xA x b) (hL3 : L ≤ 320) {N : Nat} {RR : Nat → Hp → Prop} {X : Option Rs} (HS : SF_make N RR) (k j : Nat) (h : Hp) (hk : k < 64) (hj : j + 5 ≤ L) (hR : RR k h) (kk : ∀ h2, RR (k + 1) h2 → PW w x 961 [some (.ref b), some (.ref (w.2.1 0)), some (.ref (w.2.1 22)), some (.int (nI j))] [] h2 X) : PW w x 757 [some (.ref b), some (.ref (w.2.1 0)), some (.ref (w.2.1 22)), some (.int (nI j))] [] h X := by
  obtain ⟨v, h1, h2, e4, e5, hR2⟩ := HS k h hk hR (f (nI j + 1).toNatClampNeg)
  have ce4 := c_X4_make (l := xl x) (w := w) (A := xA x) N h (f (nI j + 1).toNatClampNeg) hL
  rw [e4] at ce4
  have ce5 := c_X5_make (l := xl x) (w := w) (A := xA x) N h1 (f (nI j + 1).toNatClampNeg) hM
  rw [e5] at ce5
  refine pw_aload_n C dL_law_757 rfl rfl ?_
  refine pw_aload_n C dL_law_758 rfl rfl ?_
  refine pw_iload_n C dL_law_759 rfl rfl ?_
  refine pw_iconst (v := 1) C dL_law_760 (by decide) ?_
  refine pw_iadd C dL_law_761 ?_
  refine pw_sld C hX hbl hbA (vp_inA (k := 1) (by omega) hL3) dL_law_762 ?_
  refine pw_callVe (as := [.int (f (nI j + 1).toNatClampNeg)]) (rest := []) C dL_law_763 ml_L_102 cw_X4_make im_X4_make sl_X4_make (hL 0 _ rfl) rfl ⟨by decide, by decide⟩ ce4 rfl rfl (Nat.le_of_ble_eq_true rfl) ?_
  refine pw_aload_n C dL_law_766 rfl rfl ?_
  refine pw_aload_n C dL_law_767 rfl rfl ?_
  refine pw_iload_n C dL_law_768 rfl rfl ?_
  refine pw_iconst (v := 1) C dL_law_769 (by decide) ?_
  refine pw_iadd C dL_law_770 ?_
  refine pw_sld C hX hbl hbA (vp_inA (k := 1) (by omega) hL3) dL_law_771 ?_
  refine pw_callVe (as := [.int (f (nI j + 1).toNatClampNeg)]) (rest := [.int v]) C dL_law_772 ml_L_105 cw_X5_make im_X5_make sl_X5_make (hM 22 _ rfl (by decide)) rfl ⟨by decide, by decide⟩ ce5 rfl rfl (Nat.le_of_ble_eq_true rfl) ?_
  refine PW.eq (Y := if v = v then X else none) (by rw [if_pos rfl]) ?_
  exact pw_icmp_eq (tgt := 961) C dL_law_775 (by decide) (fun _ => kk h2 hR2) (fun c => absurd rfl c)
set_option maxRecDepth 100000 in
set_option maxHeartbeats 4000000 in
theorem lawc_colours {w : Wd} {x : Cz} {b L : Nat} {f : Nat → Int32} (hL : LX w) (hM : LM w) (C : Ok w x cL_law RL 1000) (hN4 : xN x = 4) (hX : va_X b L f (xs x) (xs x).heap) (hbl : b < (xs x).heap.size) (hbA : ¬ xA x b) (hL3 : L ≤ 320) {N : Nat} {RR : Nat → Hp → Prop} {X : Option Rs} (HS : SF_colours N RR) (k j : Nat) (h : Hp) (hk : k < 64) (hj : j + 5 ≤ L) (hR : RR k h) (kk : ∀ h2, RR (k + 1) h2 → PW w x 961 [some (.ref b), some (.ref (w.2.1 0)), some (.ref (w.2.1 22)), some (.int (nI j))] [] h2 X) : PW w x 780 [some (.ref b), some (.ref (w.2.1 0)), some (.ref (w.2.1 22)), some (.int (nI j))] [] h X := by
  obtain ⟨v, h1, h2, e4, e5, hR2⟩ := HS k h hk hR (f (nI j + 1).toNatClampNeg) (f (nI j + 2).toNatClampNeg)
  have ce4 := c_X4_colours (l := xl x) (w := w) (A := xA x) N h (f (nI j + 1).toNatClampNeg) (f (nI j + 2).toNatClampNeg) hL
  rw [e4] at ce4
  have ce5 := c_X5_colours (l := xl x) (w := w) (A := xA x) N h1 (f (nI j + 1).toNatClampNeg) (f (nI j + 2).toNatClampNeg) hM
  rw [e5] at ce5
  refine pw_aload_n C dL_law_780 rfl rfl ?_
  refine pw_aload_n C dL_law_781 rfl rfl ?_
  refine pw_iload_n C dL_law_782 rfl rfl ?_
  refine pw_iconst (v := 1) C dL_law_783 (by decide) ?_
  refine pw_iadd C dL_law_784 ?_
  refine pw_sld C hX hbl hbA (vp_inA (k := 1) (by omega) hL3) dL_law_785 ?_
  refine pw_aload_n C dL_law_786 rfl rfl ?_
  refine pw_iload_n C dL_law_787 rfl rfl ?_
  refine pw_iconst (v := 2) C dL_law_788 (by decide) ?_
  refine pw_iadd C dL_law_789 ?_
  refine pw_sld C hX hbl hbA (vp_inA (k := 2) (by omega) hL3) dL_law_790 ?_
  refine pw_callVe (as := [.int (f (nI j + 1).toNatClampNeg), .int (f (nI j + 2).toNatClampNeg)]) (rest := []) C dL_law_791 ml_L_106 cw_X4_colours im_X4_colours sl_X4_colours (hL 0 _ rfl) rfl ⟨by decide, by decide⟩ ce4 rfl rfl (Nat.le_of_ble_eq_true rfl) ?_
  refine pw_aload_n C dL_law_794 rfl rfl ?_
  refine pw_aload_n C dL_law_795 rfl rfl ?_
  refine pw_iload_n C dL_law_796 rfl rfl ?_
  refine pw_iconst (v := 1) C dL_law_797 (by decide) ?_
  refine pw_iadd C dL_law_798 ?_
  refine pw_sld C hX hbl hbA (vp_inA (k := 1) (by omega) hL3) dL_law_799 ?_
  refine pw_aload_n C dL_law_800 rfl rfl ?_
  refine pw_iload_n C dL_law_801 rfl rfl ?_
  refine pw_iconst (v := 2) C dL_law_802 (by decide) ?_
  refine pw_iadd C dL_law_803 ?_
  refine pw_sld C hX hbl hbA (vp_inA (k := 2) (by omega) hL3) dL_law_804 ?_
  refine pw_callVe (as := [.int (f (nI j + 1).toNatClampNeg), .int (f (nI j + 2).toNatClampNeg)]) (rest := [.int v]) C dL_law_805 ml_L_109 cw_X5_colours im_X5_colours sl_X5_colours (hM 22 _ rfl (by decide)) rfl ⟨by decide, by decide⟩ ce5 rfl rfl (Nat.le_of_ble_eq_true rfl) ?_
  refine PW.eq (Y := if v = v then X else none) (by rw [if_pos rfl]) ?_
  exact pw_icmp_eq (tgt := 961) C dL_law_808 (by decide) (fun _ => kk h2 hR2) (fun c => absurd rfl c)
set_option maxRecDepth 100000 in
set_option maxHeartbeats 4000000 in
theorem lawc_path {w : Wd} {x : Cz} {b L : Nat} {f : Nat → Int32} (hL : LX w) (hM : LM w) (C : Ok w x cL_law RL 1000) (hN4 : xN x = 4) (hX : va_X b L f (xs x) (xs x).heap) (hbl : b < (xs x).heap.size) (hbA : ¬ xA x b) (hL3 : L ≤ 320) {N : Nat} {RR : Nat → Hp → Prop} {X : Option Rs} (HS : SF_path N RR) (k j : Nat) (h : Hp) (hk : k < 64) (hj : j + 5 ≤ L) (hR : RR k h) (kk : ∀ h2, RR (k + 1) h2 → PW w x 961 [some (.ref b), some (.ref (w.2.1 0)), some (.ref (w.2.1 22)), some (.int (nI j))] [] h2 X) : PW w x 813 [some (.ref b), some (.ref (w.2.1 0)), some (.ref (w.2.1 22)), some (.int (nI j))] [] h X := by
  obtain ⟨v, h1, h2, e4, e5, hR2⟩ := HS k h hk hR (f (nI j + 1).toNatClampNeg) (f (nI j + 2).toNatClampNeg)
  have ce4 := c_X4_path (l := xl x) (w := w) (A := xA x) N h (f (nI j + 1).toNatClampNeg) (f (nI j + 2).toNatClampNeg) hL
  rw [e4] at ce4
  have ce5 := c_X5_path (l := xl x) (w := w) (A := xA x) N h1 (f (nI j + 1).toNatClampNeg) (f (nI j + 2).toNatClampNeg) hM
  rw [e5] at ce5
  refine pw_aload_n C dL_law_813 rfl rfl ?_
  refine pw_aload_n C dL_law_814 rfl rfl ?_
  refine pw_iload_n C dL_law_815 rfl rfl ?_
  refine pw_iconst (v := 1) C dL_law_816 (by decide) ?_
  refine pw_iadd C dL_law_817 ?_
  refine pw_sld C hX hbl hbA (vp_inA (k := 1) (by omega) hL3) dL_law_818 ?_
  refine pw_aload_n C dL_law_819 rfl rfl ?_
  refine pw_iload_n C dL_law_820 rfl rfl ?_
  refine pw_iconst (v := 2) C dL_law_821 (by decide) ?_
  refine pw_iadd C dL_law_822 ?_
  refine pw_sld C hX hbl hbA (vp_inA (k := 2) (by omega) hL3) dL_law_823 ?_
  refine pw_callVe (as := [.int (f (nI j + 1).toNatClampNeg), .int (f (nI j + 2).toNatClampNeg)]) (rest := []) C dL_law_824 ml_L_110 cw_X4_path im_X4_path sl_X4_path (hL 0 _ rfl) rfl ⟨by decide, by decide⟩ ce4 rfl rfl (Nat.le_of_ble_eq_true rfl) ?_
  refine pw_aload_n C dL_law_827 rfl rfl ?_
  refine pw_aload_n C dL_law_828 rfl rfl ?_
  refine pw_iload_n C dL_law_829 rfl rfl ?_
  refine pw_iconst (v := 1) C dL_law_830 (by decide) ?_
  refine pw_iadd C dL_law_831 ?_
  refine pw_sld C hX hbl hbA (vp_inA (k := 1) (by omega) hL3) dL_law_832 ?_
  refine pw_aload_n C dL_law_833 rfl rfl ?_
  refine pw_iload_n C dL_law_834 rfl rfl ?_
  refine pw_iconst (v := 2) C dL_law_835 (by decide) ?_
  refine pw_iadd C dL_law_836 ?_
  refine pw_sld C hX hbl hbA (vp_inA (k := 2) (by omega) hL3) dL_law_837 ?_
  refine pw_callVe (as := [.int (f (nI j + 1).toNatClampNeg), .int (f (nI j + 2).toNatClampNeg)]) (rest := [.int v]) C dL_law_838 ml_L_113 cw_X5_path im_X5_path sl_X5_path (hM 22 _ rfl (by decide)) rfl ⟨by decide, by decide⟩ ce5 rfl rfl (Nat.le_of_ble_eq_true rfl) ?_
  refine PW.eq (Y := if v = v then X else none) (by rw [if_pos rfl]) ?_
  exact pw_icmp_eq (tgt := 961) C dL_law_841 (by decide) (fun _ => kk h2 hR2) (fun c => absurd rfl c)
set_option maxRecDepth 100000 in
set_option maxHeartbeats 4000000 in
theorem lawc_same {w : Wd} {x : Cz} {b L : Nat} {f : Nat → Int32} (hL : LX w) (hM : LM w) (C : Ok w x cL_law RL 1000) (hN4 : xN x = 4) (hX : va_X b L f (xs x) (xs x).heap) (hbl : b < (xs x).heap.size) (hbA : ¬ xA x b) (hL3 : L ≤ 320) {N : Nat} {RR : Nat → Hp → Prop} {X : Option Rs} (HS : SF_same N RR) (k j : Nat) (h : Hp) (hk : k < 64) (hj : j + 5 ≤ L) (hR : RR k h) (kk : ∀ h2, RR (k + 1) h2 → PW w x 961 [some (.ref b), some (.ref (w.2.1 0)), some (.ref (w.2.1 22)), some (.int (nI j))] [] h2 X) : PW w x 846 [some (.ref b), some (.ref (w.2.1 0)), some (.ref (w.2.1 22)), some (.int (nI j))] [] h X := by
  obtain ⟨v, h1, h2, e4, e5, hR2⟩ := HS k h hk hR (f (nI j + 1).toNatClampNeg) (f (nI j + 2).toNatClampNeg)
  have ce4 := c_X4_same (l := xl x) (w := w) (A := xA x) N h (f (nI j + 1).toNatClampNeg) (f (nI j + 2).toNatClampNeg) hL
  rw [e4] at ce4
  have ce5 := c_X5_same (l := xl x) (w := w) (A := xA x) N h1 (f (nI j + 1).toNatClampNeg) (f (nI j + 2).toNatClampNeg) hM
  rw [e5] at ce5
  refine pw_aload_n C dL_law_846 rfl rfl ?_
  refine pw_aload_n C dL_law_847 rfl rfl ?_
  refine pw_iload_n C dL_law_848 rfl rfl ?_
  refine pw_iconst (v := 1) C dL_law_849 (by decide) ?_
  refine pw_iadd C dL_law_850 ?_
  refine pw_sld C hX hbl hbA (vp_inA (k := 1) (by omega) hL3) dL_law_851 ?_
  refine pw_aload_n C dL_law_852 rfl rfl ?_
  refine pw_iload_n C dL_law_853 rfl rfl ?_
  refine pw_iconst (v := 2) C dL_law_854 (by decide) ?_
  refine pw_iadd C dL_law_855 ?_
  refine pw_sld C hX hbl hbA (vp_inA (k := 2) (by omega) hL3) dL_law_856 ?_
  refine pw_callVe (as := [.int (f (nI j + 1).toNatClampNeg), .int (f (nI j + 2).toNatClampNeg)]) (rest := []) C dL_law_857 ml_L_114 cw_X4_same im_X4_same sl_X4_same (hL 0 _ rfl) rfl ⟨by decide, by decide⟩ ce4 rfl rfl (Nat.le_of_ble_eq_true rfl) ?_
  refine pw_aload_n C dL_law_860 rfl rfl ?_
  refine pw_aload_n C dL_law_861 rfl rfl ?_
  refine pw_iload_n C dL_law_862 rfl rfl ?_
  refine pw_iconst (v := 1) C dL_law_863 (by decide) ?_
  refine pw_iadd C dL_law_864 ?_
  refine pw_sld C hX hbl hbA (vp_inA (k := 1) (by omega) hL3) dL_law_865 ?_
  refine pw_aload_n C dL_law_866 rfl rfl ?_
  refine pw_iload_n C dL_law_867 rfl rfl ?_
  refine pw_iconst (v := 2) C dL_law_868 (by decide) ?_
  refine pw_iadd C dL_law_869 ?_
  refine pw_sld C hX hbl hbA (vp_inA (k := 2) (by omega) hL3) dL_law_870 ?_
  refine pw_callVe (as := [.int (f (nI j + 1).toNatClampNeg), .int (f (nI j + 2).toNatClampNeg)]) (rest := [.int v]) C dL_law_871 ml_L_117 cw_X5_same im_X5_same sl_X5_same (hM 22 _ rfl (by decide)) rfl ⟨by decide, by decide⟩ ce5 rfl rfl (Nat.le_of_ble_eq_true rfl) ?_
  refine PW.eq (Y := if v = v then X else none) (by rw [if_pos rfl]) ?_
  exact pw_icmp_eq (tgt := 961) C dL_law_874 (by decide) (fun _ => kk h2 hR2) (fun c => absurd rfl c)
set_option maxRecDepth 100000 in
set_option maxHeartbeats 4000000 in
theorem lawc_year {w : Wd} {x : Cz} {b L : Nat} {f : Nat → Int32} (hL : LX w) (hM : LM w) (C : Ok w x cL_law RL 1000) (hN4 : xN x = 4) (hX : va_X b L f (xs x) (xs x).heap) (hbl : b < (xs x).heap.size) (hbA : ¬ xA x b) (hL3 : L ≤ 320) {N : Nat} {RR : Nat → Hp → Prop} {X : Option Rs} (HS : SF_year N RR) (k j : Nat) (h : Hp) (hk : k < 64) (hj : j + 5 ≤ L) (hR : RR k h) (kk : ∀ h2, RR (k + 1) h2 → PW w x 961 [some (.ref b), some (.ref (w.2.1 0)), some (.ref (w.2.1 22)), some (.int (nI j))] [] h2 X) : PW w x 879 [some (.ref b), some (.ref (w.2.1 0)), some (.ref (w.2.1 22)), some (.int (nI j))] [] h X := by
  obtain ⟨v, h1, h2, e4, e5, hR2⟩ := HS k h hk hR (f (nI j + 1).toNatClampNeg) (f (nI j + 2).toNatClampNeg)
  have ce4 := c_X4_year (l := xl x) (w := w) (A := xA x) N h (f (nI j + 1).toNatClampNeg) (f (nI j + 2).toNatClampNeg) hL
  rw [e4] at ce4
  have ce5 := c_X5_year (l := xl x) (w := w) (A := xA x) N h1 (f (nI j + 1).toNatClampNeg) (f (nI j + 2).toNatClampNeg) hM
  rw [e5] at ce5
  refine pw_aload_n C dL_law_879 rfl rfl ?_
  refine pw_aload_n C dL_law_880 rfl rfl ?_
  refine pw_iload_n C dL_law_881 rfl rfl ?_
  refine pw_iconst (v := 1) C dL_law_882 (by decide) ?_
  refine pw_iadd C dL_law_883 ?_
  refine pw_sld C hX hbl hbA (vp_inA (k := 1) (by omega) hL3) dL_law_884 ?_
  refine pw_aload_n C dL_law_885 rfl rfl ?_
  refine pw_iload_n C dL_law_886 rfl rfl ?_
  refine pw_iconst (v := 2) C dL_law_887 (by decide) ?_
  refine pw_iadd C dL_law_888 ?_
  refine pw_sld C hX hbl hbA (vp_inA (k := 2) (by omega) hL3) dL_law_889 ?_
  refine pw_callVe (as := [.int (f (nI j + 1).toNatClampNeg), .int (f (nI j + 2).toNatClampNeg)]) (rest := []) C dL_law_890 ml_L_118 cw_X4_year im_X4_year sl_X4_year (hL 0 _ rfl) rfl ⟨by decide, by decide⟩ ce4 rfl rfl (Nat.le_of_ble_eq_true rfl) ?_
  refine pw_aload_n C dL_law_893 rfl rfl ?_
  refine pw_aload_n C dL_law_894 rfl rfl ?_
  refine pw_iload_n C dL_law_895 rfl rfl ?_
  refine pw_iconst (v := 1) C dL_law_896 (by decide) ?_
  refine pw_iadd C dL_law_897 ?_
  refine pw_sld C hX hbl hbA (vp_inA (k := 1) (by omega) hL3) dL_law_898 ?_
  refine pw_aload_n C dL_law_899 rfl rfl ?_
  refine pw_iload_n C dL_law_900 rfl rfl ?_
  refine pw_iconst (v := 2) C dL_law_901 (by decide) ?_
  refine pw_iadd C dL_law_902 ?_
  refine pw_sld C hX hbl hbA (vp_inA (k := 2) (by omega) hL3) dL_law_903 ?_
  refine pw_callVe (as := [.int (f (nI j + 1).toNatClampNeg), .int (f (nI j + 2).toNatClampNeg)]) (rest := [.int v]) C dL_law_904 ml_L_121 cw_X5_year im_X5_year sl_X5_year (hM 22 _ rfl (by decide)) rfl ⟨by decide, by decide⟩ ce5 rfl rfl (Nat.le_of_ble_eq_true rfl) ?_
  refine PW.eq (Y := if v = v then X else none) (by rw [if_pos rfl]) ?_
  exact pw_icmp_eq (tgt := 961) C dL_law_907 (by decide) (fun _ => kk h2 hR2) (fun c => absurd rfl c)
set_option maxRecDepth 100000 in
set_option maxHeartbeats 4000000 in
theorem lawc_keep {w : Wd} {x : Cz} {b L : Nat} {f : Nat → Int32} (hL : LX w) (hM : LM w) (C : Ok w x cL_law RL 1000) (hN4 : xN x = 4) (hX : va_X b L f (xs x) (xs x).heap) (hbl : b < (xs x).heap.size) (hbA : ¬ xA x b) (hL3 : L ≤ 320) {N : Nat} {RR : Nat → Hp → Prop} {X : Option Rs} (HS : SF_keep N RR) (k j : Nat) (h : Hp) (hk : k < 64) (hj : j + 5 ≤ L) (hR : RR k h) (kk : ∀ h2, RR (k + 1) h2 → PW w x 961 [some (.ref b), some (.ref (w.2.1 0)), some (.ref (w.2.1 22)), some (.int (nI j))] [] h2 X) : PW w x 912 [some (.ref b), some (.ref (w.2.1 0)), some (.ref (w.2.1 22)), some (.int (nI j))] [] h X := by
  obtain ⟨v, h1, h2, e4, e5, hR2⟩ := HS k h hk hR
  have ce4 := c_X4_keep (l := xl x) (w := w) (A := xA x) N h hL
  rw [e4] at ce4
  have ce5 := c_X5_keep (l := xl x) (w := w) (A := xA x) N h1 hM
  rw [e5] at ce5
  refine pw_aload_n C dL_law_912 rfl rfl ?_
  refine pw_callVe (as := []) (rest := []) C dL_law_913 ml_L_122 cw_X4_keep im_X4_keep sl_X4_keep (hL 0 _ rfl) rfl ⟨by decide, by decide⟩ ce4 rfl rfl (Nat.le_of_ble_eq_true rfl) ?_
  refine pw_aload_n C dL_law_916 rfl rfl ?_
  refine pw_callVe (as := []) (rest := [.int v]) C dL_law_917 ml_L_125 cw_X5_keep im_X5_keep sl_X5_keep (hM 22 _ rfl (by decide)) rfl ⟨by decide, by decide⟩ ce5 rfl rfl (Nat.le_of_ble_eq_true rfl) ?_
  refine PW.eq (Y := if v = v then X else none) (by rw [if_pos rfl]) ?_
  exact pw_icmp_eq (tgt := 961) C dL_law_920 (by decide) (fun _ => kk h2 hR2) (fun c => absurd rfl c)
set_option maxRecDepth 100000 in
set_option maxHeartbeats 4000000 in
theorem lawc_back {w : Wd} {x : Cz} {b L : Nat} {f : Nat → Int32} (hL : LX w) (hM : LM w) (C : Ok w x cL_law RL 1000) (hN4 : xN x = 4) (hX : va_X b L f (xs x) (xs x).heap) (hbl : b < (xs x).heap.size) (hbA : ¬ xA x b) (hL3 : L ≤ 320) {N : Nat} {RR : Nat → Hp → Prop} {X : Option Rs} (HS : SF_back N RR) (k j : Nat) (h : Hp) (hk : k < 64) (hj : j + 5 ≤ L) (hR : RR k h) (kk : ∀ h2, RR (k + 1) h2 → PW w x 961 [some (.ref b), some (.ref (w.2.1 0)), some (.ref (w.2.1 22)), some (.int (nI j))] [] h2 X) : PW w x 925 [some (.ref b), some (.ref (w.2.1 0)), some (.ref (w.2.1 22)), some (.int (nI j))] [] h X := by
  obtain ⟨v, h1, h2, e4, e5, hR2⟩ := HS k h hk hR
  have ce4 := c_X4_back (l := xl x) (w := w) (A := xA x) h hL
  rw [e4] at ce4
  have ce5 := c_X5_back (l := xl x) (w := w) (A := xA x) N h1 hM
  rw [e5] at ce5
  refine pw_aload_n C dL_law_925 rfl rfl ?_
  refine pw_callVe (as := []) (rest := []) C dL_law_926 ml_L_126 cw_X4_back im_X4_back sl_X4_back (hL 0 _ rfl) rfl ⟨by decide, by decide⟩ ce4 rfl rfl (Nat.le_of_ble_eq_true rfl) ?_
  refine pw_aload_n C dL_law_929 rfl rfl ?_
  refine pw_callVe (as := []) (rest := [.int v]) C dL_law_930 ml_L_129 cw_X5_back im_X5_back sl_X5_back (hM 22 _ rfl (by decide)) rfl ⟨by decide, by decide⟩ ce5 rfl rfl (Nat.le_of_ble_eq_true rfl) ?_
  refine PW.eq (Y := if v = v then X else none) (by rw [if_pos rfl]) ?_
  exact pw_icmp_eq (tgt := 961) C dL_law_933 (by decide) (fun _ => kk h2 hR2) (fun c => absurd rfl c)
set_option maxRecDepth 100000 in
set_option maxHeartbeats 4000000 in
theorem lawc_count {w : Wd} {x : Cz} {b L : Nat} {f : Nat → Int32} (hL : LX w) (hM : LM w) (C : Ok w x cL_law RL 1000) (hN4 : xN x = 4) (hX : va_X b L f (xs x) (xs x).heap) (hbl : b < (xs x).heap.size) (hbA : ¬ xA x b) (hL3 : L ≤ 320) {N : Nat} {RR : Nat → Hp → Prop} {X : Option Rs} (HS : SF_count N RR) (k j : Nat) (h : Hp) (hk : k < 64) (hj : j + 5 ≤ L) (hR : RR k h) (kk : ∀ h2, RR (k + 1) h2 → PW w x 961 [some (.ref b), some (.ref (w.2.1 0)), some (.ref (w.2.1 22)), some (.int (nI j))] [] h2 X) : PW w x 938 [some (.ref b), some (.ref (w.2.1 0)), some (.ref (w.2.1 22)), some (.int (nI j))] [] h X := by
  obtain ⟨v, h1, h2, e4, e5, hR2⟩ := HS k h hk hR (f (nI j + 1).toNatClampNeg)
  have ce4 := c_X4_count (l := xl x) (w := w) (A := xA x) N h (f (nI j + 1).toNatClampNeg) hL
  rw [e4] at ce4
  have ce5 := c_X5_count (l := xl x) (w := w) (A := xA x) N h1 (f (nI j + 1).toNatClampNeg) hM
  rw [e5] at ce5
  refine pw_aload_n C dL_law_938 rfl rfl ?_
  refine pw_aload_n C dL_law_939 rfl rfl ?_
  refine pw_iload_n C dL_law_940 rfl rfl ?_
  refine pw_iconst (v := 1) C dL_law_941 (by decide) ?_
  refine pw_iadd C dL_law_942 ?_
  refine pw_sld C hX hbl hbA (vp_inA (k := 1) (by omega) hL3) dL_law_943 ?_
  refine pw_callVe (as := [.int (f (nI j + 1).toNatClampNeg)]) (rest := []) C dL_law_944 ml_L_130 cw_X4_count im_X4_count sl_X4_count (hL 0 _ rfl) rfl ⟨by decide, by decide⟩ ce4 rfl rfl (Nat.le_of_ble_eq_true rfl) ?_
  refine pw_aload_n C dL_law_947 rfl rfl ?_
  refine pw_aload_n C dL_law_948 rfl rfl ?_
  refine pw_iload_n C dL_law_949 rfl rfl ?_
  refine pw_iconst (v := 1) C dL_law_950 (by decide) ?_
  refine pw_iadd C dL_law_951 ?_
  refine pw_sld C hX hbl hbA (vp_inA (k := 1) (by omega) hL3) dL_law_952 ?_
  refine pw_callVe (as := [.int (f (nI j + 1).toNatClampNeg)]) (rest := [.int v]) C dL_law_953 ml_L_133 cw_X5_count im_X5_count sl_X5_count (hM 22 _ rfl (by decide)) rfl ⟨by decide, by decide⟩ ce5 rfl rfl (Nat.le_of_ble_eq_true rfl) ?_
  refine PW.eq (Y := if v = v then X else none) (by rw [if_pos rfl]) ?_
  exact pw_icmp_eq (tgt := 961) C dL_law_956 (by decide) (fun _ => kk h2 hR2) (fun c => absurd rfl c)
def SFall (N : Nat) (RR : Nat → Hp → Prop) : Prop := SF_write N RR ∧ SF_wipe N RR ∧ SF_fault N RR ∧ SF_lay N RR ∧ SF_cord N RR ∧ SF_cluster N RR ∧ SF_group N RR ∧ SF_pendant N RR ∧ SF_tie N RR ∧ SF_more N RR ∧ SF_knot N RR ∧ SF_dye N RR ∧ SF_hang N RR ∧ SF_undo N RR ∧ SF_wrong N RR ∧ SF_mend N RR ∧ SF_slip N RR ∧ SF_lost N RR ∧ SF_closed N RR ∧ SF_order N RR ∧ SF_share N RR ∧ SF_make N RR ∧ SF_colours N RR ∧ SF_path N RR ∧ SF_same N RR ∧ SF_year N RR ∧ SF_keep N RR ∧ SF_back N RR ∧ SF_count N RR
set_option maxRecDepth 100000 in
set_option maxHeartbeats 8000000 in
theorem law_loop {w : Wd} {x : Cz} {b L : Nat} {f : Nat → Int32} (hL : LX w) (hM : LM w) (C : Ok w x cL_law RL 1000) (hN4 : xN x = 4) (hX : va_X b L f (xs x) (xs x).heap) (hbl : b < (xs x).heap.size) (hbA : ¬ xA x b) (hL3 : L ≤ 320) {N : Nat} {RR : Nat → Hp → Prop} {X : Option Rs} (HS : SFall N RR) (hmono : ∀ k h, RR k h → RR (k + 1) h) (hend : ∀ (lv : List (Option Value)) (h : Hp), PW w x 968 lv [.int 1] h X) : ∀ (n k j : Nat) (h : Hp), L < j + n → j ≤ 5 * k → 5 * k ≤ j → j ≤ L → RR k h → PW w x 18 [some (.ref b), some (.ref (w.2.1 0)), some (.ref (w.2.1 22)), some (.int (nI j))] [] h X := by
  obtain ⟨s0, s1, s2, s3, s4, s5, s6, s7, s8, s9, s10, s11, s12, s13, s14, s15, s16, s17, s18, s19, s20, s21, s22, s23, s24, s25, s26, s27, s28⟩ := HS
  intro n
  induction n with
  | zero => intro k j h h1 _ _ h2; omega
  | succ n ih =>
    intro k j h h1 h3 h4 h2 hR
    refine pw_iload_n C dL_law_18 rfl rfl ?_
    refine pw_aload_n C dL_law_19 rfl rfl ?_
    refine pw_slen C hX hbl hbA dL_law_20 ?_
    refine pw_iconst (v := 5) C dL_law_21 (by decide) ?_
    refine pw_isub C dL_law_22 ?_
    refine PW.eq (Y := if nI L - 5 < nI j then X else X) (by split <;> rfl) ?_
    refine pw_icmp_gt (tgt := 967) C dL_law_23 (by decide) (fun c1 => ?_) (fun c1 => ?_)
    · refine pw_iconst (v := 1) C dL_law_967 (by decide) ?_
      exact hend _ _
    · have hj : j + 5 ≤ L := law_lt hL3 h2 c1
      have kk : ∀ h2, RR (k + 1) h2 → PW w x 961 [some (.ref b), some (.ref (w.2.1 0)), some (.ref (w.2.1 22)), some (.int (nI j))] [] h2 X := by
        intro h2 hR2
        refine pw_iinc (lv2 := [some (.ref b), some (.ref (w.2.1 0)), some (.ref (w.2.1 22)), some (.int (nI (j + 5)))]) C dL_law_961 rfl (by rw [← nI_add]; rfl) hN4 (by decide) rfl rfl ?_
        refine pw_goto (tgt := 18) C dL_law_964 (by decide) ?_
        exact ih (k + 1) (j + 5) h2 (by omega) (by omega) (by omega) (by omega) hR2
      refine pw_aload_n C dL_law_26 rfl rfl ?_
      refine pw_iload_n C dL_law_27 rfl rfl ?_
      refine pw_sld C hX hbl hbA (vp_inB (by omega) hL3) dL_law_28 ?_
      refine pw_bipush (v := 31) C dL_law_29 (by decide) ?_
      refine pw_iand C dL_law_31 ?_
      by_cases c_0 : f (nI j).toNatClampNeg &&& 31 = 0
      · refine pw_tsIn (tgt := 164) (off := 132) C dL_law_32 (by rw [c_0]; decide) (by rw [c_0]; decide) (by rw [c_0]; decide) (by decide) ?_
        exact lawc_write hL hM C hN4 hX hbl hbA hL3 s0 k j h (by omega) hj hR kk
      by_cases c_1 : f (nI j).toNatClampNeg &&& 31 = 1
      · refine pw_tsIn (tgt := 187) (off := 155) C dL_law_32 (by rw [c_1]; decide) (by rw [c_1]; decide) (by rw [c_1]; decide) (by decide) ?_
        exact lawc_wipe hL hM C hN4 hX hbl hbA hL3 s1 k j h (by omega) hj hR kk
      by_cases c_2 : f (nI j).toNatClampNeg &&& 31 = 2
      · refine pw_tsIn (tgt := 200) (off := 168) C dL_law_32 (by rw [c_2]; decide) (by rw [c_2]; decide) (by rw [c_2]; decide) (by decide) ?_
        exact lawc_fault hL hM C hN4 hX hbl hbA hL3 s2 k j h (by omega) hj hR kk
      by_cases c_3 : f (nI j).toNatClampNeg &&& 31 = 3
      · refine pw_tsIn (tgt := 213) (off := 181) C dL_law_32 (by rw [c_3]; decide) (by rw [c_3]; decide) (by rw [c_3]; decide) (by decide) ?_
        exact lawc_lay hL hM C hN4 hX hbl hbA hL3 s3 k j h (by omega) hj hR kk
      by_cases c_4 : f (nI j).toNatClampNeg &&& 31 = 4
      · refine pw_tsIn (tgt := 226) (off := 194) C dL_law_32 (by rw [c_4]; decide) (by rw [c_4]; decide) (by rw [c_4]; decide) (by decide) ?_
        exact lawc_cord hL hM C hN4 hX hbl hbA hL3 s4 k j h (by omega) hj hR kk
      by_cases c_5 : f (nI j).toNatClampNeg &&& 31 = 5
      · refine pw_tsIn (tgt := 259) (off := 227) C dL_law_32 (by rw [c_5]; decide) (by rw [c_5]; decide) (by rw [c_5]; decide) (by decide) ?_
        exact lawc_cluster hL hM C hN4 hX hbl hbA hL3 s5 k j h (by omega) hj hR kk
      by_cases c_6 : f (nI j).toNatClampNeg &&& 31 = 6
      · refine pw_tsIn (tgt := 292) (off := 260) C dL_law_32 (by rw [c_6]; decide) (by rw [c_6]; decide) (by rw [c_6]; decide) (by decide) ?_
        exact lawc_group hL hM C hN4 hX hbl hbA hL3 s6 k j h (by omega) hj hR kk
      by_cases c_7 : f (nI j).toNatClampNeg &&& 31 = 7
      · refine pw_tsIn (tgt := 325) (off := 293) C dL_law_32 (by rw [c_7]; decide) (by rw [c_7]; decide) (by rw [c_7]; decide) (by decide) ?_
        exact lawc_pendant hL hM C hN4 hX hbl hbA hL3 s7 k j h (by omega) hj hR kk
      by_cases c_8 : f (nI j).toNatClampNeg &&& 31 = 8
      · refine pw_tsIn (tgt := 358) (off := 326) C dL_law_32 (by rw [c_8]; decide) (by rw [c_8]; decide) (by rw [c_8]; decide) (by decide) ?_
        exact lawc_tie hL hM C hN4 hX hbl hbA hL3 s8 k j h (by omega) hj hR kk
      by_cases c_9 : f (nI j).toNatClampNeg &&& 31 = 9
      · refine pw_tsIn (tgt := 391) (off := 359) C dL_law_32 (by rw [c_9]; decide) (by rw [c_9]; decide) (by rw [c_9]; decide) (by decide) ?_
        exact lawc_more hL hM C hN4 hX hbl hbA hL3 s9 k j h (by omega) hj hR kk
      by_cases c_10 : f (nI j).toNatClampNeg &&& 31 = 10
      · refine pw_tsIn (tgt := 424) (off := 392) C dL_law_32 (by rw [c_10]; decide) (by rw [c_10]; decide) (by rw [c_10]; decide) (by decide) ?_
        exact lawc_knot hL hM C hN4 hX hbl hbA hL3 s10 k j h (by omega) hj hR kk
      by_cases c_11 : f (nI j).toNatClampNeg &&& 31 = 11
      · refine pw_tsIn (tgt := 477) (off := 445) C dL_law_32 (by rw [c_11]; decide) (by rw [c_11]; decide) (by rw [c_11]; decide) (by decide) ?_
        exact lawc_dye hL hM C hN4 hX hbl hbA hL3 s11 k j h (by omega) hj hR kk
      by_cases c_12 : f (nI j).toNatClampNeg &&& 31 = 12
      · refine pw_tsIn (tgt := 510) (off := 478) C dL_law_32 (by rw [c_12]; decide) (by rw [c_12]; decide) (by rw [c_12]; decide) (by decide) ?_
        exact lawc_hang hL hM C hN4 hX hbl hbA hL3 s12 k j h (by omega) hj hR kk
      by_cases c_13 : f (nI j).toNatClampNeg &&& 31 = 13
      · refine pw_tsIn (tgt := 543) (off := 511) C dL_law_32 (by rw [c_13]; decide) (by rw [c_13]; decide) (by rw [c_13]; decide) (by decide) ?_
        exact lawc_undo hL hM C hN4 hX hbl hbA hL3 s13 k j h (by omega) hj hR kk
      by_cases c_14 : f (nI j).toNatClampNeg &&& 31 = 14
      · refine pw_tsIn (tgt := 556) (off := 524) C dL_law_32 (by rw [c_14]; decide) (by rw [c_14]; decide) (by rw [c_14]; decide) (by decide) ?_
        exact lawc_wrong hL hM C hN4 hX hbl hbA hL3 s14 k j h (by omega) hj hR kk
      by_cases c_15 : f (nI j).toNatClampNeg &&& 31 = 15
      · refine pw_tsIn (tgt := 579) (off := 547) C dL_law_32 (by rw [c_15]; decide) (by rw [c_15]; decide) (by rw [c_15]; decide) (by decide) ?_
        exact lawc_mend hL hM C hN4 hX hbl hbA hL3 s15 k j h (by omega) hj hR kk
      by_cases c_16 : f (nI j).toNatClampNeg &&& 31 = 16
      · refine pw_tsIn (tgt := 602) (off := 570) C dL_law_32 (by rw [c_16]; decide) (by rw [c_16]; decide) (by rw [c_16]; decide) (by decide) ?_
        exact lawc_slip hL hM C hN4 hX hbl hbA hL3 s16 k j h (by omega) hj hR kk
      by_cases c_17 : f (nI j).toNatClampNeg &&& 31 = 17
      · refine pw_tsIn (tgt := 635) (off := 603) C dL_law_32 (by rw [c_17]; decide) (by rw [c_17]; decide) (by rw [c_17]; decide) (by decide) ?_
        exact lawc_lost hL hM C hN4 hX hbl hbA hL3 s17 k j h (by omega) hj hR kk
      by_cases c_18 : f (nI j).toNatClampNeg &&& 31 = 18
      · refine pw_tsIn (tgt := 658) (off := 626) C dL_law_32 (by rw [c_18]; decide) (by rw [c_18]; decide) (by rw [c_18]; decide) (by decide) ?_
        exact lawc_closed hL hM C hN4 hX hbl hbA hL3 s18 k j h (by omega) hj hR kk
      by_cases c_19 : f (nI j).toNatClampNeg &&& 31 = 19
      · refine pw_tsIn (tgt := 701) (off := 669) C dL_law_32 (by rw [c_19]; decide) (by rw [c_19]; decide) (by rw [c_19]; decide) (by decide) ?_
        exact lawc_order hL hM C hN4 hX hbl hbA hL3 s19 k j h (by omega) hj hR kk
      by_cases c_20 : f (nI j).toNatClampNeg &&& 31 = 20
      · refine pw_tsIn (tgt := 724) (off := 692) C dL_law_32 (by rw [c_20]; decide) (by rw [c_20]; decide) (by rw [c_20]; decide) (by decide) ?_
        exact lawc_share hL hM C hN4 hX hbl hbA hL3 s20 k j h (by omega) hj hR kk
      by_cases c_21 : f (nI j).toNatClampNeg &&& 31 = 21
      · refine pw_tsIn (tgt := 757) (off := 725) C dL_law_32 (by rw [c_21]; decide) (by rw [c_21]; decide) (by rw [c_21]; decide) (by decide) ?_
        exact lawc_make hL hM C hN4 hX hbl hbA hL3 s21 k j h (by omega) hj hR kk
      by_cases c_22 : f (nI j).toNatClampNeg &&& 31 = 22
      · refine pw_tsIn (tgt := 780) (off := 748) C dL_law_32 (by rw [c_22]; decide) (by rw [c_22]; decide) (by rw [c_22]; decide) (by decide) ?_
        exact lawc_colours hL hM C hN4 hX hbl hbA hL3 s22 k j h (by omega) hj hR kk
      by_cases c_23 : f (nI j).toNatClampNeg &&& 31 = 23
      · refine pw_tsIn (tgt := 813) (off := 781) C dL_law_32 (by rw [c_23]; decide) (by rw [c_23]; decide) (by rw [c_23]; decide) (by decide) ?_
        exact lawc_path hL hM C hN4 hX hbl hbA hL3 s23 k j h (by omega) hj hR kk
      by_cases c_24 : f (nI j).toNatClampNeg &&& 31 = 24
      · refine pw_tsIn (tgt := 846) (off := 814) C dL_law_32 (by rw [c_24]; decide) (by rw [c_24]; decide) (by rw [c_24]; decide) (by decide) ?_
        exact lawc_same hL hM C hN4 hX hbl hbA hL3 s24 k j h (by omega) hj hR kk
      by_cases c_25 : f (nI j).toNatClampNeg &&& 31 = 25
      · refine pw_tsIn (tgt := 879) (off := 847) C dL_law_32 (by rw [c_25]; decide) (by rw [c_25]; decide) (by rw [c_25]; decide) (by decide) ?_
        exact lawc_year hL hM C hN4 hX hbl hbA hL3 s25 k j h (by omega) hj hR kk
      by_cases c_26 : f (nI j).toNatClampNeg &&& 31 = 26
      · refine pw_tsIn (tgt := 912) (off := 880) C dL_law_32 (by rw [c_26]; decide) (by rw [c_26]; decide) (by rw [c_26]; decide) (by decide) ?_
        exact lawc_keep hL hM C hN4 hX hbl hbA hL3 s26 k j h (by omega) hj hR kk
      by_cases c_27 : f (nI j).toNatClampNeg &&& 31 = 27
      · refine pw_tsIn (tgt := 925) (off := 893) C dL_law_32 (by rw [c_27]; decide) (by rw [c_27]; decide) (by rw [c_27]; decide) (by decide) ?_
        exact lawc_back hL hM C hN4 hX hbl hbA hL3 s27 k j h (by omega) hj hR kk
      by_cases c_28 : f (nI j).toNatClampNeg &&& 31 = 28
      · refine pw_tsIn (tgt := 938) (off := 906) C dL_law_32 (by rw [c_28]; decide) (by rw [c_28]; decide) (by rw [c_28]; decide) (by decide) ?_
        exact lawc_count hL hM C hN4 hX hbl hbA hL3 s28 k j h (by omega) hj hR kk
      refine pw_tsOut (tgt := 961) C dL_law_32 (by have := i_neN (z := 0) (by decide) c_0; have := i_neN (z := 1) (by decide) c_1; have := i_neN (z := 2) (by decide) c_2; have := i_neN (z := 3) (by decide) c_3; have := i_neN (z := 4) (by decide) c_4; have := i_neN (z := 5) (by decide) c_5; have := i_neN (z := 6) (by decide) c_6; have := i_neN (z := 7) (by decide) c_7; have := i_neN (z := 8) (by decide) c_8; have := i_neN (z := 9) (by decide) c_9; have := i_neN (z := 10) (by decide) c_10; have := i_neN (z := 11) (by decide) c_11; have := i_neN (z := 12) (by decide) c_12; have := i_neN (z := 13) (by decide) c_13; have := i_neN (z := 14) (by decide) c_14; have := i_neN (z := 15) (by decide) c_15; have := i_neN (z := 16) (by decide) c_16; have := i_neN (z := 17) (by decide) c_17; have := i_neN (z := 18) (by decide) c_18; have := i_neN (z := 19) (by decide) c_19; have := i_neN (z := 20) (by decide) c_20; have := i_neN (z := 21) (by decide) c_21; have := i_neN (z := 22) (by decide) c_22; have := i_neN (z := 23) (by decide) c_23; have := i_neN (z := 24) (by decide) c_24; have := i_neN (z := 25) (by decide) c_25; have := i_neN (z := 26) (by decide) c_26; have := i_neN (z := 27) (by decide) c_27; have := i_neN (z := 28) (by decide) c_28; omega) (by decide) ?_
      exact kk h (hmono _ _ hR)
