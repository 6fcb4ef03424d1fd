/-! what a new object holds -/
def W1 : Vw := (7, 2, (fun c => [1, 4, 2, 3, 1, 2, 7].getD c 0), (fun c => [3, 1, 2, 3, 1, 1, 1].getD c 0), (fun c => fun j => ([[23, 0, 12], [31], [31, 11], [24, 0, 13], [25], [22], [0]].getD c []).getD j 0), (fun c => [none, some 0, none, none, none, some 4, some 5].getD c none), (fun c => [0, 1, 0, 0, 0, 1, 2].getD c 0), (fun c => c == 3), (fun c => [0, 0, 0, 0, 1, 1, 1].getD c 0), (fun c => c), [0, 2, 4])
def parB (c : Nat) : Bool := match vPar W1 c with
  | none => decide (vDep W1 c = 0)
  | some p => decide (p < c ∧ vDep W1 c = vDep W1 p + 1 ∧ vGrp W1 c = vGrp W1 p ∧ vTop W1 c = false)
def conB (c : Nat) : Bool := match vPar W1 c with
  | none => true
  | some p => (List.range c).all (fun e => !decide (p < e) || (match vPar W1 e with | none => false | some q => q == p || vPar W1 q == some p))
theorem W1_a : ∀ c, c < 7 → vCol W1 c ≤ 9 ∧ (1 ≤ vSiz W1 c ∧ vSiz W1 c ≤ 4) ∧ vDep W1 c ≤ 2 ∧ vGrp W1 c < 2 ∧ vRk W1 c ≤ 15 ∧ parB c = true ∧ conB c = true ∧ (∀ j, j < vSiz W1 c → (vCod W1 c j = 0 ∨ (11 ≤ vCod W1 c j ∧ vCod W1 c j ≤ 19) ∨ (22 ≤ vCod W1 c j ∧ vCod W1 c j ≤ 29) ∨ vCod W1 c j = 31)) := by decide +kernel
theorem W1_t : ∀ c, c < 7 → ∀ d, d < 7 → vTop W1 c = true → vTop W1 d = true → vGrp W1 c = vGrp W1 d → c = d := by decide +kernel
theorem W1_l : ∀ c, c < 7 → (c ∈ [0, 2, 4] ↔ ((vPar W1 c).isNone = true ∧ vTop W1 c = false)) := by decide +kernel
theorem W1_wf : Wf 0 W1 := by
  refine ⟨⟨by decide, by decide⟩, fun c hc => ?_, by decide, fun c => ?_, fun c d hc hd => W1_t c hc d hd, fun c p hc hp e h1 h2 => ?_⟩
  · obtain ⟨a1, a2, a3, a4, a5, a6, a7, a8⟩ := W1_a c hc
    unfold parB at a6
    refine ⟨a1, a2, fun j hj => a8 j hj, a3, fun hp => ?_, fun p hp => ?_, a4, a5⟩
    · rw [hp] at a6
      exact of_decide_eq_true a6
    · rw [hp] at a6
      exact of_decide_eq_true a6
  · show c ∈ [0, 2, 4] ↔ c < 7 ∧ vPar W1 c = none ∧ vTop W1 c = false
    by_cases hc : c < 7
    · rw [W1_l c hc]
      cases vPar W1 c with
      | none => simp [hc]
      | some p => simp
    · constructor
      · intro q
        simp at q
        omega
      · intro q
        exact absurd q.1 hc
  · have a7 := (W1_a c hc).2.2.2.2.2.2.1
    unfold conB at a7
    rw [hp] at a7
    have a8 := List.all_eq_true.mp a7 e (List.mem_range.mpr h2)
    rw [decide_eq_true h1, Bool.not_true, Bool.false_or] at a8
    cases hq : vPar W1 e with
    | none => rw [hq] at a8; cases a8
    | some q =>
      rw [hq] at a8
      replace a8 : (q == p || vPar W1 q == some p) = true := a8
      rw [Bool.or_eq_true, beq_iff_eq, beq_iff_eq] at a8
      exact ⟨q, rfl, a8⟩
def rowB (h : Hp) (c : Nat) : Bool := (decide (h 7 c = nI (vCol W1 c)) && decide (h 7 (16 + c) = nI (vSiz W1 c)) && decide (h 7 (32 + c) = encP (vPar W1 c))) && (decide (h 7 (48 + c) = nI (vDep W1 c)) && decide (h 7 (64 + c) = b2 (vTop W1 c)) && decide (h 7 (80 + c) = nI (vGrp W1 c))) && (List.range (vSiz W1 c)).all (fun k => decide (h 7 (112 + 4 * c + k) = nI (vCod W1 c k)))
def modB (h : Hp) (c : Nat) : Bool := (decide (h 23 (2 + c) = nI (vCol W1 c)) && decide (h 23 (18 + c) = nI (vSiz W1 c)) && decide (h 23 (98 + c) = encM (vPar W1 c))) && (decide (h 23 (114 + c) = nI (vGrp W1 c)) && decide (h 23 (130 + c) = b2 (vTop W1 c)) && decide (h 23 (146 + c) = nI (vRk W1 c))) && (List.range (vSiz W1 c)).all (fun k => decide (h 23 (34 + 4 * c + k) = nI (vCod W1 c k)))
def isC (h : Hp) (q i : Nat) (v : Int32) : Bool := decide (h q i = v)
def chkX (h : Hp) : Bool := (isC h 12 3 16 && isC h 12 4 17) && (isC h 0 1 0 && isC h 8 0 8 && isC h 8 2 0 && isC h 10 0 2 && isC h 10 2 0) && (isC h 7 176 7 && isC h 7 177 2 && isC h 7 178 3 && isC h 7 96 0 && isC h 7 97 2 && isC h 7 98 4) && (List.range 7).all (rowB h)
def chkM (h : Hp) : Bool := (isC h 22 2 0 && isC h 22 4 0 && isC h 22 6 0) && (isC h 23 0 7 && isC h 23 1 2) && (List.range 7).all (modB h)
def opB (o : Option Rs) (p : Rs → Bool) : Bool := match o with
  | none => false
  | some r => p r
theorem opB_ok {o : Option Rs} {p : Rs → Bool} (h : opB o p = true) : ∃ r, o = some r ∧ p r = true := by
  cases o with
  | none => cases h
  | some r => exact ⟨r, rfl, h⟩
set_option maxRecDepth 100000 in
theorem init_m : opB (fX4_initT 70000 hX0) (fun r => chkX r.2 && opB (fX5_initT 70000 (hM0 r.2)) (fun r2 => chkX r2.2 && chkM r2.2)) = true := by decide +kernel
theorem isC_ok {h : Hp} {q i : Nat} {v : Int32} (e : isC h q i v = true) : h q i = v := of_decide_eq_true e
theorem all7 {p : Nat → Bool} (h : (List.range 7).all p = true) {c : Nat} (hc : c < 7) : p c = true := List.all_eq_true.mp h c (List.mem_range.mpr hc)
theorem rowB_ok {h : Hp} {c : Nat} (e : rowB h c = true) : RowC (h 7) W1 c := by
  unfold rowB at e
  simp only [Bool.and_eq_true, decide_eq_true_iff] at e
  obtain ⟨⟨⟨⟨e1, e2⟩, e3⟩, ⟨e4, e5⟩, e6⟩, e7⟩ := e
  exact ⟨e1, e2, e3, e4, e5, e6, fun k hk => of_decide_eq_true (List.all_eq_true.mp e7 k (List.mem_range.mpr hk))⟩
theorem modB_ok {h : Hp} {c : Nat} (e : modB h c = true) : ModC (h 23) W1 c := by
  unfold modB at e
  simp only [Bool.and_eq_true, decide_eq_true_iff] at e
  obtain ⟨⟨⟨⟨e1, e2⟩, e3⟩, ⟨e4, e5⟩, e6⟩, e7⟩ := e
  exact ⟨e1, e2, e3, e4, e5, e6, fun k hk => of_decide_eq_true (List.all_eq_true.mp e7 k (List.mem_range.mpr hk))⟩
theorem hinit : ∃ r1 r2 : Rs, fX4_initT 70000 hX0 = some r1 ∧ dynok r1.2 ∧ fX5_initT 70000 (hM0 r1.2) = some r2 ∧ RR 0 r2.2 := by
  obtain ⟨r1, e1, hxm⟩ := opB_ok init_m
  rw [Bool.and_eq_true] at hxm
  obtain ⟨hx, hm0⟩ := hxm
  obtain ⟨r2, e2, hm⟩ := opB_ok hm0
  rw [Bool.and_eq_true] at hm
  obtain ⟨hmx, hmm⟩ := hm
  refine ⟨r1, r2, e1, ?_, e2, ?_⟩
  · unfold chkX at hx
    simp only [Bool.and_eq_true] at hx
    exact ⟨Or.inl (isC_ok hx.1.1.1.1), Or.inr (isC_ok hx.1.1.1.2)⟩
  · unfold chkX at hmx
    unfold chkM at hmm
    simp only [Bool.and_eq_true] at hmx hmm
    obtain ⟨⟨⟨⟨x1, x2⟩, ⟨⟨⟨x3, x4⟩, x5⟩, x6⟩, x7⟩, ⟨⟨⟨⟨y1, y2⟩, y3⟩, y4⟩, y5⟩, y6⟩, x8⟩ := hmx
    obtain ⟨⟨⟨⟨z1, z2⟩, z3⟩, z4, z5⟩, z6⟩ := hmm
    have hrow : RowV (r2.2 7) W1 := by
      refine ⟨isC_ok y1, isC_ok y2, isC_ok y3, fun i hi => ?_, fun c hc => rowB_ok (all7 x8 hc)⟩
      have hi3 : i < 3 := hi
      have c3 : i = 0 ∨ i = 1 ∨ i = 2 := by omega
      rcases c3 with rfl | rfl | rfl
      · exact isC_ok y4
      · exact isC_ok y5
      · exact isC_ok y6
    have hmod : ModV (r2.2 23) W1 := ⟨isC_ok z4, isC_ok z5, fun c hc => modB_ok (all7 z6 hc)⟩
    exact ⟨⟨0, by omega, isC_ok x3, isC_ok z3, fun i hi => by omega⟩, ⟨⟨isC_ok x4, isC_ok x6⟩, Or.inl ⟨isC_ok x1, isC_ok x2⟩⟩, ⟨W1, W1_wf, hrow, hmod⟩, ⟨0, by omega, isC_ok x5, isC_ok z1, fun j hj => by omega⟩, ⟨0, by omega, isC_ok x7, isC_ok z2, fun j hj => by omega⟩⟩
theorem pure_all : ∃ (N : Nat) (RR : Nat → Hp → Prop), SFall N RR ∧ (∀ k h, RR k h → RR (k + 1) h) ∧ ∃ r1 r2 : Rs, fX4_initT N hX0 = some r1 ∧ dynok r1.2 ∧ fX5_initT N (hM0 r1.2) = some r2 ∧ RR 0 r2.2 := by
  have hN : 70000 ≤ 70000 := Nat.le_refl _
  exact ⟨70000, RR, ⟨st_write _, st_wipe _, st_fault _ hN, st_lay _ hN, st_cord _ hN, st_cluster _, st_group _ hN, st_pendant _ hN, st_tie _ hN, st_more _ hN, st_knot _ hN, st_dye _ hN, st_hang _ hN, st_undo _ hN, st_wrong _ hN, st_mend _ hN, st_slip _ hN, st_lost _ hN, st_closed _ hN, st_order _ hN, st_share _ hN, st_make _ hN, st_colours _ hN, st_path _ hN, st_same _ hN, st_year _ hN, st_keep _ hN, st_back _ hN, st_count _ hN⟩, RR_mono, hinit⟩
