/-! a whole text, on both sides -/
section RD
variable {V : Vw} {s d N : Nat} {b : Bool} {L : Nat → Nat}
theorem PI.tops (h : PI V s d b L) : ∀ c, c < vN V → vTop V c = true → vGrp V c + 1 = vG V → b = true ∧ ¬ (s = 1 ∧ d = 0) := h.2.2.2.2.2.2.2.1
theorem lk_knots (hP : PI V s d b L) (hs : s = 2 ∨ s = 5) (hN : 70000 ≤ N) (a : Int32) : LK V s d b L (fun h => fX1_opensCluster N h a) (fun h => fX5_takesKnots N h a) := by
  have hb := hP.1
  have h0 := hb.2.2.2.2.2.2 (by omega)
  have hsz := hP.sz
  have m1 : nI (vN V) - 1 = nI (vN V - 1) := by rw [show (1 : Int32) = nI 1 from rfl, pk_sub (by omega)]
  have eC : ∀ h, RC h V s d b L → fX0_sizeOf h 4 ((fX0_cords h 4) - 1) = nI (vSiz V (vN V - 1)) := fun h hR => by
    rw [q_cords hR.1, m1]
    unfold fX0_sizeOf
    rw [show (16 : Int32) = nI 16 from rfl, nI_add, at_nI (by omega) (by omega)]
    exact (hR.1.c (c := vN V - 1) (by omega)).2.1
  have eM : ∀ h, RM h V s d b L → rdH h 27 162 (18 + (fX5_newest h)) = some (nI (vSiz V (vN V - 1))) := fun h hR => by
    unfold fX5_newest
    rw [hR.1.1, m1, show (18 : Int32) = nI 18 from rfl, nI_add, rd_nI (by omega) (by omega)]
    exact congrArg some (hR.1.c (c := vN V - 1) (by omega)).2.1
  have hsl := hsz (vN V - 1) (by omega)
  by_cases hz : vSiz V (vN V - 1) < 4
  · have fC : ∀ h, RC h V s d b L → fX1_opensCluster N h a = (if a = 46 then ((fX1_endsCluster N h 0 0).bind fun z4 => (if z4.1 = 0 ∨ z4.1 = 1 then (some (z4.1, z4.2)) else none)) else (if a = 101 then ((fX1_endsCluster N h 3 1).bind fun z3 => (if z3.1 = 0 ∨ z3.1 = 1 then (some (z3.1, z3.2)) else none)) else (if a = 108 then ((some (hset h 2 2 4)).bind fun g2 => (some (1, g2))) else (if a = 115 then ((some (hset h 2 2 3)).bind fun g1 => (some (1, g1))) else (some (0, h)))))) := fun h hR => by
      unfold fX1_opensCluster
      rw [eC h hR, if_pos (show nI (vSiz V (vN V - 1)) < (4 : Int32) from nI_lt (b := 4) hz (by omega))]
    have fM : ∀ h, RM h V s d b L → fX5_takesKnots N h a = fX5_takesKnots_J26 N a h := fun h hR => by
      unfold fX5_takesKnots
      rw [eM h hR, Option.bind_some, if_neg (show ¬ nI (vSiz V (vN V - 1)) = (4 : Int32) from ne_lit (b := 4) (by omega) (by omega) (by omega))]
      split <;> rfl
    have st : ∀ s', s' = 3 ∨ s' = 4 → PI V s' d b L ∧ kk s' d = kk s d := fun s' hs' => ⟨hP.st hb.2.2.1 (by omega) (fun q => by omega) (by omega) (fun _ => by omega) (fun _ => by omega) (fun _ => hz) (fun q => by omega) (fun c hc tc hg => ⟨(hP.tops c hc tc hg).1, by omega⟩) (by unfold kk; rw [if_neg (by omega), if_neg (by omega)]; exact Nat.le_refl _), by unfold kk; rw [if_neg (by omega), if_neg (by omega)]⟩
    by_cases c1 : a = 46
    · refine (lk_clu hP (by omega) hz hN (v := 0) (Or.inl rfl) (k := 0) (n := 0) (fun h => rfl) rfl (x := 0) rfl).wr wr_ok wr_ok (fun h hR => by rw [fC h hR, if_pos c1]) (fun h hR => ?_)
      rw [fM h hR]
      unfold fX5_takesKnots_J26
      rw [if_pos c1]
    by_cases c2 : a = 101
    · refine (lk_clu hP (by omega) hz hN (v := 31) (Or.inr (Or.inr (Or.inr rfl))) (k := 3) (n := 1) (fun h => rfl) (by decide) (x := 31) rfl).wr wr_ok wr_ok (fun h hR => by rw [fC h hR, if_neg c1, if_pos c2]) (fun h hR => ?_)
      rw [fM h hR]
      unfold fX5_takesKnots_J26
      rw [if_neg c1, if_pos c2]
    by_cases c3 : a = 108
    · refine (lk_st (st 4 (Or.inr rfl)).1 (by omega) (st 4 (Or.inr rfl)).2 (x := 4) (y := 6) rfl (by decide)).wr wr_id wr_ok (fun h hR => by rw [fC h hR, if_neg c1, if_neg c2, if_pos c3]) (fun h hR => ?_)
      rw [fM h hR]
      unfold fX5_takesKnots_J26
      rw [if_neg c1, if_neg c2, if_pos c3]
    by_cases c4 : a = 115
    · refine (lk_st (st 3 (Or.inl rfl)).1 (by omega) (st 3 (Or.inl rfl)).2 (x := 3) (y := 5) rfl (by decide)).wr wr_id wr_ok (fun h hR => by rw [fC h hR, if_neg c1, if_neg c2, if_neg c3, if_pos c4]) (fun h hR => ?_)
      rw [fM h hR]
      unfold fX5_takesKnots_J26
      rw [if_neg c1, if_neg c2, if_neg c3, if_pos c4]
    · refine Or.inr ⟨fun h hR => ?_, fun h hR => ?_⟩
      · show fX1_opensCluster N h a = _
        rw [fC h hR, if_neg c1, if_neg c2, if_neg c3, if_neg c4]
      · show fX5_takesKnots N h a = _
        rw [fM h hR]
        unfold fX5_takesKnots_J26
        rw [if_neg c1, if_neg c2, if_neg c3, if_neg c4]
  · have hs5 : s = 5 := by
      rcases hs with q | q
      · have := hP.2.2.2.2.1 q
        omega
      · exact q
    subst hs5
    refine Or.inr ⟨fun h hR => ?_, fun h hR => ?_⟩
    · show fX1_opensCluster N h a = _
      unfold fX1_opensCluster
      rw [eC h hR, if_neg (show ¬ nI (vSiz V (vN V - 1)) < (4 : Int32) from nlt_lit (b := 4) (by omega) (by omega) hz)]
    · show fX5_takesKnots N h a = _
      unfold fX5_takesKnots
      rw [show h 22 8 = 3 from hR.2.1, if_pos rfl, eM h hR, Option.bind_some, if_pos (show nI (vSiz V (vN V - 1)) = (4 : Int32) by rw [show vSiz V (vN V - 1) = 4 by omega]; rfl)]
theorem ndg_of {a : Int32} {x : Nat} (hx : x < 48 ∨ 57 < x) (hx2 : x < 200) (ha : a = nI x) : ∀ j, j < 10 → a ≠ nI (48 + j) := fun j hj e => by
  rw [ha] at e
  have := (nI_eq (by omega) (by omega)).mp e
  omega
theorem te_eq (b : Bool) {d : Nat} (hd : d ≤ 2) : (if nI d = 0 then (if b2 b = 0 then (0 : Int32) else 1) else 0) = b2 (decide (d = 0) && b) := by
  by_cases h1 : d = 0
  · subst h1
    rw [if_pos (show nI 0 = (0 : Int32) from rfl)]
    cases b <;> rfl
  · rw [if_neg (show ¬ nI d = (0 : Int32) from ne_lit (b := 0) (by omega) (by omega) h1), decide_eq_false h1]
    rfl
theorem lk_behind (hP : PI V s d b L) (hs : s = 5 ∨ s = 6) (a : Int32) (h40 : s = 6 ∨ ¬ a = 40) : LK V s d b L (fun h => fX1_comesBehindCord h a) (fun h => fX5_takesBehind h a) := by
  have hb := hP.1
  have hd2 := hb.2.2.1
  have hk1 : kk s d = d + 1 := by unfold kk; rw [if_neg (by omega)]
  -- the two programs behind a cord
  have d0 : ∀ {α : Type} (x y : α), (if nI d = 0 then x else y) = if d = 0 then x else y := fun x y => if_nI (b := 0) (by omega) (by omega) x y
  have eM0 : ∀ h, RM h V s d b L → fX5_takesBehind h a = fX5_takesBehind_J12 a (if d = 0 then 1 else 0) h := fun h hR => by
    unfold fX5_takesBehind
    rw [(hR.2.2.1 (by omega)).1, d0]
  have eC0 : ∀ h, RC h V s d b L → fX1_comesBehindCord h a = fX1_comesBehindCord_J19 a (b2 (decide (d = 0) && b)) h := fun h hR => by
    unfold fX1_comesBehindCord
    rw [hR.2.2.1, hR.2.2.2.1, te_eq b hd2]
  have noC : ∀ (h : Hp), (∀ j, j < 10 → a ≠ nI (48 + j)) → fX1_comesBehindCord_J100 a (b2 (decide (d = 0) && b)) h = some (0, h) := fun h hno => by
    unfold fX1_comesBehindCord_J100
    rw [b2_01]
    split
    · rfl
    · unfold fX1_opensCord
      rw [isC_no h hno, if_pos rfl]
      rfl
  by_cases c41 : a = 41
  · have hno := ndg_of (x := 41) (by omega) (by omega) c41
    by_cases hd : 0 < d
    · have hP' : PI V 6 (d - 1) b L := hP.st (by omega) (by omega) (fun q => by omega) (by omega) (fun _ => by omega) (fun q => by omega) (fun q => by omega) (fun q => by omega) (fun c hc tc hg => ⟨(hP.tops c hc tc hg).1, by omega⟩) (by unfold kk; rw [if_neg (by omega)]; split <;> omega)
      have hk6 : kk 6 (d - 1) = d := by unfold kk; rw [if_neg (by omega)]; omega
      have ed : nI d - 1 = nI (d - 1) := by rw [show (1 : Int32) = nI 1 from rfl, pk_sub (by omega)]
      refine Or.inl ⟨_, _, _, _, _, hP', fun h hR => ?_, fun h hR => ?_⟩
      · obtain ⟨r1, r2, r3, r4, r5⟩ := id hR
        refine ⟨hset (hset h 2 3 (nI (d - 1))) 2 2 6, ?_, ⟨by rw [hset_o (by decide), hset_o (by decide)]; exact r1, by rw [hset_s, pk_us]; rfl, by rw [hset_s, pk_un (by decide), hset_s, pk_us], by rw [hset_s, pk_un (by decide), hset_s, pk_un (by decide)]; exact r4, fun e he => by rw [hset_o (by decide), hset_o (by decide)]; exact r5 e (by omega)⟩, fun q q2 q4 q5 => by rw [hset_o q2, hset_o q2]⟩
        show fX1_comesBehindCord h a = _
        rw [eC0 h hR]
        unfold fX1_comesBehindCord_J19
        rw [if_pos c41, r3, if_pos (show (0 : Int32) < nI d from nI_lt (a := 0) hd (by omega)), ed]
        rfl
      · obtain ⟨r1, r2, r34, r5⟩ := id hR
        obtain ⟨r3, r4⟩ := r34 (by omega)
        refine ⟨hset (hset h 22 9 (nI (d - 1))) 22 8 4, ?_, ⟨by rw [hset_o (by decide), hset_o (by decide)]; exact r1, by rw [hset_s, pk_us]; rfl, fun _ => ⟨by rw [hset_s, pk_un (by decide), hset_s, pk_us], by rw [hset_s, pk_un (by decide), hset_s, pk_un (by decide)]; exact r4⟩, fun e he => by rw [hset_o (by decide), hset_o (by decide)]; exact r5 e (by omega)⟩, fun q q2 q4 q5 => by rw [hset_o q2, hset_o q2], fun i h8 h9 h10 => by rw [hset_s, pk_un h8, hset_s, pk_un h9]⟩
        show fX5_takesBehind h a = _
        rw [eM0 h hR]
        unfold fX5_takesBehind_J12 fX5_goesTo
        rw [if_neg (show ¬ a = 40 by rw [c41]; decide), if_pos c41, if_neg (show ¬ d = 0 by omega), if_pos rfl, r3, ed]
        rfl
    · have hd0 : d = 0 := by omega
      refine Or.inr ⟨fun h hR => ?_, fun h hR => ?_⟩
      · show fX1_comesBehindCord h a = _
        rw [eC0 h hR]
        unfold fX1_comesBehindCord_J19 fX1_comesBehindCord_J51 fX1_comesBehindCord_J80
        rw [if_pos c41, hR.2.2.1, if_neg (show ¬ (0 : Int32) < nI d from nlt_lit (a := 0) (by omega) (by omega) hd), if_neg (show ¬ a = 94 by rw [c41]; decide), if_neg (show ¬ a = 93 by rw [c41]; decide)]
        exact noC h hno
      · show fX5_takesBehind h a = _
        rw [eM0 h hR]
        unfold fX5_takesBehind_J12
        rw [if_neg (show ¬ a = 40 by rw [c41]; decide), if_pos c41, if_pos hd0, if_neg n10]
  have j19 : ∀ h, RC h V s d b L → fX1_comesBehindCord h a = fX1_comesBehindCord_J51 a (b2 (decide (d = 0) && b)) h := fun h hR => by
    rw [eC0 h hR]
    unfold fX1_comesBehindCord_J19
    rw [if_neg c41]
  by_cases c94 : a = 94
  · have hno := ndg_of (x := 94) (by omega) (by omega) c94
    by_cases hgo : d = 0 ∧ b = false
    · have hP' : PI V 1 0 true L := hP.st (by omega) (by omega) (fun q => rfl) (by omega) (fun q => by omega) (fun q => by omega) (fun q => by omega) (fun q => by omega) (fun c hc tc hg => by have := (hP.tops c hc tc hg).1; rw [hgo.2] at this; cases this) (by unfold kk; rw [if_pos (by omega)]; omega)
      refine Or.inl ⟨_, _, _, _, _, hP', fun h hR => ?_, fun h hR => ?_⟩
      · obtain ⟨r1, r2, r3, r4, r5⟩ := id hR
        refine ⟨hset (hset h 2 4 1) 2 2 1, ?_, ⟨by rw [hset_o (by decide), hset_o (by decide)]; exact r1, by rw [hset_s, pk_us]; rfl, by rw [hset_s, pk_un (by decide), hset_s, pk_un (by decide), r3, hgo.1], by rw [hset_s, pk_un (by decide), hset_s, pk_us]; rfl, fun e he => by unfold kk at he; rw [if_pos (by omega)] at he; omega⟩, fun q q2 q4 q5 => by rw [hset_o q2, hset_o q2]⟩
        show fX1_comesBehindCord h a = _
        rw [j19 h hR]
        unfold fX1_comesBehindCord_J51
        rw [if_pos c94, r3, d0, if_pos hgo.1, hgo.2, Bool.and_false, show b2 false = (0 : Int32) from rfl, if_pos rfl]
        rfl
      · obtain ⟨r1, r2, r34, r5⟩ := id hR
        obtain ⟨r3, r4⟩ := r34 (by omega)
        refine ⟨hset (hset h 22 10 1) 22 8 1, ?_, ⟨by rw [hset_o (by decide), hset_o (by decide)]; exact r1, by rw [hset_s, pk_us]; rfl, fun _ => ⟨by rw [hset_s, pk_un (by decide), hset_s, pk_un (by decide), r3, hgo.1], by rw [hset_s, pk_un (by decide), hset_s, pk_us]; rfl⟩, fun e he => by unfold kk at he; rw [if_pos (by omega)] at he; omega⟩, fun q q2 q4 q5 => by rw [hset_o q2, hset_o q2], fun i h8 h9 h10 => by rw [hset_s, pk_un h8, hset_s, pk_un h10]⟩
        show fX5_takesBehind h a = _
        rw [eM0 h hR]
        unfold fX5_takesBehind_J12 fX5_goesTo
        rw [if_neg (show ¬ a = 40 by rw [c94]; decide), if_neg c41, if_neg (show ¬ a = 93 by rw [c94]; decide), if_pos c94, if_pos hgo.1, if_neg n10, r4, hgo.2, show b2 false = (0 : Int32) from rfl, if_pos rfl]
        rfl
    · refine Or.inr ⟨fun h hR => ?_, fun h hR => ?_⟩
      · show fX1_comesBehindCord h a = _
        rw [j19 h hR]
        unfold fX1_comesBehindCord_J51 fX1_comesBehindCord_J80
        rw [if_pos c94, hR.2.2.1, d0, if_neg (show ¬ a = 93 by rw [c94]; decide), noC h hno]
        by_cases hd0 : d = 0
        · have hbt : b = true := by
            cases hbb : b with
            | true => rfl
            | false => exact absurd ⟨hd0, hbb⟩ hgo
          rw [if_pos hd0, hbt, decide_eq_true hd0, show b2 (true && true) = (1 : Int32) from rfl, if_neg n10]
        · rw [if_neg hd0]
      · show fX5_takesBehind h a = _
        rw [eM0 h hR]
        unfold fX5_takesBehind_J12
        rw [if_neg (show ¬ a = 40 by rw [c94]; decide), if_neg c41, if_neg (show ¬ a = 93 by rw [c94]; decide), if_pos c94]
        by_cases hd0 : d = 0
        · have hbt : b = true := by
            cases hbb : b with
            | true => rfl
            | false => exact absurd ⟨hd0, hbb⟩ hgo
          rw [if_pos hd0, if_neg n10, (hR.2.2.1 (by omega)).2, hbt, show b2 true = (1 : Int32) from rfl, if_neg n10]
        · rw [if_neg hd0, if_pos rfl]
  have j51 : ∀ h, RC h V s d b L → fX1_comesBehindCord h a = fX1_comesBehindCord_J80 a (b2 (decide (d = 0) && b)) h := fun h hR => by
    rw [j19 h hR]
    unfold fX1_comesBehindCord_J51
    rw [if_neg c94]
  by_cases c93 : a = 93
  · have hno := ndg_of (x := 93) (by omega) (by omega) c93
    by_cases hd0 : d = 0
    · have hP' : PI V 0 0 b L := hP.st (by omega) (by omega) (fun q => rfl) (by omega) (fun q => by omega) (fun q => by omega) (fun q => by omega) (fun q => by omega) (fun c hc tc hg => ⟨(hP.tops c hc tc hg).1, by omega⟩) (by unfold kk; rw [if_pos (by omega)]; omega)
      refine Or.inl ⟨_, _, _, _, _, hP', fun h hR => ?_, fun h hR => ?_⟩
      · obtain ⟨r1, r2, r3, r4, r5⟩ := id hR
        refine ⟨hset h 2 2 0, ?_, ⟨by rw [hset_o (by decide)]; exact r1, by rw [hset_s, pk_us]; rfl, by rw [hset_s, pk_un (by decide), r3, hd0], by rw [hset_s, pk_un (by decide)]; exact r4, fun e he => by unfold kk at he; rw [if_pos (by omega)] at he; omega⟩, fun q q2 q4 q5 => by rw [hset_o q2]⟩
        show fX1_comesBehindCord h a = _
        rw [j51 h hR]
        unfold fX1_comesBehindCord_J80
        rw [if_pos c93, r3, d0, if_pos hd0]
        rfl
      · obtain ⟨r1, r2, r34, r5⟩ := id hR
        refine ⟨hset h 22 8 0, ?_, ⟨by rw [hset_o (by decide)]; exact r1, by rw [hset_s, pk_us]; rfl, fun q => absurd rfl q, fun e he => by unfold kk at he; rw [if_pos (by omega)] at he; omega⟩, fun q q2 q4 q5 => by rw [hset_o q2], fun i h8 h9 h10 => by rw [hset_s, pk_un h8]⟩
        show fX5_takesBehind h a = _
        rw [eM0 h hR]
        unfold fX5_takesBehind_J12 fX5_goesTo
        rw [if_neg (show ¬ a = 40 by rw [c93]; decide), if_neg c41, if_pos c93, if_pos hd0, if_neg n10]
        rfl
    · refine Or.inr ⟨fun h hR => ?_, fun h hR => ?_⟩
      · show fX1_comesBehindCord h a = _
        rw [j51 h hR]
        unfold fX1_comesBehindCord_J80
        rw [if_pos c93, hR.2.2.1, d0, if_neg hd0]
        exact noC h hno
      · show fX5_takesBehind h a = _
        rw [eM0 h hR]
        unfold fX5_takesBehind_J12
        rw [if_neg (show ¬ a = 40 by rw [c93]; decide), if_neg c41, if_pos c93, if_neg hd0, if_pos rfl]
  have j80 : ∀ h, RC h V s d b L → fX1_comesBehindCord h a = fX1_comesBehindCord_J100 a (b2 (decide (d = 0) && b)) h := fun h hR => by
    rw [j51 h hR]
    unfold fX1_comesBehindCord_J80
    rw [if_neg c93]
  by_cases c40 : a = 40
  · have hno := ndg_of (x := 40) (by omega) (by omega) c40
    have hs6 : s = 6 := h40.elim id (fun q => absurd c40 q)
    refine Or.inr ⟨fun h hR => ?_, fun h hR => ?_⟩
    · show fX1_comesBehindCord h a = _
      rw [j80 h hR]
      exact noC h hno
    · show fX5_takesBehind h a = _
      rw [eM0 h hR]
      unfold fX5_takesBehind_J12
      have e8 : h 22 8 = 4 := by rw [hR.2.1, hs6]; decide
      rw [if_pos c40, e8, if_pos rfl]
  have m40 : ∀ h, RM h V s d b L → fX5_takesBehind h a = (if (fX5_in h (a).toInt64 48 57) = 0 then (some (0, h)) else (if (fX5_hasRoom h) = 0 then (some (0, h)) else (if (if d = 0 then (1 : Int32) else 0) = 0 then (fX5_takesBehind_J186 a h) else (if (h 22 10) = 0 then (fX5_takesBehind_J186 a h) else (some (0, h)))))) := fun h hR => by
    rw [eM0 h hR]
    unfold fX5_takesBehind_J12
    rw [if_neg c40, if_neg c41, if_neg c93, if_neg c94]
  by_cases hte : d = 0 ∧ b = true
  · refine Or.inr ⟨fun h hR => ?_, fun h hR => ?_⟩
    · show fX1_comesBehindCord h a = _
      rw [j80 h hR]
      unfold fX1_comesBehindCord_J100
      rw [hte.2, decide_eq_true hte.1, show b2 (true && true) = (1 : Int32) from rfl, if_neg n10]
    · show fX5_takesBehind h a = _
      rw [m40 h hR, if_pos hte.1, if_neg n10, (hR.2.2.1 (by omega)).2, hte.2, show b2 true = (1 : Int32) from rfl, if_neg n10]
      split
      · rfl
      · split <;> rfl
  · have hbf : (decide (d = 0) && b) = false := by
      cases hb2 : b with
      | false => rw [Bool.and_false]
      | true => rw [Bool.and_true]; exact decide_eq_false (fun q => hte ⟨q, hb2⟩)
    refine (lk_cord hP (Or.inr ⟨hs, hte⟩) a).wr wr_01 wr_01 (fun h hR => ?_) (fun h hR => ?_)
    · rw [j80 h hR]
      unfold fX1_comesBehindCord_J100
      rw [hbf, show b2 false = (0 : Int32) from rfl, if_pos rfl]
    · have hin : (if (if d = 0 then (1 : Int32) else 0) = 0 then (fX5_takesBehind_J186 a h) else (if (h 22 10) = 0 then (fX5_takesBehind_J186 a h) else (some (0, h)))) = fX5_takesBehind_J186 a h := by
        by_cases hd0 : d = 0
        · have hb0 : b = false := by
            cases hb2 : b with
            | false => rfl
            | true => exact absurd ⟨hd0, hb2⟩ hte
          rw [if_pos hd0, if_neg n10, (hR.2.2.1 (by omega)).2, hb0, show b2 false = (0 : Int32) from rfl, if_pos rfl]
        · rw [if_neg hd0, if_pos rfl]
      rw [m40 h hR, hin]
      unfold fX5_takesBehind_J186
      split
      · rfl
      · split <;> rfl
end RD
