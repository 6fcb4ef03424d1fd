/-! every letter; the text to its end; fault and lay -/
section TA
variable {V : Vw} {s d N : Nat} {b : Bool} {L : Nat → Nat}
theorem RowV.addG {row : Nat → Int32} (hV : RowV row V) (hn : vN V ≤ 16) (hl : (vL V).length ≤ 16) (hs : ∀ c, c < vN V → vSiz V c ≤ 4) : RowV (upd row 177 (nI (vG V + 1))) (vAddG V) := by
  obtain ⟨a1, a2, a3, a4, a5⟩ := hV
  refine ⟨by rw [pk_un (by omega)]; exact a1, by rw [pk_us]; rfl, by rw [pk_un (by omega)]; exact a3, fun i hi => by replace hi : i < (vL V).length := hi; rw [pk_un (by omega)]; exact a4 i hi, fun c hc => ?_⟩
  replace hc : c < vN V := hc
  obtain ⟨b1, b2', b3, b4, b5, b6, b7⟩ := a5 c hc
  have h4 := hs c hc
  exact ⟨by rw [pk_un (by omega)]; exact b1, by rw [pk_un (by omega)]; exact b2', by rw [pk_un (by omega)]; exact b3, by rw [pk_un (by omega)]; exact b4, by rw [pk_un (by omega)]; exact b5, by rw [pk_un (by omega)]; exact b6, fun j hj => by replace hj : j < vSiz V c := hj; rw [pk_un (by omega)]; exact b7 j hj⟩
theorem ModV.addG {a : Nat → Int32} (hV : ModV a V) : ModV (upd a 1 (nI (vG V + 1))) (vAddG V) := by
  obtain ⟨a1, a2, a5⟩ := hV
  refine ⟨by rw [pk_un (by omega)]; exact a1, by rw [pk_us]; rfl, fun c hc => ?_⟩
  replace hc : c < vN V := hc
  obtain ⟨b1, b2', b3, b4, b5, b6, b7⟩ := a5 c hc
  exact ⟨by rw [pk_un (by omega)]; exact b1, by rw [pk_un (by omega)]; exact b2', by rw [pk_un (by omega)]; exact b3, by rw [pk_un (by omega)]; exact b4, by rw [pk_un (by omega)]; exact b5, by rw [pk_un (by omega)]; exact b6, fun j hj => by replace hj : j < vSiz V c := hj; rw [pk_un (by omega)]; exact b7 j hj⟩
theorem lk_group (hP : PI V 0 d b L) (a : Int32) : LK V 0 d b L (fun h => fX1_takes N h a) (fun h => fX5_takes N h a) := by
  have hb := hP.1
  have hd0 : d = 0 := hb.2.2.2.2.1 rfl
  have fC : ∀ h, RC h V 0 d b L → fX1_takes N h a = (if a = 91 then ((fX1_opensGroup h).bind fun z9 => (if z9.1 = 0 then (some (0, z9.2)) else (some (1, z9.2)))) else (some (0, h))) := fun h hR => by
    unfold fX1_takes
    rw [show h 2 2 = 0 from hR.2.1, if_pos rfl]
  have fM : ∀ h, RM h V 0 d b L → fX5_takes N h a = ((fX5_takesGroup h a).bind fun z7 => (if z7.1 = 0 ∨ z7.1 = 1 then (some (z7.1, z7.2)) else none)) := fun h hR => by
    unfold fX5_takes
    rw [show h 22 8 = 0 from hR.2.1, if_pos rfl]
  by_cases c : a = 91
  · by_cases hg : vG V < 5
    · refine Or.inl ⟨_, _, _, _, _, hP.grp hg, fun h hR => ?_, fun h hR => ?_⟩
      · obtain ⟨r1, r2, r3, r4, r5⟩ := id hR
        refine ⟨hset (hset (hset h 4 177 (nI (vG V + 1))) 2 4 0) 2 2 1, ?_, ⟨by rw [hset_o (by decide), hset_o (by decide), hset_s]; exact r1.addG (by omega) (by have := hP.ll; omega) hP.sz, by rw [hset_s, pk_us]; rfl, by rw [hset_s, pk_un (by decide), hset_s, pk_un (by decide), hset_o (by decide), r3, hd0], by rw [hset_s, pk_un (by decide), hset_s, pk_us]; rfl, fun e he => by unfold kk at he; rw [if_pos (by omega)] at he; omega⟩, fun q q2 q4 q5 => by rw [hset_o q2, hset_o q2, hset_o q4]⟩
        show fX1_takes N h a = _
        rw [fC h hR, if_pos c]
        unfold fX1_opensGroup fX0_addGroup
        rw [q_groups r1, if_pos (show nI (vG V) < (5 : Int32) from nI_lt (b := 5) hg (by omega)), nI_1, show putF h 4 179 177 (nI (vG V + 1)) = hset h 4 177 (nI (vG V + 1)) from put_nI (j := 177) (by omega) (by omega)]
        rfl
      · obtain ⟨r1, r2, r34, r5⟩ := id hR
        refine ⟨hset (hset (hset (hset h 27 1 (nI (vG V + 1))) 22 10 0) 22 9 0) 22 8 1, ?_, ⟨by rw [hset_o (by decide), hset_o (by decide), hset_o (by decide), hset_s]; exact r1.addG, by rw [hset_s, pk_us]; rfl, fun _ => ⟨by rw [hset_s, pk_un (by decide), hset_s, pk_us]; rfl, by rw [hset_s, pk_un (by decide), hset_s, pk_un (by decide), hset_s, pk_us]; rfl⟩, fun e he => by unfold kk at he; rw [if_pos (by omega)] at he; omega⟩, fun q q2 q4 q5 => by rw [hset_o q2, hset_o q2, hset_o q2, hset_o q4], fun i h8 h9 h10 => by rw [hset_s, pk_un h8, hset_s, pk_un h9, hset_s, pk_un h10, hset_o (by decide)]⟩
        show fX5_takes N h a = _
        rw [fM h hR]
        unfold fX5_takesGroup fX5_goesTo
        rw [if_pos c, r1.2.1, if_neg (show ¬ nI (vG V) = (5 : Int32) from ne_lit (b := 5) (by omega) (by omega) (by omega)), nI_1]
        rfl
    · refine Or.inr ⟨fun h hR => ?_, fun h hR => ?_⟩
      · show fX1_takes N h a = _
        rw [fC h hR, if_pos c]
        unfold fX1_opensGroup
        rw [q_groups hR.1, if_neg (show ¬ nI (vG V) < (5 : Int32) from nlt_lit (b := 5) (by omega) (by omega) hg)]
        rfl
      · show fX5_takes N h a = _
        rw [fM h hR]
        unfold fX5_takesGroup
        rw [if_pos c, hR.1.2.1, if_pos (show nI (vG V) = (5 : Int32) by rw [show vG V = 5 by omega]; rfl)]
        rfl
  · refine Or.inr ⟨fun h hR => ?_, fun h hR => ?_⟩
    · show fX1_takes N h a = _
      rw [fC h hR, if_neg c]
    · show fX5_takes N h a = _
      rw [fM h hR]
      unfold fX5_takesGroup
      rw [if_neg c]
      rfl
theorem lk_takes (hP : PI V s d b L) (hN : 70000 ≤ N) (a : Int32) : LK V s d b L (fun h => fX1_takes N h a) (fun h => fX5_takes N h a) := by
  have hs6 := hP.1.2.2.2.1
  have cases7 : s = 0 ∨ s = 1 ∨ s = 2 ∨ s = 3 ∨ s = 4 ∨ s = 5 ∨ s = 6 := by omega
  rcases cases7 with rfl | rfl | rfl | rfl | rfl | rfl | rfl
  · exact lk_group hP a
  · refine (lk_cord hP (Or.inl rfl) a).wr wr_ok wr_01 (fun h hR => ?_) (fun h hR => ?_)
    · unfold fX1_takes
      rw [show h 2 2 = 1 from hR.2.1, if_neg n10, if_pos rfl]
    · unfold fX5_takes
      rw [show h 22 8 = 1 from hR.2.1, if_neg n10, if_pos rfl]
      split
      · rfl
      · split <;> rfl
  · refine (lk_knots hP (Or.inl rfl) hN a).wr wr_ok wr_ok (fun h hR => ?_) (fun h hR => ?_)
    · unfold fX1_takes
      rw [show h 2 2 = 2 from hR.2.1, if_neg (by decide), if_neg (by decide), if_pos rfl]
    · unfold fX5_takes
      rw [show h 22 8 = 2 from hR.2.1, if_neg (by decide), if_neg (by decide), if_pos rfl]
  · have fC : ∀ h, RC h V 3 d b L → fX1_takes N h a = ((fX1_endsCluster N h 1 (a - 48)).bind fun z6 => (if z6.1 = 0 ∨ z6.1 = 1 then (some (z6.1, z6.2)) else none)) := fun h hR => by
      unfold fX1_takes
      rw [show h 2 2 = 3 from hR.2.1, if_neg (by decide), if_neg (by decide), if_neg (by decide), if_pos rfl]
    have fM : ∀ h, RM h V 3 d b L → fX5_takes N h a = (if (fX5_in h (a).toInt64 49 57) = 0 then (some (0, h)) else ((fX5_takesCluster N h ((10 + a) - 48)).bind fun z2 => (if z2.1 = 0 then (some (0, z2.2)) else (some (1, z2.2))))) := fun h hR => by
      unfold fX5_takes
      rw [show h 22 8 = 5 from hR.2.1, if_neg (by decide), if_neg (by decide), if_neg (by decide), if_neg (by decide), if_neg (by decide), if_pos rfl]
    rcases dg_cases a with ⟨j, hj, rfl⟩ | hno
    · by_cases h1 : 1 ≤ j
      · refine (lk_clu hP (by omega) (hP.2.2.2.1 (Or.inl rfl)) hN (v := 10 + j) (Or.inr (Or.inl (by omega))) (k := 1) (n := nI j) (fun h => by rw [cc_1 h hj, if_pos h1]) (by rw [show (10 : Int32) * 1 = nI 10 from rfl, nI_add]) (x := 10 + nI (48 + j) - 48) (by rw [show (10 : Int32) = nI 10 from rfl, show (48 : Int32) = nI 48 from rfl, nI_add, pk_sub (by omega)]; congr 1; omega)).wr wr_ok wr_01 (fun h hR => by rw [fC h hR, dg_sub]) (fun h hR => by rw [fM h hR, in_dg h (l := 1) (by omega) hj (lo := 49) rfl, if_pos h1, if_neg n10])
      · refine Or.inr ⟨fun h hR => ?_, fun h hR => ?_⟩
        · show fX1_takes N h _ = _
          rw [fC h hR, dg_sub]
          unfold fX1_endsCluster
          rw [cc_1 h hj, if_neg h1, if_pos rfl]
          rfl
        · show fX5_takes N h _ = _
          rw [fM h hR, in_dg h (l := 1) (by omega) hj (lo := 49) rfl, if_neg h1, if_pos rfl]
    · refine Or.inr ⟨fun h hR => ?_, fun h hR => ?_⟩
      · show fX1_takes N h _ = _
        rw [fC h hR]
        unfold fX1_endsCluster
        rw [(cc_no h hno).1, if_pos rfl]
        rfl
      · show fX5_takes N h _ = _
        rw [fM h hR, in_ndg h hno (l := 1) (lo := 49) rfl, if_pos rfl]
  · have fC : ∀ h, RC h V 4 d b L → fX1_takes N h a = ((fX1_endsCluster N h 2 (a - 48)).bind fun z5 => (if z5.1 = 0 ∨ z5.1 = 1 then (some (z5.1, z5.2)) else none)) := fun h hR => by
      unfold fX1_takes
      rw [show h 2 2 = 4 from hR.2.1, if_neg (by decide), if_neg (by decide), if_neg (by decide), if_neg (by decide), if_pos rfl]
    have fM : ∀ h, RM h V 4 d b L → fX5_takes N h a = (if (fX5_in h (a).toInt64 50 57) = 0 then (some (0, h)) else ((fX5_takesCluster N h ((20 + a) - 48)).bind fun z1 => (if z1.1 = 0 then (some (0, z1.2)) else (some (1, z1.2))))) := fun h hR => by
      unfold fX5_takes
      rw [show h 22 8 = 6 from hR.2.1, if_neg (by decide), if_neg (by decide), if_neg (by decide), if_neg (by decide), if_neg (by decide), if_neg (by decide)]
    rcases dg_cases a with ⟨j, hj, rfl⟩ | hno
    · by_cases h1 : 2 ≤ j
      · refine (lk_clu hP (by omega) (hP.2.2.2.1 (Or.inr rfl)) hN (v := 20 + j) (Or.inr (Or.inr (Or.inl (by omega)))) (k := 2) (n := nI j) (fun h => by rw [cc_2 h hj, if_pos h1]) (by rw [show (10 : Int32) * 2 = nI 20 from rfl, nI_add]) (x := 20 + nI (48 + j) - 48) (by rw [show (20 : Int32) = nI 20 from rfl, show (48 : Int32) = nI 48 from rfl, nI_add, pk_sub (by omega)]; congr 1; omega)).wr wr_ok wr_01 (fun h hR => by rw [fC h hR, dg_sub]) (fun h hR => by rw [fM h hR, in_dg h (l := 2) (by omega) hj (lo := 50) rfl, if_pos h1, if_neg n10])
      · refine Or.inr ⟨fun h hR => ?_, fun h hR => ?_⟩
        · show fX1_takes N h _ = _
          rw [fC h hR, dg_sub]
          unfold fX1_endsCluster
          rw [cc_2 h hj, if_neg h1, if_pos rfl]
          rfl
        · show fX5_takes N h _ = _
          rw [fM h hR, in_dg h (l := 2) (by omega) hj (lo := 50) rfl, if_neg h1, if_pos rfl]
    · refine Or.inr ⟨fun h hR => ?_, fun h hR => ?_⟩
      · show fX1_takes N h _ = _
        rw [fC h hR]
        unfold fX1_endsCluster
        rw [(cc_no h hno).2, if_pos rfl]
        rfl
      · show fX5_takes N h _ = _
        rw [fM h hR, in_ndg h hno (l := 2) (lo := 50) rfl, if_pos rfl]
  · -- in clusters
    have fC : ∀ h, RC h V 5 d b L → fX1_takes N h a = ((fX1_opensCluster N h a).bind fun z2 => (if z2.1 = 0 then ((fX1_opensHanging z2.2 a).bind fun z3 => (if z3.1 = 0 then ((fX1_comesBehindCord z3.2 a).bind fun z4 => (if z4.1 = 0 then (some (0, z4.2)) else (some (1, z4.2)))) else (some (1, z3.2)))) else (some (1, z2.2)))) := fun h hR => by
      unfold fX1_takes
      rw [show h 2 2 = 5 from hR.2.1, if_neg (by decide), if_neg (by decide), if_neg (by decide), if_neg (by decide), if_neg (by decide), if_pos rfl]
    have fM : ∀ h, RM h V 5 d b L → fX5_takes N h a = (if a = 46 then (fX5_takes_J114 N a h) else (if (fX5_in h (a).toInt64 97 122) = 0 then ((fX5_takesBehind h a).bind fun z4 => (if z4.1 = 0 ∨ z4.1 = 1 then (some (z4.1, z4.2)) else none)) else (fX5_takes_J114 N a h))) := fun h hR => by
      unfold fX5_takes
      rw [show h 22 8 = 3 from hR.2.1, if_neg (by decide), if_neg (by decide), if_neg (by decide), if_pos rfl]
    have t97 : (97 : Int64).toInt = 97 := rfl
    have t122 : (122 : Int64).toInt = 122 := rfl
    have hd2 := hP.1.2.2.1
    -- the class's opensCluster leaves other letters
    have skipC : (¬ a = 46 ∧ ¬ a = 101 ∧ ¬ a = 108 ∧ ¬ a = 115) → ∀ h, fX1_opensCluster N h a = some (0, h) := fun hq h => by
      unfold fX1_opensCluster
      split
      · rw [if_neg hq.1, if_neg hq.2.1, if_neg hq.2.2.1, if_neg hq.2.2.2]
      · rfl
    have skipH : ¬ a = 40 → ∀ h, fX1_opensHanging h a = some (0, h) := fun hq h => by
      unfold fX1_opensHanging
      rw [if_neg hq]
    by_cases hk : a = 46 ∨ (97 ≤ a.toInt ∧ a.toInt ≤ 122)
    · -- a cluster's letter, or another small one
      have hJ : ∀ h, RM h V 5 d b L → fX5_takes N h a = ((fX5_takesKnots N h a).bind fun z8 => (if z8.1 = 0 ∨ z8.1 = 1 then (some (z8.1, z8.2)) else none)) := fun h hR => by
        rw [fM h hR]
        by_cases c46 : a = 46
        · rw [if_pos c46]; rfl
        · have hr := hk.elim (fun q => absurd q c46) id
          rw [if_neg c46, in_yes h (by rw [Int32.toInt_toInt64, t97]; omega) (by rw [Int32.toInt_toInt64, t122]; omega), if_neg n10]; rfl
      have hno : ∀ j, j < 10 → a ≠ nI (48 + j) := fun j hj e => by
        rcases hk with q | q
        · rw [q] at e
          have := (nI_eq (a := 46) (b := 48 + j) (by omega) (by omega)).mp e
          omega
        · rw [e, nI_toInt (by omega)] at q
          omega
      have ne : ∀ x : Nat, x < 97 → x ≠ 46 → ¬ a = nI x := fun x hx hx2 e => by
        rcases hk with q | q
        · rw [q] at e
          have := (nI_eq (a := 46) (b := x) (by omega) (by omega)).mp e
          omega
        · rw [e, nI_toInt (by omega)] at q
          omega
      have h40 : ¬ a = 40 := ne 40 (by omega) (by omega)
      have hbeh : ∀ h, RC h V 5 d b L → fX1_comesBehindCord h a = some (0, h) := fun h hR => by
        unfold fX1_comesBehindCord
        rw [hR.2.2.1, hR.2.2.2.1, te_eq b hd2]
        unfold fX1_comesBehindCord_J19 fX1_comesBehindCord_J51 fX1_comesBehindCord_J80 fX1_comesBehindCord_J100
        rw [if_neg (show ¬ a = 41 from ne 41 (by omega) (by omega)), if_neg (show ¬ a = 94 from ne 94 (by omega) (by omega)), if_neg (show ¬ a = 93 from ne 93 (by omega) (by omega)), b2_01]
        split
        · rfl
        · unfold fX1_opensCord
          rw [isC_no h hno, if_pos rfl]
          rfl
      have hL := lk_knots hP (Or.inr rfl) hN a
      rcases hL with ⟨V', s', d', b', L', p1, p2, p3⟩ | ⟨p2, p3⟩
      · refine Or.inl ⟨V', s', d', b', L', p1, fun h hR => ?_, fun h hR => ?_⟩
        · obtain ⟨h', q1, q2⟩ := p2 h hR
          refine ⟨h', ?_, q2⟩
          show fX1_takes N h a = _
          rw [fC h hR, show fX1_opensCluster N h a = some (1, h') from q1]
          rfl
        · obtain ⟨h', q1, q2⟩ := p3 h hR
          refine ⟨h', ?_, q2⟩
          show fX5_takes N h a = _
          rw [hJ h hR, show fX5_takesKnots N h a = some (1, h') from q1]
          rfl
      · refine Or.inr ⟨fun h hR => ?_, fun h hR => ?_⟩
        · show fX1_takes N h a = _
          rw [fC h hR, show fX1_opensCluster N h a = some (0, h) from p2 h hR, Option.bind_some, if_pos rfl]
          show (fX1_opensHanging h a).bind _ = _
          rw [skipH h40 h, Option.bind_some, if_pos rfl]
          show (fX1_comesBehindCord h a).bind _ = _
          rw [hbeh h hR]
          rfl
        · show fX5_takes N h a = _
          rw [hJ h hR, show fX5_takesKnots N h a = some (0, h) from p3 h hR]
          rfl
    · have c46 : ¬ a = 46 := fun q => hk (Or.inl q)
      have n97 : ∀ x : Nat, 97 ≤ x → x ≤ 122 → ¬ a = nI x := fun x h1 h2 e => hk (Or.inr (by rw [e, nI_toInt (by omega)]; omega))
      have hsk : ¬ a = 46 ∧ ¬ a = 101 ∧ ¬ a = 108 ∧ ¬ a = 115 := ⟨c46, n97 101 (by omega) (by omega), n97 108 (by omega) (by omega), n97 115 (by omega) (by omega)⟩
      have fC2 : ∀ h, RC h V 5 d b L → fX1_takes N h a = ((fX1_opensHanging h a).bind fun z3 => (if z3.1 = 0 then ((fX1_comesBehindCord z3.2 a).bind fun z4 => (if z4.1 = 0 then (some (0, z4.2)) else (some (1, z4.2)))) else (some (1, z3.2)))) := fun h hR => by
        rw [fC h hR, skipC hsk h, Option.bind_some, if_pos rfl]
      have fM2 : ∀ h, RM h V 5 d b L → fX5_takes N h a = ((fX5_takesBehind h a).bind fun z4 => (if z4.1 = 0 ∨ z4.1 = 1 then (some (z4.1, z4.2)) else none)) := fun h hR => by
        rw [fM h hR, if_neg c46, in_no h (by rw [Int32.toInt_toInt64, t97, t122]; omega), if_pos rfl]
      by_cases c40 : a = 40
      · have hno := ndg_of (x := 40) (by omega) (by omega) c40
        by_cases hd : d < 2
        · have hP' : PI V 1 (d + 1) b L := hP.st (by omega) (by omega) (fun q => by omega) (by omega) (fun q => by omega) (fun q => by omega) (fun q => by omega) (fun q => by omega) (fun c hc tc hg => ⟨(hP.tops c hc tc hg).1, by omega⟩) (by unfold kk; rw [if_pos (by omega), if_neg (by omega)]; exact Nat.le_refl _)
          have hk1 : kk 1 (d + 1) = kk 5 d := by unfold kk; rw [if_pos (by omega), if_neg (by omega)]
          refine Or.inl ⟨_, _, _, _, _, hP', fun h hR => ?_, fun h hR => ?_⟩
          · obtain ⟨r1, r2, r3, r4, r5⟩ := id hR
            refine ⟨hset (hset h 2 3 (nI (d + 1))) 2 2 1, ?_, ⟨by rw [hset_o (by decide), hset_o (by decide)]; exact r1, by rw [hset_s, pk_us]; rfl, by rw [hset_s, pk_un (by decide), hset_s, pk_us], by rw [hset_s, pk_un (by decide), hset_s, pk_un (by decide)]; exact r4, fun e he => by rw [hset_o (by decide), hset_o (by decide)]; exact r5 e (by omega)⟩, fun q q2 q4 q5 => by rw [hset_o q2, hset_o q2]⟩
            show fX1_takes N h a = _
            rw [fC2 h hR]
            unfold fX1_opensHanging
            rw [if_pos c40, r3, if_pos (show nI d < (2 : Int32) from nI_lt (b := 2) hd (by omega)), nI_1]
            rfl
          · obtain ⟨r1, r2, r34, r5⟩ := id hR
            obtain ⟨r3, r4⟩ := r34 (by omega)
            refine ⟨hset (hset h 22 9 (nI (d + 1))) 22 8 1, ?_, ⟨by rw [hset_o (by decide), hset_o (by decide)]; exact r1, by rw [hset_s, pk_us]; rfl, fun _ => ⟨by rw [hset_s, pk_un (by decide), hset_s, pk_us], by rw [hset_s, pk_un (by decide), hset_s, pk_un (by decide)]; exact r4⟩, fun e he => by rw [hset_o (by decide), hset_o (by decide)]; exact r5 e (by omega)⟩, fun q q2 q4 q5 => by rw [hset_o q2, hset_o q2], fun i h8 h9 h10 => by rw [hset_s, pk_un h8, hset_s, pk_un h9]⟩
            show fX5_takes N h a = _
            rw [fM2 h hR]
            unfold fX5_takesBehind fX5_takesBehind_J12 fX5_goesTo
            rw [if_pos c40, show h 22 8 = 3 from r2, if_neg (by decide), r3, if_neg (show ¬ nI d = (2 : Int32) from ne_lit (b := 2) (by omega) (by omega) (by omega)), nI_1]
            rfl
        · refine Or.inr ⟨fun h hR => ?_, fun h hR => ?_⟩
          · show fX1_takes N h a = _
            rw [fC2 h hR]
            unfold fX1_opensHanging
            rw [if_pos c40, hR.2.2.1, if_neg (show ¬ nI d < (2 : Int32) from nlt_lit (b := 2) (by omega) (by omega) hd), Option.bind_some, if_pos rfl]
            show (fX1_comesBehindCord h a).bind _ = _
            unfold fX1_comesBehindCord
            rw [hR.2.2.1, hR.2.2.2.1, te_eq b hd2]
            unfold fX1_comesBehindCord_J19 fX1_comesBehindCord_J51 fX1_comesBehindCord_J80 fX1_comesBehindCord_J100
            rw [if_neg (show ¬ a = 41 by rw [c40]; decide), if_neg (show ¬ a = 94 by rw [c40]; decide), if_neg (show ¬ a = 93 by rw [c40]; decide), b2_01]
            split
            · rfl
            · unfold fX1_opensCord
              rw [isC_no h hno, if_pos rfl]
              rfl
          · show fX5_takes N h a = _
            rw [fM2 h hR]
            unfold fX5_takesBehind fX5_takesBehind_J12
            rw [if_pos c40, show h 22 8 = 3 from hR.2.1, if_neg (by decide), (hR.2.2.1 (by omega)).1, if_pos (show nI d = (2 : Int32) by rw [show d = 2 by omega]; rfl)]
            rfl
      · exact (lk_behind hP (Or.inl rfl) a (Or.inr c40)).wr wr_01 wr_ok (fun h hR => by rw [fC2 h hR, skipH c40 h, Option.bind_some, if_pos rfl]) (fun h hR => fM2 h hR)
  · refine (lk_behind hP (Or.inr rfl) a (Or.inl rfl)).wr wr_ok wr_ok (fun h hR => ?_) (fun h hR => ?_)
    · unfold fX1_takes
      rw [show h 2 2 = 6 from hR.2.1, if_neg (by decide), if_neg (by decide), if_neg (by decide), if_neg (by decide), if_neg (by decide), if_neg (by decide)]
    · unfold fX5_takes
      rw [show h 22 8 = 4 from hR.2.1, if_neg (by decide), if_neg (by decide), if_neg (by decide), if_neg (by decide), if_pos rfl]
theorem FrC.trans {a b c : Hp} (h1 : FrC a b) (h2 : FrC b c) : FrC a c := fun q q2 q4 q5 => by rw [h1 q q2 q4 q5, h2 q q2 q4 q5]
theorem FrM.trans {a b c : Hp} (h1 : FrM a b) (h2 : FrM b c) : FrM a c := ⟨fun q q2 q4 q5 => by rw [h1.1 q q2 q4 q5, h2.1 q q2 q4 q5], fun i h8 h9 h10 => by rw [h1.2 i h8 h9 h10, h2.2 i h8 h9 h10]⟩
theorem read_L (hN : 70000 ≤ N) {m : Nat} (hm : m ≤ 200) {lt : Nat → Int32} : ∀ (k i : Nat) (V : Vw) (s d : Nat) (b : Bool) (L : Nat → Nat), i + k = m → PI V s d b L → ∃ (v : Int32) (W : Vw), (v = -4 → Wf 0 W) ∧ (∀ (h : Hp) (fuel : Nat), k < fuel → RC h V s d b L → (∀ j, j < m → h 1 j = lt j) → ∃ h', fX1_read_L24 N 1 200 (nI m) fuel (nI i) h = some (v, h') ∧ FrC h' h ∧ (v = -4 → RowV (h' 4) W)) ∧ (∀ (h : Hp) (fuel : Nat), k < fuel → RM h V s d b L → h 22 6 = nI m → (∀ j, j < m → h 26 j = lt j) → ∃ h', fX5_fault_L29 N fuel (nI i) h = some (v, h') ∧ FrM h' h ∧ (v = -4 → ModV (h' 27) W)) := by
  intro k
  induction k with
  | zero =>
    intro i V s d b L hi hP
    have hs6 := hP.1.2.2.2.1
    by_cases hs : s = 0
    · subst hs
      refine ⟨-4, V, fun _ => hP.wf, fun h fuel hf hR hl => ?_, fun h fuel hf hR h6 hl => ?_⟩
      · obtain ⟨fuel, rfl⟩ : ∃ f, fuel = f + 1 := ⟨fuel - 1, by omega⟩
        refine ⟨h, ?_, FrC.rf h, fun _ => hR.1⟩
        rw [fX1_read_L24, if_neg (nI_nlt (by omega) (by omega))]
        unfold fX1_read_J53
        rw [show h 2 2 = 0 from hR.2.1, if_pos rfl]
      · obtain ⟨fuel, rfl⟩ : ∃ f, fuel = f + 1 := ⟨fuel - 1, by omega⟩
        refine ⟨h, ?_, FrM.rf h, fun _ => hR.1⟩
        rw [fX5_fault_L29, h6, if_neg (nI_nlt (by omega) (by omega)), show h 22 8 = 0 from hR.2.1, if_pos rfl]
    · refine ⟨nI m, V, fun q => absurd q (encP_ne (by omega)), fun h fuel hf hR hl => ?_, fun h fuel hf hR h6 hl => ?_⟩
      · obtain ⟨fuel, rfl⟩ : ∃ f, fuel = f + 1 := ⟨fuel - 1, by omega⟩
        refine ⟨h, ?_, FrC.rf h, fun q => absurd q (encP_ne (by omega))⟩
        rw [fX1_read_L24, if_neg (nI_nlt (by omega) (by omega))]
        unfold fX1_read_J53
        rw [hR.2.1, if_neg (show ¬ nI s = (0 : Int32) from ne_lit (b := 0) (by omega) (by omega) hs)]
      · obtain ⟨fuel, rfl⟩ : ∃ f, fuel = f + 1 := ⟨fuel - 1, by omega⟩
        refine ⟨h, ?_, FrM.rf h, fun q => absurd q (encP_ne (by omega))⟩
        have hr : rm s < 7 ∧ ¬ rm s = 0 := by unfold rm; split <;> (try split) <;> (try split) <;> (try split) <;> omega
        rw [fX5_fault_L29, h6, if_neg (nI_nlt (by omega) (by omega)), hR.2.1, if_neg (show ¬ nI (rm s) = (0 : Int32) from ne_lit (b := 0) (by omega) (by omega) hr.2)]
  | succ k ih =>
    intro i V s d b L hi hP
    rcases lk_takes hP hN (lt i) with ⟨V', s', d', b', L', p1, p2, p3⟩ | ⟨p2, p3⟩
    · obtain ⟨v, W, w1, w2, w3⟩ := ih (i + 1) V' s' d' b' L' (by omega) p1
      refine ⟨v, W, w1, fun h fuel hf hR hl => ?_, fun h fuel hf hR h6 hl => ?_⟩
      · obtain ⟨fuel, rfl⟩ : ∃ f, fuel = f + 1 := ⟨fuel - 1, by omega⟩
        obtain ⟨h1, q1, q2, q3⟩ := p2 h hR
        obtain ⟨h', y1, y2, y3⟩ := w2 h1 fuel (by omega) q2 (fun j hj => by rw [q3 1 (by decide) (by decide) (by decide)]; exact hl j hj)
        refine ⟨h', ?_, y2.trans q3, y3⟩
        rw [fX1_read_L24, if_pos (nI_lt (by omega) (by omega)), if_pos (show nI i < Int32.ofNat 200 from nI_lt (b := 200) (by omega) (by omega)), rd_nI (by omega) (by omega), hl i (by omega), Option.bind_some, show fX1_takes N h (lt i) = some (1, h1) from q1, Option.bind_some, if_neg n10, nI_1]
        exact y1
      · obtain ⟨fuel, rfl⟩ : ∃ f, fuel = f + 1 := ⟨fuel - 1, by omega⟩
        obtain ⟨h1, q1, q2, q3⟩ := p3 h hR
        obtain ⟨h', y1, y2, y3⟩ := w3 h1 fuel (by omega) q2 (by rw [q3.2 6 (by decide) (by decide) (by decide)]; exact h6) (fun j hj => by rw [q3.1 26 (by decide) (by decide) (by decide)]; exact hl j hj)
        refine ⟨h', ?_, y2.trans q3, y3⟩
        rw [fX5_fault_L29, h6, if_pos (nI_lt (by omega) (by omega)), rd_nI (by omega) (by omega), hl i (by omega), Option.bind_some, show fX5_takes N h (lt i) = some (1, h1) from q1, Option.bind_some, if_neg n10, nI_1]
        exact y1
    · refine ⟨nI i, V, fun q => absurd q (encP_ne (by omega)), fun h fuel hf hR hl => ?_, fun h fuel hf hR h6 hl => ?_⟩
      · obtain ⟨fuel, rfl⟩ : ∃ f, fuel = f + 1 := ⟨fuel - 1, by omega⟩
        refine ⟨h, ?_, FrC.rf h, fun q => absurd q (encP_ne (by omega))⟩
        rw [fX1_read_L24, if_pos (nI_lt (by omega) (by omega)), if_pos (show nI i < Int32.ofNat 200 from nI_lt (b := 200) (by omega) (by omega)), rd_nI (by omega) (by omega), hl i (by omega), Option.bind_some, show fX1_takes N h (lt i) = some (0, h) from p2 h hR, Option.bind_some, if_pos rfl]
      · obtain ⟨fuel, rfl⟩ : ∃ f, fuel = f + 1 := ⟨fuel - 1, by omega⟩
        refine ⟨h, ?_, FrM.rf h, fun q => absurd q (encP_ne (by omega))⟩
        rw [fX5_fault_L29, h6, if_pos (nI_lt (by omega) (by omega)), rd_nI (by omega) (by omega), hl i (by omega), Option.bind_some, show fX5_takes N h (lt i) = some (0, h) from p3 h hR, Option.bind_some, if_pos rfl]
end TA
