/-! a change: the bundle laid aside on both sides, then the change itself in the bundle's cells only -/
theorem put_nI {h : Hp} {q n j : Nat} {v : Int32} (hj : j < n) (hn : n < 2 ^ 31) : putF h q n (nI j) v = hset h q j v := by
  unfold putF
  rw [if_neg (nI_pos (by omega)), if_pos (show nI j < Int32.ofNat n from nI_lt hj hn), nI_clamp (by omega)]
theorem RR_change {k : Nat} {h ha0 ha hb0 hb : Hp} (hR : RR k h) {u : Nat} (hu : u ≤ 8) (uC : h 8 2 = nI u) (uM : h 22 2 = nI u)
    (a1 : ∀ q, q ≠ 8 → q ≠ 9 → ha0 q = h q) (a2 : ∀ i, i ≠ 2 → ha0 8 i = h 8 i) (a3 : ha0 8 2 = nI (nx u)) (a4 : ∀ i, i < 179 → ha0 9 (179 * (nx u - 1) + i) = h 7 i) (a5 : ∀ j i, i < 179 → j + 1 < nx u → ha0 9 (179 * j + i) = h 9 (179 * (j + sf u) + i))
    (c1 : ∀ q, q ≠ 7 → ha q = ha0 q)
    (b1 : ∀ q, q ≠ 22 → q ≠ 24 → hb0 q = ha q) (b2 : ∀ i, i ≠ 2 → hb0 22 i = ha 22 i) (b3 : hb0 22 2 = nI (nx u)) (b4 : ∀ i, i < 162 → hb0 24 (162 * (nx u - 1) + i) = ha 23 i) (b5 : ∀ j i, i < 162 → j + 1 < nx u → hb0 24 (162 * j + i) = ha 24 (162 * (j + sf u) + i))
    (d1 : ∀ q, q ≠ 23 → hb q = hb0 q) (hB' : BR (k + 1) (ha 7) (hb 23)) : RR (k + 1) hb := by
  obtain ⟨hT, hD, hB, ⟨u', hu', v1, v2, v3⟩, hK⟩ := RR_mono k h hR
  have huu : u' = u := by
    have e : nI u' = nI u := by rw [← v1, uC]
    exact (nI_eq (by omega) (by omega)).mp e
  subst huu
  have o : ∀ q, q ≠ 7 → q ≠ 8 → q ≠ 9 → q ≠ 22 → q ≠ 23 → q ≠ 24 → hb q = h q := fun q q1 q2 q3 q4 q5 q6 => by rw [d1 q q5, b1 q q4 q6, c1 q q1, a1 q q2 q3]
  have o8 : hb 8 = ha0 8 := by rw [d1 8 (by decide), b1 8 (by decide) (by decide), c1 8 (by decide)]
  have o9 : hb 9 = ha0 9 := by rw [d1 9 (by decide), b1 9 (by decide) (by decide), c1 9 (by decide)]
  have o22 : hb 22 = hb0 22 := d1 22 (by decide)
  have o24 : hb 24 = hb0 24 := d1 24 (by decide)
  have p22 : ∀ i, i ≠ 2 → hb 22 i = h 22 i := fun i hi => by rw [o22, b2 i hi, c1 22 (by decide), a1 22 (by decide) (by decide)]
  have p23 : ha 23 = h 23 := by rw [c1 23 (by decide), a1 23 (by decide) (by decide)]
  have p24 : ha 24 = h 24 := by rw [c1 24 (by decide), a1 24 (by decide) (by decide)]
  have o7 : hb 7 = ha 7 := by rw [d1 7 (by decide), b1 7 (by decide) (by decide)]
  have hnx : nx u' ≤ 8 ∧ 1 ≤ nx u' := by unfold nx; split <;> omega
  refine ⟨TX_frame hT (o 0 (by decide) (by decide) (by decide) (by decide) (by decide) (by decide)) (o 1 (by decide) (by decide) (by decide) (by decide) (by decide) (by decide)) (o 26 (by decide) (by decide) (by decide) (by decide) (by decide) (by decide)) (p22 6 (by decide)), DY_frame hD (by rw [o8, a2 0 (by decide)]) (by rw [o 10 (by decide) (by decide) (by decide) (by decide) (by decide) (by decide)]) (by rw [o 12 (by decide) (by decide) (by decide) (by decide) (by decide) (by decide)]) (by rw [o 12 (by decide) (by decide) (by decide) (by decide) (by decide) (by decide)]), by rw [o7]; exact hB', ⟨nx u', hnx.1, by rw [o8, a3], by rw [o22, b3], fun j hj => ?_⟩, KE_frame hK (by rw [o 10 (by decide) (by decide) (by decide) (by decide) (by decide) (by decide)]) (p22 4 (by decide)) (o 11 (by decide) (by decide) (by decide) (by decide) (by decide) (by decide)) (o 25 (by decide) (by decide) (by decide) (by decide) (by decide) (by decide))⟩
  rw [o9, o24]
  by_cases hj1 : j + 1 < nx u'
  · refine BR_congr (fun i hi => a5 j i hi hj1) (fun i hi => ?_) (v3 (j + sf u') ?_)
    · show hb0 24 (162 * j + i) = _
      rw [b5 j i hi hj1, p24]
    · unfold nx at hj1
      unfold sf
      split at hj1 <;> rename_i q
      · rw [if_pos q]; omega
      · rw [if_neg q]; omega
  · have hj2 : j = nx u' - 1 := by omega
    subst hj2
    refine BR_congr (fun i hi => a4 i hi) (fun i hi => ?_) hB
    show hb0 24 (162 * (nx u' - 1) + i) = _
    rw [b4 i hi, p23]
def cel (h : Hp) (q : Nat) (f : Nat → Int32) : Hp := fun p => if p = q then f else h p
theorem cel_s {h : Hp} {q : Nat} {f : Nat → Int32} : cel h q f q = f := by simp [cel]
theorem cel_o {h : Hp} {q p : Nat} {f : Nat → Int32} (hp : p ≠ q) : cel h q f p = h p := by simp [cel, hp]
theorem hset_cel {h : Hp} {q i : Nat} {f : Nat → Int32} {v : Int32} : hset (cel h q f) q i v = cel h q (upd f i v) := by
  funext p
  by_cases hp : p = q
  · subst hp; rw [hset_s, cel_s, cel_s]
  · rw [hset_o hp, cel_o hp, cel_o hp]
theorem hset_c {h : Hp} {q i : Nat} {v : Int32} : hset h q i v = cel h q (upd (h q) i v) := by
  funext p
  by_cases hp : p = q
  · subst hp; rw [hset_s, cel_s]
  · rw [hset_o hp, cel_o hp]
theorem cel_id {h : Hp} {q : Nat} : cel h q (h q) = h := by
  funext p
  by_cases hp : p = q
  · subst hp; rw [cel_s]
  · rw [cel_o hp]
theorem change {N k : Nat} {h : Hp} (hN : 70000 ≤ N) (hR : RR k h) : ∃ ha0 : Hp, fX3_add N h 8 9 1432 7 179 = some (0, ha0) ∧ ha0 7 = h 7 ∧ ha0 23 = h 23 ∧ ∀ f : Nat → Int32, ∃ hb0 : Hp, fX5_remember N (cel ha0 7 f) = some (0, hb0) ∧ hb0 23 = h 23 ∧ ∀ g : Nat → Int32, BR (k + 1) f g → RR (k + 1) (cel hb0 23 g) := by
  obtain ⟨hT, hD, hB, ⟨u, hu, u1, u2, u3⟩, hK⟩ := id hR
  obtain ⟨ha0, q1, q2, q3, q4, q5, q6⟩ := add_undone (N := N) (by omega) h hD.1.1 hu u1
  refine ⟨ha0, q1, q2 7 (by decide) (by decide), q2 23 (by decide) (by decide), fun f => ?_⟩
  have e22 : cel ha0 7 f 22 2 = nI u := by rw [cel_o (by decide), q2 22 (by decide) (by decide), u2]
  obtain ⟨hb0, r1, r2, r3, r4, r5, r6⟩ := rem_past (N := N) (by omega) (cel ha0 7 f) hu e22
  refine ⟨hb0, r1, by rw [r2 23 (by decide) (by decide), cel_o (by decide), q2 23 (by decide) (by decide)], fun g hg => ?_⟩
  exact RR_change hR hu u1 u2 q2 q3 q4 q5 q6 (fun q z => cel_o z) r2 r3 r4 r5 r6 (fun q z => cel_o z) (by rw [cel_s, cel_s]; exact hg)
/-- a cord's colour put anew -/
def vDye (V : Vw) (c x : Nat) : Vw := (vN V, vG V, (fun d => if d = c then x else vCol V d), V.2.2.2)
theorem Wf.dye {k : Nat} {V : Vw} (hW : Wf k V) {c x : Nat} (hx : x ≤ 9) : Wf k (vDye V c x) := by
  refine ⟨hW.1, fun d hd => ?_, hW.2.2⟩
  obtain ⟨w1, w2⟩ := hW.2.1 d hd
  refine ⟨?_, w2⟩
  show (if d = c then x else vCol V d) ≤ 9
  split
  · exact hx
  · exact w1
theorem RowV.dye {row : Nat → Int32} {k : Nat} {V : Vw} (hW : Wf k V) (hC : RowV row V) {c x : Nat} (hc : c < vN V) : RowV (upd row c (nI x)) (vDye V c x) := by
  have hn := hW.n
  have hl := L_len hW
  obtain ⟨a1, a2, a3, a4, a5⟩ := hC
  refine ⟨by rw [pk_un (by omega)]; exact a1, by rw [pk_un (by omega)]; exact a2, by rw [pk_un (by omega)]; exact a3, fun i hi => by rw [pk_un (by omega)]; exact a4 i hi, fun d hd => ?_⟩
  replace hd : d < vN V := hd
  obtain ⟨b1, b2, b3, b4, b5, b6, b7⟩ := a5 d hd
  refine ⟨?_, by rw [pk_un (by omega)]; exact b2, by rw [pk_un (by omega)]; exact b3, by rw [pk_un (by omega)]; exact b4, by rw [pk_un (by omega)]; exact b5, by rw [pk_un (by omega)]; exact b6, fun j hj => by rw [pk_un (by omega)]; exact b7 j hj⟩
  show _ = nI (if d = c then x else vCol V d)
  by_cases h1 : d = c
  · subst h1; rw [pk_us, if_pos rfl]
  · rw [pk_un h1, if_neg h1]; exact b1
theorem ModV.dye {a : Nat → Int32} {k : Nat} {V : Vw} (hW : Wf k V) (hM : ModV a V) {c x : Nat} (hc : c < vN V) : ModV (upd a (2 + c) (nI x)) (vDye V c x) := by
  have hn := hW.n
  obtain ⟨a1, a2, a5⟩ := hM
  refine ⟨by rw [pk_un (by omega)]; exact a1, by rw [pk_un (by omega)]; exact a2, fun d hd => ?_⟩
  replace hd : d < vN V := hd
  obtain ⟨b1, b2, b3, b4, b5, b6, b7⟩ := a5 d hd
  refine ⟨?_, by rw [pk_un (by omega)]; exact b2, by rw [pk_un (by omega)]; exact b3, by rw [pk_un (by omega)]; exact b4, by rw [pk_un (by omega)]; exact b5, by rw [pk_un (by omega)]; exact b6, fun j hj => by rw [pk_un (by omega)]; exact b7 j hj⟩
  show _ = nI (if d = c then x else vCol V d)
  by_cases h1 : d = c
  · subst h1; rw [pk_us, if_pos rfl]
  · rw [pk_un (by omega), if_neg h1]; exact b1
theorem BR.of {k : Nat} {row a : Nat → Int32} {V : Vw} (hW : Wf k V) (hC : RowV row V) (hM : ModV a V) : BR (k + 1) row a := ⟨V, hW.mono, hC, hM⟩
theorem st_dye (N : Nat) (hN : 70000 ≤ N) : SF_dye N RR := by
  intro k h hk hR a1 a2
  obtain ⟨hT, hD, ⟨V, hW, hC, hM⟩, hU, hK⟩ := id hR
  have hn := hW.n
  unfold fX4_dye fX4_isColour
  rcases cord_case hC hM hW a1 with ⟨h1, h2⟩ | ⟨h1, h2, c, hc, rfl⟩
  · exact ⟨-1, h, h, by rw [h1, if_pos rfl], by unfold fX5_dye; rw [h2, if_pos rfl], RR_mono k h hR⟩
  rcases in_nI h (n := 10) (by omega) a2 with ⟨h3, j, hj, rfl⟩ | ⟨h3, h4⟩
  · obtain ⟨ha0, q1, q7, q23, qf⟩ := change hN hR
    obtain ⟨hb0, r1, r23, rg⟩ := qf (upd (h 7) c (nI j))
    have e2 : fX5_isCord (cel ha0 7 (upd (h 7) c (nI j))) (nI c) = 1 := by
      rw [← h2]
      unfold fX5_isCord
      rw [cel_o (by decide), q23]
      rfl
    have hcl : (nI (2 + c)).toNatClampNeg = 2 + c := nI_clamp (by omega)
    refine ⟨nI (vCol V c), cel ha0 7 (upd (h 7) c (nI j)), cel hb0 23 (upd (h 23) (2 + c) (nI j)), ?_, ?_, rg _ (BR.of (hW.dye (by omega)) (hC.dye hW hc) (hM.dye hW hc))⟩
    · unfold fX0_setColour
      rw [h1, if_neg n10, if_neg (nI_pos (by omega)), if_neg (show ¬ (9 : Int32) < nI j from nlt_lit (a := 9) (by omega) (by omega) (by omega)), if_neg n10, q1, Option.bind_some, q_colour hC hW hc]
      show some (nI (vCol V c), putF ha0 7 179 (nI 0 + nI c) (nI j)) = _
      rw [nI_add, Nat.zero_add, put_nI (by omega) (by omega), hset_c, q7]
    · unfold fX5_dye
      rw [e2, if_neg n10, show fX5_in (cel ha0 7 (upd (h 7) c (nI j))) (nI j).toInt64 0 9 = 1 from h3, if_neg n10, r1, Option.bind_some]
      show (rdH hb0 23 162 (2 + nI c)).bind _ = _
      have er : rdH hb0 23 162 (2 + nI c) = some (nI (vCol V c)) := r_col (h := hb0) (by rw [r23]; exact hM) hW hc
      rw [er, Option.bind_some, show (2 : Int32) = nI 2 from rfl, nI_add, if_pos (by rw [nI_toInt (by omega)]; omega), hcl]
      show some (nI (vCol V c), hset hb0 23 (2 + c) (nI j)) = _
      rw [hset_c, r23]
  · refine ⟨-1, h, h, ?_, by unfold fX5_dye; rw [h2, if_neg n10, show fX5_in h a2.toInt64 0 9 = 0 from h3, if_pos rfl], RR_mono k h hR⟩
    rw [h1, if_neg n10]
    rcases pk_ix a2 (n := 10) (by omega) with q | q | ⟨j, hj, rfl⟩
    · rw [if_pos q, if_pos rfl]
    · by_cases h0 : a2 < 0
      · rw [if_pos h0, if_pos rfl]
      · have : (9 : Int32) < a2 := by
          rw [Int32.lt_iff_toInt_lt] at h0 ⊢
          have e9 : (9 : Int32).toInt = 9 := rfl
          have e0 : (0 : Int32).toInt = 0 := rfl
          have := i_nlt q
          rw [Int32.lt_iff_toInt_lt, nI_toInt (by omega)] at this
          rw [e9]
          omega
        rw [if_neg h0, if_pos this, if_pos rfl]
    · exact absurd rfl (h4 j hj)
