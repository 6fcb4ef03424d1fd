/-! a change: the bundle laid aside on both sides, then the change itself in the bundle's cells only -/
theorem put_nI {h : Hp} {q n j : Nat} {v : Int32} (hj : j < n) (hn : n < 2 ^ 31) : putF h q n (nI j) v = hset h q j v := by
  unfold putF
  rw [if_neg (nI_pos (by omega)), if_pos (show nI j < Int32.ofNat n from nI_lt hj hn), nI_clamp (by omega)]
theorem RR_change {k : Nat} {h ha0 ha hb0 hb : Hp} (hR : RR k h) {u : Nat} (hu : u ≤ 8) (uC : h 8 2 = nI u) (uM : h 22 2 = nI u)
    (a1 : ∀ q, q ≠ 8 → q ≠ 9 → ha0 q = h q) (a2 : ∀ i, i ≠ 2 → ha0 8 i = h 8 i) (a3 : ha0 8 2 = nI (nx u)) (a4 : ∀ i, i < 179 → ha0 9 (179 * (nx u - 1) + i) = h 7 i) (a5 : ∀ j i, i < 179 → j + 1 < nx u → ha0 9 (179 * j + i) = h 9 (179 * (j + sf u) + i))
    (c1 : ∀ q, q ≠ 7 → ha q = ha0 q)
    (b1 : ∀ q, q ≠ 22 → q ≠ 24 → hb0 q = ha q) (b2 : ∀ i, i ≠ 2 → hb0 22 i = ha 22 i) (b3 : hb0 22 2 = nI (nx u)) (b4 : ∀ i, i < 162 → hb0 24 (162 * (nx u - 1) + i) = ha 23 i) (b5 : ∀ j i, i < 162 → j + 1 < nx u → hb0 24 (162 * j + i) = ha 24 (162 * (j + sf u) + i))
    (d1 : ∀ q, q ≠ 23 → hb q = hb0 q) (hB' : BR (k + 1) (ha 7) (hb 23)) : RR (k + 1) hb := by
  obtain ⟨hT, hD, hB, ⟨u', hu', v1, v2, v3⟩, hK⟩ := RR_mono k h hR
  have huu : u' = u := by
    have e : nI u' = nI u := by rw [← v1, uC]
    exact (nI_eq (by omega) (by omega)).mp e
  subst huu
  have o : ∀ q, q ≠ 7 → q ≠ 8 → q ≠ 9 → q ≠ 22 → q ≠ 23 → q ≠ 24 → hb q = h q := fun q q1 q2 q3 q4 q5 q6 => by rw [d1 q q5, b1 q q4 q6, c1 q q1, a1 q q2 q3]
  have o8 : hb 8 = ha0 8 := by rw [d1 8 (by decide), b1 8 (by decide) (by decide), c1 8 (by decide)]
  have o9 : hb 9 = ha0 9 := by rw [d1 9 (by decide), b1 9 (by decide) (by decide), c1 9 (by decide)]
  have o22 : hb 22 = hb0 22 := d1 22 (by decide)
  have o24 : hb 24 = hb0 24 := d1 24 (by decide)
  have p22 : ∀ i, i ≠ 2 → hb 22 i = h 22 i := fun i hi => by rw [o22, b2 i hi, c1 22 (by decide), a1 22 (by decide) (by decide)]
  have p23 : ha 23 = h 23 := by rw [c1 23 (by decide), a1 23 (by decide) (by decide)]
  have p24 : ha 24 = h 24 := by rw [c1 24 (by decide), a1 24 (by decide) (by decide)]
  have o7 : hb 7 = ha 7 := by rw [d1 7 (by decide), b1 7 (by decide) (by decide)]
  have hnx : nx u' ≤ 8 ∧ 1 ≤ nx u' := by unfold nx; split <;> omega
  refine ⟨TX_frame hT (o 0 (by decide) (by decide) (by decide) (by decide) (by decide) (by decide)) (o 1 (by decide) (by decide) (by decide) (by decide) (by decide) (by decide)) (o 26 (by decide) (by decide) (by decide) (by decide) (by decide) (by decide)) (p22 6 (by decide)), DY_frame hD (by rw [o8, a2 0 (by decide)]) (by rw [o 10 (by decide) (by decide) (by decide) (by decide) (by decide) (by decide)]) (by rw [o 12 (by decide) (by decide) (by decide) (by decide) (by decide) (by decide)]) (by rw [o 12 (by decide) (by decide) (by decide) (by decide) (by decide) (by decide)]), by rw [o7]; exact hB', ⟨nx u', hnx.1, by rw [o8, a3], by rw [o22, b3], fun j hj => ?_⟩, KE_frame hK (by rw [o 10 (by decide) (by decide) (by decide) (by decide) (by decide) (by decide)]) (p22 4 (by decide)) (o 11 (by decide) (by decide) (by decide) (by decide) (by decide) (by decide)) (o 25 (by decide) (by decide) (by decide) (by decide) (by decide) (by decide))⟩
  rw [o9, o24]
  by_cases hj1 : j + 1 < nx u'
  · refine BR_congr (fun i hi => a5 j i hi hj1) (fun i hi => ?_) (v3 (j + sf u') ?_)
    · show hb0 24 (162 * j + i) = _
      rw [b5 j i hi hj1, p24]
    · unfold nx at hj1
      unfold sf
      split at hj1 <;> rename_i q
      · rw [if_pos q]; omega
      · rw [if_neg q]; omega
  · have hj2 : j = nx u' - 1 := by omega
    subst hj2
    refine BR_congr (fun i hi => a4 i hi) (fun i hi => ?_) hB
    show hb0 24 (162 * (nx u' - 1) + i) = _
    rw [b4 i hi, p23]
theorem st_dye (N : Nat) (hN : 70000 ≤ N) : SF_dye N RR := by
  intro k h hk hR a1 a2
  obtain ⟨hT, hD, ⟨V, hW, hC, hM⟩, ⟨u, hu, u1, u2, u3⟩, hK⟩ := id hR
  have hn := hW.n
  unfold fX4_dye
  rcases cord_case hC hM hW a1 with ⟨h1, h2⟩ | ⟨h1, h2, c, hc, rfl⟩
  · exact ⟨-1, h, h, by rw [h1, if_pos rfl], by unfold fX5_dye; rw [h2, if_pos rfl], RR_mono k h hR⟩
  rcases in_nI h (n := 10) (by omega) a2 with ⟨h3, j, hj, rfl⟩ | ⟨h3, h4⟩
  · obtain ⟨ha0, q1, q2, q3, q4, q5, q6⟩ := add_undone (N := N) (by omega) h hD.1.1 hu u1
    have hca : (16 : Nat) ≤ 179 := by decide
    obtain ⟨ha, hae⟩ : ∃ ha : Hp, ha = hset ha0 7 c (nI j) := ⟨_, rfl⟩
    have c1 : ∀ q, q ≠ 7 → ha q = ha0 q := fun q z => by rw [hae, hset_o z]
    have e22 : ha 22 2 = nI u := by rw [c1 22 (by decide), q2 22 (by decide) (by decide), u2]
    obtain ⟨hb0, r1, r2, r3, r4, r5, r6⟩ := rem_past (N := N) (by omega) ha hu e22
    obtain ⟨hb, hbe⟩ : ∃ hb : Hp, hb = hset hb0 23 (2 + c) (nI j) := ⟨_, rfl⟩
    have d1 : ∀ q, q ≠ 23 → hb q = hb0 q := fun q z => by rw [hbe, hset_o z]
    have g7 : ha0 7 = h 7 := q2 7 (by decide) (by decide)
    have g23 : ha 23 = h 23 := by rw [c1 23 (by decide), q2 23 (by decide) (by decide)]
    have g23b : hb0 23 = h 23 := by rw [r2 23 (by decide) (by decide), g23]
    sorry
  · sorry
