/-! undo, keep, back; the shelf's and the reference's shifts -/
theorem BR_cell {k : Nat} {h h' : Hp} (e7 : h' 7 = h 7) (e23 : h' 23 = h 23) (hB : BR k (h 7) (h 23)) : BR k (h' 7) (h' 23) := by rw [e7, e23]; exact hB
theorem TX_frame {h h' : Hp} (hT : TX h) (e0 : h' 0 = h 0) (e1 : h' 1 = h 1) (e26 : h' 26 = h 26) (e22 : h' 22 6 = h 22 6) : TX h' := by
  unfold TX at hT ⊢
  rw [e0, e1, e26, e22]
  exact hT
theorem UN_frame {k : Nat} {h h' : Hp} (hU : UN k h) (e8 : h' 8 2 = h 8 2) (e22 : h' 22 2 = h 22 2) (e9 : h' 9 = h 9) (e24 : h' 24 = h 24) : UN k h' := by
  unfold UN at hU ⊢
  rw [e8, e22, e9, e24]
  exact hU
theorem KE_frame {k : Nat} {h h' : Hp} (hU : KE k h) (e8 : h' 10 2 = h 10 2) (e22 : h' 22 4 = h 22 4) (e9 : h' 11 = h 11) (e24 : h' 25 = h 25) : KE k h' := by
  unfold KE at hU ⊢
  rw [e8, e22, e9, e24]
  exact hU
theorem cpy_in {f g : Nat → Int32} {s d n i : Nat} (hi : i < n) : va_cpy f g s d n (d + i) = f (s + i) := by
  unfold va_cpy
  rw [if_pos ⟨by omega, by omega⟩, show d + i - d = i by omega]
theorem cpy_out {f g : Nat → Int32} {s d n t : Nat} (ht : t < d ∨ d + n ≤ t) : va_cpy f g s d n t = g t := by
  unfold va_cpy
  rw [if_neg (fun q => by omega)]
theorem st_undo (N : Nat) (hN : 70000 ≤ N) : SF_undo N RR := by
  intro k h hk hR
  obtain ⟨hT, hD, hB, ⟨u, hu, u1, u2, u3⟩, hK⟩ := id hR
  by_cases h0 : u = 0
  · subst h0
    exact ⟨-2, h, h, by unfold fX4_undo; rw [u1, if_pos (show nI 0 = (0 : Int32) from rfl)], by unfold fX5_undo; rw [u2, if_pos (show nI 0 = (0 : Int32) from rfl)], RR_mono k h hR⟩
  obtain ⟨ha, hae⟩ : ∃ ha : Hp, ha = hcpy (hset h 8 2 (nI (u - 1))) 9 7 ((u - 1) * 179) 0 179 := ⟨_, rfl⟩
  obtain ⟨hg, hge⟩ : ∃ hg : Hp, hg = hset ha 22 2 (nI (u - 1)) := ⟨_, rfl⟩
  obtain ⟨hb, hbe⟩ : ∃ hb : Hp, hb = hcpy hg 24 23 (162 * (u - 1)) 0 162 := ⟨_, rfl⟩
  have oa : ∀ q, q ≠ 7 → q ≠ 8 → ha q = h q := fun q q1 q2 => by rw [hae, hcpy_o q1, hset_o q2]
  have og : ∀ q, q ≠ 22 → hg q = ha q := fun q q1 => by rw [hge, hset_o q1]
  have ob : ∀ q, q ≠ 23 → hb q = hg q := fun q q1 => by rw [hbe, hcpy_o q1]
  have o : ∀ q, q ≠ 7 → q ≠ 8 → q ≠ 22 → q ≠ 23 → hb q = h q := fun q q1 q2 q3 q4 => by rw [ob q q4, og q q3, oa q q1 q2]
  have a8 : hb 8 = upd (h 8) 2 (nI (u - 1)) := by rw [ob 8 (by decide), og 8 (by decide), hae, hcpy_o (by decide), hset_s]
  have a22 : hb 22 = upd (h 22) 2 (nI (u - 1)) := by rw [ob 22 (by decide), hge, hset_s, oa 22 (by decide) (by decide)]
  have a7 : hb 7 = va_cpy (h 9) (h 7) ((u - 1) * 179) 0 179 := by rw [ob 7 (by decide), og 7 (by decide), hae, hcpy_s, hset_o (by decide), hset_o (by decide)]
  have a23 : hb 23 = va_cpy (h 24) (h 23) (162 * (u - 1)) 0 162 := by rw [hbe, hcpy_s, og 24 (by decide), og 23 (by decide), oa 24 (by decide) (by decide), oa 23 (by decide) (by decide)]
  refine ⟨nI (u - 1), ha, hb, ?_, ?_, ?_⟩
  · unfold fX4_undo
    rw [u1, if_neg (show ¬ nI u = (0 : Int32) from ne_lit (b := 0) (by omega) (by omega) h0), takeInto_eq h (by omega) hu u1 (by omega) (by omega) (by omega) (by omega), Option.bind_some, ← hae]
    have : ha 8 2 = nI (u - 1) := by rw [hae, hcpy_o (by decide), hset_ss]
    show some (ha 8 2, ha) = _
    rw [this]
  · unfold fX5_undo
    have q2 : ha 22 2 = nI u := by rw [oa 22 (by decide) (by decide), u2]
    have e1 : nI u - 1 = nI (u - 1) := by rw [show (1 : Int32) = nI 1 from rfl, pk_sub (by omega)]
    have e2 : 162 * nI (u - 1) = nI (162 * (u - 1)) := by rw [show (162 : Int32) = nI 162 from rfl, pk_mul]
    rw [q2, if_neg (show ¬ nI u = (0 : Int32) from ne_lit (b := 0) (by omega) (by omega) h0), e1, Option.bind_some, hset_ss, e2, ← hge, show (0 : Int32) = nI 0 from rfl, copies_eq (by omega) hg (by decide) (by decide) (by decide) (by omega) (by omega), Option.bind_some, ← hbe]
    show some (hb 22 2, hb) = _
    rw [a22, pk_us]
  · refine RR_mono k _ ⟨TX_frame hT (o 0 (by decide) (by decide) (by decide) (by decide)) (o 1 (by decide) (by decide) (by decide) (by decide)) (o 26 (by decide) (by decide) (by decide) (by decide)) (by rw [a22, pk_un (by decide)]), DY_frame hD (by rw [a8, pk_un (by decide)]) (by rw [o 10 (by decide) (by decide) (by decide) (by decide)]) (by rw [o 12 (by decide) (by decide) (by decide) (by decide)]) (by rw [o 12 (by decide) (by decide) (by decide) (by decide)]), ?_, ⟨u - 1, by omega, by rw [a8, pk_us], by rw [a22, pk_us], fun j hj => ?_⟩, KE_frame hK (by rw [o 10 (by decide) (by decide) (by decide) (by decide)]) (by rw [a22, pk_un (by decide)]) (o 11 (by decide) (by decide) (by decide) (by decide)) (o 25 (by decide) (by decide) (by decide) (by decide))⟩
    · refine BR_congr (fun i hi => ?_) (fun i hi => ?_) (u3 (u - 1) (by omega))
      · rw [a7]
        have := cpy_in (f := h 9) (g := h 7) (s := (u - 1) * 179) (d := 0) (n := 179) hi
        rw [Nat.zero_add] at this
        rw [this, Nat.mul_comm]
      · rw [a23]
        have := cpy_in (f := h 24) (g := h 23) (s := 162 * (u - 1)) (d := 0) (n := 162) hi
        rw [Nat.zero_add] at this
        rw [this]
    · rw [o 9 (by decide) (by decide) (by decide) (by decide), o 24 (by decide) (by decide) (by decide) (by decide)]
      exact u3 j (by omega)
theorem st_back (N : Nat) (hN : 70000 ≤ N) : SF_back N RR := by
  intro k h hk hR
  obtain ⟨hT, hD, hB, hU, ⟨u, hu, u1, u2, u3⟩⟩ := id hR
  by_cases h0 : u = 0
  · subst h0
    exact ⟨-2, h, h, by unfold fX4_back; rw [u1, if_pos (show nI 0 = (0 : Int32) from rfl)], by unfold fX5_back; rw [u2, if_pos (show nI 0 = (0 : Int32) from rfl)], RR_mono k h hR⟩
  obtain ⟨hc, hce⟩ : ∃ hc : Hp, hc = hcpy (hset h 10 2 (nI (u - 1))) 11 7 ((u - 1) * 179) 0 179 := ⟨_, rfl⟩
  obtain ⟨ha, hae⟩ : ∃ ha : Hp, ha = hset hc 8 2 0 := ⟨_, rfl⟩
  obtain ⟨hg, hge⟩ : ∃ hg : Hp, hg = hset ha 22 4 (nI (u - 1)) := ⟨_, rfl⟩
  obtain ⟨hd, hde⟩ : ∃ hd : Hp, hd = hcpy hg 25 23 (162 * (u - 1)) 0 162 := ⟨_, rfl⟩
  obtain ⟨hb, hbe⟩ : ∃ hb : Hp, hb = hset hd 22 2 0 := ⟨_, rfl⟩
  have oc : ∀ q, q ≠ 7 → q ≠ 10 → hc q = h q := fun q q1 q2 => by rw [hce, hcpy_o q1, hset_o q2]
  have oa : ∀ q, q ≠ 8 → ha q = hc q := fun q q1 => by rw [hae, hset_o q1]
  have og : ∀ q, q ≠ 22 → hg q = ha q := fun q q1 => by rw [hge, hset_o q1]
  have od : ∀ q, q ≠ 23 → hd q = hg q := fun q q1 => by rw [hde, hcpy_o q1]
  have ob : ∀ q, q ≠ 22 → hb q = hd q := fun q q1 => by rw [hbe, hset_o q1]
  have o : ∀ q, q ≠ 7 → q ≠ 8 → q ≠ 10 → q ≠ 22 → q ≠ 23 → hb q = h q := fun q q1 q2 q3 q4 q5 => by rw [ob q q4, od q q5, og q q4, oa q q2, oc q q1 q3]
  have a10 : hb 10 = upd (h 10) 2 (nI (u - 1)) := by rw [ob 10 (by decide), od 10 (by decide), og 10 (by decide), oa 10 (by decide), hce, hcpy_o (by decide), hset_s]
  have a8 : hb 8 = upd (h 8) 2 0 := by rw [ob 8 (by decide), od 8 (by decide), og 8 (by decide), hae, hset_s, oc 8 (by decide) (by decide)]
  have a22 : hb 22 = upd (upd (h 22) 4 (nI (u - 1))) 2 0 := by rw [hbe, hset_s, od 22 (by decide), hge, hset_s, oa 22 (by decide), oc 22 (by decide) (by decide)]
  have a7 : hb 7 = va_cpy (h 11) (h 7) ((u - 1) * 179) 0 179 := by rw [ob 7 (by decide), od 7 (by decide), og 7 (by decide), oa 7 (by decide), hce, hcpy_s, hset_o (by decide), hset_o (by decide)]
  have a23 : hb 23 = va_cpy (h 25) (h 23) (162 * (u - 1)) 0 162 := by rw [ob 23 (by decide), hde, hcpy_s, og 25 (by decide), og 23 (by decide), oa 25 (by decide), oa 23 (by decide), oc 25 (by decide) (by decide), oc 23 (by decide) (by decide)]
  refine ⟨nI (u - 1), ha, hb, ?_, ?_, ?_⟩
  · unfold fX4_back fX3_clear
    rw [u1, if_neg (show ¬ nI u = (0 : Int32) from ne_lit (b := 0) (by omega) (by omega) h0), takeInto_eq h (by omega) (by omega) u1 (by omega) (by omega) (by omega) (by omega), Option.bind_some, ← hce, Option.bind_some, Option.bind_some, ← hae]
    have : ha 10 2 = nI (u - 1) := by rw [oa 10 (by decide), hce, hcpy_o (by decide), hset_ss]
    show some (ha 10 2, ha) = _
    rw [this]
  · unfold fX5_back
    have q2 : ha 22 4 = nI u := by rw [oa 22 (by decide), oc 22 (by decide) (by decide), u2]
    have e1 : nI u - 1 = nI (u - 1) := by rw [show (1 : Int32) = nI 1 from rfl, pk_sub (by omega)]
    have e2 : 162 * nI (u - 1) = nI (162 * (u - 1)) := by rw [show (162 : Int32) = nI 162 from rfl, pk_mul]
    have e3 := copies_eq (N := N) (i := 162 * (u - 1)) (j := 0) (by omega) hg (show (25 : Nat) ≠ 23 by decide) (show 324 < 2 ^ 30 by decide) (show 162 < 2 ^ 30 by decide) (by omega) (by omega)
    rw [q2, if_neg (show ¬ nI u = (0 : Int32) from ne_lit (b := 0) (by omega) (by omega) h0), e1, Option.bind_some, hset_ss, e2, ← hge, show fX5_copies N hg 25 324 (nI (162 * (u - 1))) 23 162 0 = _ from e3, Option.bind_some, ← hde, Option.bind_some, ← hbe, a22, pk_un (by decide), pk_us]
  · refine RR_mono k _ ⟨TX_frame hT (o 0 (by decide) (by decide) (by decide) (by decide) (by decide)) (o 1 (by decide) (by decide) (by decide) (by decide) (by decide)) (o 26 (by decide) (by decide) (by decide) (by decide) (by decide)) (by rw [a22, pk_un (by decide), pk_un (by decide)]), DY_frame hD (by rw [a8, pk_un (by decide)]) (by rw [a10, pk_un (by decide)]) (by rw [o 12 (by decide) (by decide) (by decide) (by decide) (by decide)]) (by rw [o 12 (by decide) (by decide) (by decide) (by decide) (by decide)]), ?_, ⟨0, by omega, by rw [a8, pk_us]; rfl, by rw [a22, pk_us]; rfl, fun j hj => absurd hj (Nat.not_lt_zero j)⟩, ⟨u - 1, by omega, by rw [a10, pk_us], by rw [a22, pk_un (by decide), pk_us], fun j hj => ?_⟩⟩
    · refine BR_congr (fun i hi => ?_) (fun i hi => ?_) (u3 (u - 1) (by omega))
      · rw [a7]
        have := cpy_in (f := h 11) (g := h 7) (s := (u - 1) * 179) (d := 0) (n := 179) hi
        rw [Nat.zero_add] at this
        rw [this, Nat.mul_comm]
      · rw [a23]
        have := cpy_in (f := h 25) (g := h 23) (s := 162 * (u - 1)) (d := 0) (n := 162) hi
        rw [Nat.zero_add] at this
        rw [this]
    · rw [o 11 (by decide) (by decide) (by decide) (by decide) (by decide), o 25 (by decide) (by decide) (by decide) (by decide) (by decide)]
      exact u3 j (by omega)
theorem st_keep (N : Nat) (hN : 70000 ≤ N) : SF_keep N RR := by
  intro k h hk hR
  obtain ⟨hT, hD, hB, hU, ⟨u, hu, u1, u2, u3⟩⟩ := id hR
  by_cases h0 : u = 2
  · subst h0
    exact ⟨-3, h, h, by unfold fX4_keep; rw [u1, if_neg (show ¬ nI 2 < (2 : Int32) by decide)], by unfold fX5_keep; rw [u2, if_pos (show nI 2 = (2 : Int32) from rfl)], RR_mono k h hR⟩
  obtain ⟨hc, hce⟩ : ∃ hc : Hp, hc = hcpy h 7 11 0 (u * 179) 179 := ⟨_, rfl⟩
  obtain ⟨ha, hae⟩ : ∃ ha : Hp, ha = hset hc 10 2 (nI (u + 1)) := ⟨_, rfl⟩
  obtain ⟨hg, hge⟩ : ∃ hg : Hp, hg = hcpy ha 23 25 0 (162 * u) 162 := ⟨_, rfl⟩
  obtain ⟨hb, hbe⟩ : ∃ hb : Hp, hb = hset hg 22 4 (nI (u + 1)) := ⟨_, rfl⟩
  have oc : ∀ q, q ≠ 11 → hc q = h q := fun q q1 => by rw [hce, hcpy_o q1]
  have oa : ∀ q, q ≠ 10 → ha q = hc q := fun q q1 => by rw [hae, hset_o q1]
  have og : ∀ q, q ≠ 25 → hg q = ha q := fun q q1 => by rw [hge, hcpy_o q1]
  have ob : ∀ q, q ≠ 22 → hb q = hg q := fun q q1 => by rw [hbe, hset_o q1]
  have o : ∀ q, q ≠ 10 → q ≠ 11 → q ≠ 22 → q ≠ 25 → hb q = h q := fun q q1 q2 q3 q4 => by rw [ob q q3, og q q4, oa q q1, oc q q2]
  have a10 : hb 10 = upd (h 10) 2 (nI (u + 1)) := by rw [ob 10 (by decide), og 10 (by decide), hae, hset_s, oc 10 (by decide)]
  have a22 : hb 22 = upd (h 22) 4 (nI (u + 1)) := by rw [hbe, hset_s, og 22 (by decide), oa 22 (by decide), oc 22 (by decide)]
  have a11 : hb 11 = va_cpy (h 7) (h 11) 0 (u * 179) 179 := by rw [ob 11 (by decide), og 11 (by decide), oa 11 (by decide), hce, hcpy_s]
  have a25 : hb 25 = va_cpy (h 23) (h 25) 0 (162 * u) 162 := by rw [ob 25 (by decide), hge, hcpy_s, oa 23 (by decide), oa 25 (by decide), oc 23 (by decide), oc 25 (by decide)]
  have e2 : nI u * 179 = nI (u * 179) := by rw [show (179 : Int32) = nI 179 from rfl, pk_mul]
  have e3 : 162 * nI u = nI (162 * u) := by rw [show (162 : Int32) = nI 162 from rfl, pk_mul]
  refine ⟨nI (u + 1), ha, hb, ?_, ?_, ?_⟩
  · unfold fX4_keep fX3_add fX3_add_J60
    have c1 := copyRow_eq h (q0 := 7) (n0 := 179) (q2 := 11) (n2 := 358) (s := 0) (g := u * 179) (by omega) (by omega) (by omega) (by omega)
    rw [hD.1.2, u1, if_pos (show nI u < (2 : Int32) from nI_lt (b := 2) (by omega) (by omega)), if_pos (show nI u < (2 : Int32) from nI_lt (b := 2) (by omega) (by omega)), e2, show fX4_copyRow h 7 179 0 11 358 (nI (u * 179)) = _ from c1, Option.bind_some, ← hce]
    show some ((hset hc 10 2 (hc 10 2 + 1)) 10 2, hset hc 10 2 (hc 10 2 + 1)) = _
    rw [oc 10 (by decide), u1, nI_1, ← hae]
    have : ha 10 2 = nI (u + 1) := by rw [hae, hset_ss]
    show some (ha 10 2, ha) = _
    rw [this]
  · unfold fX5_keep
    have q2 : ha 22 4 = nI u := by rw [oa 22 (by decide), oc 22 (by decide), u2]
    have c1 := copies_eq (N := N) (i := 0) (j := 162 * u) (by omega) ha (show (23 : Nat) ≠ 25 by decide) (show 162 < 2 ^ 30 by decide) (show 324 < 2 ^ 30 by decide) (by omega) (by omega)
    rw [q2, if_neg (show ¬ nI u = (2 : Int32) from ne_lit (b := 2) (by omega) (by omega) h0), e3, show fX5_copies N ha 23 162 0 25 324 (nI (162 * u)) = _ from c1, Option.bind_some, ← hge]
    show some ((hset hg 22 4 (hg 22 4 + 1)) 22 4, hset hg 22 4 (hg 22 4 + 1)) = _
    rw [og 22 (by decide), q2, nI_1, ← hbe, a22, pk_us]
  · refine RR_mono k _ ⟨TX_frame hT (o 0 (by decide) (by decide) (by decide) (by decide)) (o 1 (by decide) (by decide) (by decide) (by decide)) (o 26 (by decide) (by decide) (by decide) (by decide)) (by rw [a22, pk_un (by decide)]), DY_frame hD (by rw [o 8 (by decide) (by decide) (by decide) (by decide)]) (by rw [a10, pk_un (by decide)]) (by rw [o 12 (by decide) (by decide) (by decide) (by decide)]) (by rw [o 12 (by decide) (by decide) (by decide) (by decide)]), BR_cell (o 7 (by decide) (by decide) (by decide) (by decide)) (o 23 (by decide) (by decide) (by decide) (by decide)) hB, UN_frame hU (by rw [o 8 (by decide) (by decide) (by decide) (by decide)]) (by rw [a22, pk_un (by decide)]) (o 9 (by decide) (by decide) (by decide) (by decide)) (o 24 (by decide) (by decide) (by decide) (by decide)), ⟨u + 1, by omega, by rw [a10, pk_us], by rw [a22, pk_us], fun j hj => ?_⟩⟩
    rw [a11, a25]
    by_cases hju : j = u
    · subst hju
      refine BR_congr (fun i hi => ?_) (fun i hi => ?_) hB
      · show va_cpy (h 7) (h 11) 0 (j * 179) 179 (179 * j + i) = _
        rw [Nat.mul_comm j 179, cpy_in hi, Nat.zero_add]
      · show va_cpy (h 23) (h 25) 0 (162 * j) 162 (162 * j + i) = _
        rw [cpy_in hi, Nat.zero_add]
    · refine BR_congr (fun i hi => ?_) (fun i hi => ?_) (u3 j (by omega))
      · exact cpy_out (Or.inl (by omega))
      · exact cpy_out (Or.inl (by omega))
