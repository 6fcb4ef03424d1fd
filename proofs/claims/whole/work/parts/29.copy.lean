/-! rows laid aside and brought back -/
theorem copyRow_eq (h : Hp) {q0 n0 q2 n2 s g : Nat} (h0 : n0 < 2 ^ 30) (h2 : n2 < 2 ^ 30) (hs : s + 179 ≤ n0) (hg : g + 179 ≤ n2) : fX4_copyRow h q0 n0 (nI s) q2 n2 (nI g) = some (0, hcpy h q0 q2 s g 179) := by
  unfold fX4_copyRow fX4_copyRow_J33
  have e1 : nI s + 179 = nI (s + 179) := by rw [show (179 : Int32) = nI 179 from rfl, nI_add]
  have e2 : nI g + 179 = nI (g + 179) := by rw [show (179 : Int32) = nI 179 from rfl, nI_add]
  have c1 : (nI s).toNatClampNeg = s := nI_clamp (by omega)
  have c2 : (nI g).toNatClampNeg = g := nI_clamp (by omega)
  have c3 : (179 : Int32).toNatClampNeg = 179 := by decide +kernel
  rw [e1, e2, if_neg (nI_pos (n := s) (by omega)), if_neg (show ¬ Int32.ofNat n0 < nI (s + 179) from nlt_lit (a := n0) (by omega) (by omega) (by omega)), if_neg (nI_pos (n := g) (by omega)), if_neg (show ¬ Int32.ofNat n2 < nI (g + 179) from nlt_lit (a := n2) (by omega) (by omega) (by omega)), if_neg n10, c1, c2, c3, if_pos ⟨⟨nI_pos (by omega), nI_pos (by omega), by decide⟩, hs, hg⟩, Option.bind_some]
theorem hcpy_s {h : Hp} {a b s d n : Nat} : hcpy h a b s d n b = va_cpy (h a) (h b) s d n := by simp [hcpy]
theorem hcpy_step (h : Hp) {q0 q2 i j u : Nat} : hset (hcpy h q0 q2 i j u) q2 (j + u) (h q0 (i + u)) = hcpy h q0 q2 i j (u + 1) := by
  funext p t
  by_cases hp : p = q2
  · subst hp
    by_cases ht : t = j + u
    · subst ht
      rw [hset_ss]
      simp [hcpy, va_cpy]
    · rw [hset_so ht]
      rw [hcpy_s, hcpy_s]
      unfold va_cpy
      by_cases h1 : j ≤ t ∧ t < j + u
      · rw [if_pos h1, if_pos ⟨h1.1, by omega⟩]
      · rw [if_neg h1, if_neg (fun q => h1 ⟨q.1, by omega⟩)]
  · rw [hset_o hp, hcpy_o hp, hcpy_o hp]
theorem hcpy_0 (h : Hp) {q0 q2 i j : Nat} : hcpy h q0 q2 i j 0 = h := by
  funext p t
  by_cases hp : p = q2
  · subst hp
    rw [hcpy_s]
    unfold va_cpy
    rw [if_neg (show ¬ (j ≤ t ∧ t < j + 0) by omega)]
  · rw [hcpy_o hp]
theorem copies_L {N q0 n0 q2 n2 i j : Nat} (h : Hp) (hq : q0 ≠ q2) (h0 : n0 < 2 ^ 30) (h2 : n2 < 2 ^ 30) (hi : i + 162 ≤ n0) (hj : j + 162 ≤ n2) : ∀ (m u fuel : Nat), u + m = 162 → m < fuel → fX5_copies_L3 N q0 n0 (nI i) q2 n2 (nI j) fuel (nI u) (hcpy h q0 q2 i j u) = some (0, hcpy h q0 q2 i j 162) := by
  intro m
  induction m with
  | zero =>
    intro u fuel hu hf
    obtain ⟨fuel, rfl⟩ : ∃ f, fuel = f + 1 := ⟨fuel - 1, by omega⟩
    rw [fX5_copies_L3, if_neg (show ¬ nI u < (162 : Int32) from nlt_lit (b := 162) (by omega) (by omega) (by omega)), show u = 162 by omega]
  | succ m ih =>
    intro u fuel hu hf
    obtain ⟨fuel, rfl⟩ : ∃ f, fuel = f + 1 := ⟨fuel - 1, by omega⟩
    have c1 : (nI (j + u)).toNatClampNeg = j + u := nI_clamp (by omega)
    rw [fX5_copies_L3, if_pos (show nI u < (162 : Int32) from nI_lt (b := 162) (by omega) (by omega)), nI_add, nI_add, rd_nI (by omega) (by omega), Option.bind_some, if_pos (by rw [nI_toInt (by omega)]; omega), c1, Option.bind_some, nI_1, hcpy_o hq, hcpy_step]
    exact ih (u + 1) fuel (by omega) (by omega)
theorem copies_eq {N q0 n0 q2 n2 i j : Nat} (hN : 200 ≤ N) (h : Hp) (hq : q0 ≠ q2) (h0 : n0 < 2 ^ 30) (h2 : n2 < 2 ^ 30) (hi : i + 162 ≤ n0) (hj : j + 162 ≤ n2) : fX5_copies N h q0 n0 (nI i) q2 n2 (nI j) = some (0, hcpy h q0 q2 i j 162) := by
  unfold fX5_copies
  have := copies_L (N := N) h hq h0 h2 hi hj 162 0 N (by omega) (by omega)
  rw [hcpy_0] at this
  exact this
