/-! laying the bundle aside before a change: the class's shelf and the reference's remember, with the shift once eight lie there -/
def shf (h : Hp) (q w m : Nat) : Hp := fun p => if p = q then (fun t => if t < m then h q (t + w) else h q t) else h p
theorem shf_o {h : Hp} {q w m p : Nat} (hp : p ≠ q) : shf h q w m p = h p := by simp [shf, hp]
theorem shf_s {h : Hp} {q w m t : Nat} : shf h q w m q t = if t < m then h q (t + w) else h q t := by simp [shf]
theorem shf_0 {h : Hp} {q w : Nat} : shf h q w 0 = h := by
  funext p t
  by_cases hp : p = q
  · subst hp; rw [shf_s, if_neg (Nat.not_lt_zero t)]
  · rw [shf_o hp]
theorem shf_row {h : Hp} {q u : Nat} (hu : 1 ≤ u) : hcpy (shf h q 179 (179 * (u - 1))) q q (u * 179) ((u - 1) * 179) 179 = shf h q 179 (179 * u) := by
  funext p t
  by_cases hp : p = q
  · subst hp
    rw [hcpy_s, shf_s]
    unfold va_cpy
    by_cases h1 : (u - 1) * 179 ≤ t ∧ t < (u - 1) * 179 + 179
    · rw [if_pos h1, shf_s, if_neg (by omega), if_pos (by omega)]
      congr 1
      omega
    · rw [if_neg h1, shf_s]
      by_cases h2 : t < 179 * (u - 1)
      · rw [if_pos h2, if_pos (by omega)]
      · rw [if_neg h2, if_neg (by omega)]
  · rw [hcpy_o hp, shf_o hp, shf_o hp]
theorem shf_one {h : Hp} {q w i : Nat} (hw : 0 < w) : hset (shf h q w i) q i (h q (i + w)) = shf h q w (i + 1) := by
  funext p t
  by_cases hp : p = q
  · subst hp
    by_cases ht : t = i
    · subst ht
      rw [hset_ss, shf_s, if_pos (by omega)]
    · rw [hset_so ht, shf_s, shf_s]
      by_cases h2 : t < i
      · rw [if_pos h2, if_pos (by omega)]
      · rw [if_neg h2, if_neg (by omega)]
  · rw [hset_o hp, shf_o hp, shf_o hp]
theorem add_L {N : Nat} (h : Hp) (h8 : h 8 0 = 8) : ∀ (m u fuel : Nat), u + m = 8 → 1 ≤ u → m < fuel → fX3_add_L13 N 8 9 1432 7 179 fuel (nI u) (shf h 9 179 (179 * (u - 1))) = fX3_add_J60 N 8 9 1432 7 179 (hset (shf h 9 179 (179 * 7)) 8 2 (nI 7)) := by
  intro m
  induction m with
  | zero =>
    intro u fuel hu h1 hf
    obtain ⟨fuel, rfl⟩ : ∃ f, fuel = f + 1 := ⟨fuel - 1, by omega⟩
    have hu8 : u = 8 := by omega
    subst hu8
    rw [fX3_add_L13, shf_o (by decide), h8, if_neg (show ¬ nI 8 < (8 : Int32) by decide), Option.bind_some]
    rfl
  | succ m ih =>
    intro u fuel hu h1 hf
    obtain ⟨fuel, rfl⟩ : ∃ f, fuel = f + 1 := ⟨fuel - 1, by omega⟩
    have e2 : nI u * 179 = nI (u * 179) := by rw [show (179 : Int32) = nI 179 from rfl, pk_mul]
    have e1 : nI u - 1 = nI (u - 1) := by rw [show (1 : Int32) = nI 1 from rfl, pk_sub (by omega)]
    have e3 : nI (u - 1) * 179 = nI ((u - 1) * 179) := by rw [show (179 : Int32) = nI 179 from rfl, pk_mul]
    rw [fX3_add_L13, shf_o (by decide), h8, if_pos (show nI u < (8 : Int32) from nI_lt (b := 8) (by omega) (by omega)), e2, e1, e3, copyRow_eq _ (by omega) (by omega) (by omega) (by omega), Option.bind_some, nI_1, shf_row h1]
    exact ih (u + 1) fuel (by omega) (by omega) (by omega)
def nx (u : Nat) : Nat := if u = 8 then 8 else u + 1
def sf (u : Nat) : Nat := if u = 8 then 1 else 0
theorem add_J {N : Nat} (g : Hp) {u : Nat} (hu : u < 8) (e : g 8 2 = nI u) : fX3_add_J60 N 8 9 1432 7 179 g = some (0, hset (hcpy g 7 9 0 (u * 179) 179) 8 2 (nI (u + 1))) := by
  unfold fX3_add_J60
  have e2 : nI u * 179 = nI (u * 179) := by rw [show (179 : Int32) = nI 179 from rfl, pk_mul]
  have c1 := copyRow_eq g (q0 := 7) (n0 := 179) (q2 := 9) (n2 := 1432) (s := 0) (g := u * 179) (by omega) (by omega) (by omega) (by omega)
  rw [e, e2, show fX4_copyRow g 7 179 0 9 1432 (nI (u * 179)) = _ from c1, Option.bind_some]
  show some ((0 : Int32), hset (hcpy g 7 9 0 (u * 179) 179) 8 2 ((hcpy g 7 9 0 (u * 179) 179) 8 2 + 1)) = _
  rw [hcpy_o (by decide), e, nI_1]
theorem add_undone {N : Nat} (hN : 10 ≤ N) (h : Hp) (h8 : h 8 0 = 8) {u : Nat} (hu : u ≤ 8) (e : h 8 2 = nI u) : ∃ ha : Hp, fX3_add N h 8 9 1432 7 179 = some (0, ha) ∧ (∀ q, q ≠ 8 → q ≠ 9 → ha q = h q) ∧ (∀ i, i ≠ 2 → ha 8 i = h 8 i) ∧ ha 8 2 = nI (nx u) ∧ (∀ i, i < 179 → ha 9 (179 * (nx u - 1) + i) = h 7 i) ∧ ∀ j i, i < 179 → j + 1 < nx u → ha 9 (179 * j + i) = h 9 (179 * (j + sf u) + i) := by
  unfold fX3_add
  rw [h8, e]
  by_cases hf : u = 8
  · subst hf
    have hL := add_L (N := N) h h8 7 1 N (by omega) (by omega) (by omega)
    rw [Nat.sub_self, Nat.mul_zero, shf_0] at hL
    rw [if_neg (show ¬ nI 8 < (8 : Int32) by decide), show fX3_add_L13 N 8 9 1432 7 179 N 1 h = _ from hL, add_J _ (u := 7) (by omega) hset_ss]
    refine ⟨_, rfl, fun q q1 q2 => ?_, fun i hi => ?_, ?_, fun i hi => ?_, fun j i hi hj => ?_⟩
    · rw [hset_o q1, hcpy_o q2, hset_o q1, shf_o q2]
    · rw [hset_so hi, hcpy_o (by decide), hset_so hi, shf_o (by decide)]
    · rw [hset_ss]; rfl
    · rw [hset_o (by decide), hcpy_s, show 179 * (nx 8 - 1) + i = 7 * 179 + i from rfl, cpy_in hi, Nat.zero_add, hset_o (by decide), shf_o (by decide)]
    · have hj7 : j < 7 := by unfold nx at hj; rw [if_pos rfl] at hj; omega
      rw [hset_o (by decide), hcpy_s, cpy_out (Or.inl (by omega)), hset_o (by decide), shf_s, if_pos (by omega), show sf 8 = 1 from rfl]
      congr 1
      omega
  · have hlt : u < 8 := by omega
    have n1 : nx u = u + 1 := by unfold nx; rw [if_neg hf]
    have n2 : sf u = 0 := by unfold sf; rw [if_neg hf]
    rw [if_pos (show nI u < (8 : Int32) from nI_lt (b := 8) hlt (by omega)), add_J h hlt e, n1, n2]
    refine ⟨_, rfl, fun q q1 q2 => ?_, fun i hi => ?_, ?_, fun i hi => ?_, fun j i hi hj => ?_⟩
    · rw [hset_o q1, hcpy_o q2]
    · rw [hset_so hi, hcpy_o (by decide)]
    · rw [hset_ss]
    · rw [hset_o (by decide), hcpy_s, show 179 * (u + 1 - 1) + i = u * 179 + i by omega, cpy_in hi, Nat.zero_add]
    · rw [hset_o (by decide), hcpy_s, cpy_out (Or.inl (by omega)), Nat.add_zero]
theorem rem_L {N : Nat} (h : Hp) (hr : h 22 2 = nI 8) : ∀ (m u fuel : Nat), u + m = 1134 → m < fuel → fX5_remember_L11 N fuel (nI u) (shf h 24 162 u) = fX5_remember_J50 N (hset (shf h 24 162 1134) 22 2 (nI 7)) := by
  intro m
  induction m with
  | zero =>
    intro u fuel hu hf
    obtain ⟨fuel, rfl⟩ : ∃ f, fuel = f + 1 := ⟨fuel - 1, by omega⟩
    have hu8 : u = 1134 := by omega
    subst hu8
    rw [fX5_remember_L11, if_neg (show ¬ nI 1134 < (1134 : Int32) by decide), shf_o (by decide), hr, show nI 8 - 1 = nI 7 from rfl, Option.bind_some]
  | succ m ih =>
    intro u fuel hu hf
    obtain ⟨fuel, rfl⟩ : ∃ f, fuel = f + 1 := ⟨fuel - 1, by omega⟩
    have c1 : (nI u).toNatClampNeg = u := nI_clamp (by omega)
    rw [fX5_remember_L11, if_pos (show nI u < (1134 : Int32) from nI_lt (b := 1134) (by omega) (by omega)), show (162 : Int32) = nI 162 from rfl, nI_add, rd_nI (by omega) (by omega), Option.bind_some, if_pos (by rw [nI_toInt (by omega)]; omega), c1, Option.bind_some, nI_1, shf_s, if_neg (by omega), shf_one (by omega)]
    exact ih (u + 1) fuel (by omega) (by omega)
theorem rem_J {N : Nat} (hN : 200 ≤ N) (g : Hp) {u : Nat} (hu : u < 8) (e : g 22 2 = nI u) : fX5_remember_J50 N g = some (0, hset (hcpy g 23 24 0 (162 * u) 162) 22 2 (nI (u + 1))) := by
  unfold fX5_remember_J50
  have e3 : 162 * nI u = nI (162 * u) := by rw [show (162 : Int32) = nI 162 from rfl, pk_mul]
  have c1 := copies_eq (N := N) (i := 0) (j := 162 * u) hN g (show (23 : Nat) ≠ 24 by decide) (show 162 < 2 ^ 30 by decide) (show 1296 < 2 ^ 30 by decide) (by omega) (by omega)
  rw [e, e3, show fX5_copies N g 23 162 0 24 1296 (nI (162 * u)) = _ from c1, Option.bind_some]
  show some ((0 : Int32), hset (hcpy g 23 24 0 (162 * u) 162) 22 2 ((hcpy g 23 24 0 (162 * u) 162) 22 2 + 1)) = _
  rw [hcpy_o (by decide), e, nI_1]
theorem rem_past {N : Nat} (hN : 2000 ≤ N) (h : Hp) {u : Nat} (hu : u ≤ 8) (e : h 22 2 = nI u) : ∃ ha : Hp, fX5_remember N h = some (0, ha) ∧ (∀ q, q ≠ 22 → q ≠ 24 → ha q = h q) ∧ (∀ i, i ≠ 2 → ha 22 i = h 22 i) ∧ ha 22 2 = nI (nx u) ∧ (∀ i, i < 162 → ha 24 (162 * (nx u - 1) + i) = h 23 i) ∧ ∀ j i, i < 162 → j + 1 < nx u → ha 24 (162 * j + i) = h 24 (162 * (j + sf u) + i) := by
  unfold fX5_remember
  rw [e]
  by_cases hf : u = 8
  · subst hf
    have hL := rem_L (N := N) h e 1134 0 N (by omega) (by omega)
    rw [shf_0] at hL
    rw [if_pos (show nI 8 = (8 : Int32) from rfl), show fX5_remember_L11 N N 0 h = _ from hL, rem_J (by omega) _ (u := 7) (by omega) hset_ss]
    refine ⟨_, rfl, fun q q1 q2 => ?_, fun i hi => ?_, ?_, fun i hi => ?_, fun j i hi hj => ?_⟩
    · rw [hset_o q1, hcpy_o q2, hset_o q1, shf_o q2]
    · rw [hset_so hi, hcpy_o (by decide), hset_so hi, shf_o (by decide)]
    · rw [hset_ss]; rfl
    · rw [hset_o (by decide), hcpy_s, show 162 * (nx 8 - 1) + i = 162 * 7 + i from rfl, cpy_in hi, Nat.zero_add, hset_o (by decide), shf_o (by decide)]
    · have hj7 : j < 7 := by unfold nx at hj; rw [if_pos rfl] at hj; omega
      rw [hset_o (by decide), hcpy_s, cpy_out (Or.inl (by omega)), hset_o (by decide), shf_s, if_pos (by omega), show sf 8 = 1 from rfl]
      congr 1
      omega
  · have hlt : u < 8 := by omega
    have n1 : nx u = u + 1 := by unfold nx; rw [if_neg hf]
    have n2 : sf u = 0 := by unfold sf; rw [if_neg hf]
    rw [if_neg (show ¬ nI u = (8 : Int32) from ne_lit (b := 8) (by omega) (by omega) hf), rem_J (by omega) h hlt e, n1, n2]
    refine ⟨_, rfl, fun q q1 q2 => ?_, fun i hi => ?_, ?_, fun i hi => ?_, fun j i hi hj => ?_⟩
    · rw [hset_o q1, hcpy_o q2]
    · rw [hset_so hi, hcpy_o (by decide)]
    · rw [hset_ss]
    · rw [hset_o (by decide), hcpy_s, show 162 * (u + 1 - 1) + i = 162 * u + i by omega, cpy_in hi, Nat.zero_add]
    · rw [hset_o (by decide), hcpy_s, cpy_out (Or.inl (by omega)), Nat.add_zero]
