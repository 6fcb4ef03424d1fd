/-! count -/
def cT (V : Vw) : Nat → Nat
  | 0 => 0
  | j + 1 => cT V j + (if vTop V j = true then 1 else 0)
def cW (V : Vw) : Nat → Nat
  | 0 => 0
  | j + 1 => cW V j + (if (vVal V j).isSome = true then 1 else 0)
def cK (V : Vw) : Nat → Nat
  | 0 => 0
  | j + 1 => cK V j + vKn V j
theorem add0 (x : Int32) : x + 0 = x := by simp
section CN
variable {h : Hp} {r k N : Nat} {V : Vw}
theorem q_tops_L (hV : RowV (h r) V) (hW : Wf k V) : ∀ (m j fuel : Nat), j + m = vN V → m < fuel → fX0_tops_L4 N h r fuel (nI (cT V j)) (nI j) = some (nI (cT V (vN V))) := by
  intro m
  have hn := hW.n
  induction m with
  | zero =>
    intro j fuel hj hf
    obtain ⟨fuel, rfl⟩ : ∃ f, fuel = f + 1 := ⟨fuel - 1, by omega⟩
    rw [fX0_tops_L4, q_cords hV, if_neg (nI_nlt (by omega) (by omega)), show j = vN V by omega]
  | succ m ih =>
    intro j fuel hj hf
    obtain ⟨fuel, rfl⟩ : ∃ f, fuel = f + 1 := ⟨fuel - 1, by omega⟩
    have hlt : j < vN V := by omega
    have nxt := ih (j + 1) fuel (by omega) (by omega)
    rw [fX0_tops_L4, q_cords hV, if_pos (nI_lt hlt (by omega)), q_top hV hW hlt, nI_1 j]
    rw [cT] at nxt
    cases ht : vTop V j with
    | false =>
      rw [ht] at nxt
      rw [show b2 false = (0 : Int32) from rfl, if_pos rfl, add0]
      simpa using nxt
    | true =>
      rw [ht, if_pos rfl] at nxt
      rw [show b2 true = (1 : Int32) from rfl, if_neg n10, nI_1]
      exact nxt
theorem q_well_L (hV : RowV (h r) V) (hW : Wf k V) (hN : 10 ≤ N) : ∀ (m j fuel : Nat), j + m = vN V → m < fuel → fX0_wellKnotted_L4 N h r fuel (nI (cW V j)) (nI j) = some (nI (cW V (vN V))) := by
  intro m
  have hn := hW.n
  induction m with
  | zero =>
    intro j fuel hj hf
    obtain ⟨fuel, rfl⟩ : ∃ f, fuel = f + 1 := ⟨fuel - 1, by omega⟩
    rw [fX0_wellKnotted_L4, q_cords hV, if_neg (nI_nlt (by omega) (by omega)), show j = vN V by omega]
  | succ m ih =>
    intro j fuel hj hf
    obtain ⟨fuel, rfl⟩ : ∃ f, fuel = f + 1 := ⟨fuel - 1, by omega⟩
    have hlt : j < vN V := by omega
    have nxt := ih (j + 1) fuel (by omega) (by omega)
    rw [fX0_wellKnotted_L4, q_cords hV, if_pos (nI_lt hlt (by omega)), q_value hV hW hN hlt, Option.bind_some, nI_1 j]
    rw [cW] at nxt
    cases ht : vVal V j with
    | none =>
      rw [ht] at nxt
      rw [show encP none = (-4 : Int32) from rfl, if_pos rfl, add0]
      simpa using nxt
    | some x =>
      have := vVal_lt hW hlt ht
      rw [ht, if_pos (show (some x).isSome = true from rfl)] at nxt
      rw [show encP (some x) = nI x from rfl, if_neg (encP_ne (by omega)), nI_1]
      exact nxt
theorem q_all_L (hV : RowV (h r) V) (hW : Wf k V) (hN : 10 ≤ N) : ∀ (m j fuel : Nat), j + m = vN V → m < fuel → fX0_allKnots_L4 N h r fuel (nI (cK V j)) (nI j) = some (nI (cK V (vN V))) := by
  intro m
  have hn := hW.n
  induction m with
  | zero =>
    intro j fuel hj hf
    obtain ⟨fuel, rfl⟩ : ∃ f, fuel = f + 1 := ⟨fuel - 1, by omega⟩
    rw [fX0_allKnots_L4, q_cords hV, if_neg (nI_nlt (by omega) (by omega)), show j = vN V by omega]
  | succ m ih =>
    intro j fuel hj hf
    obtain ⟨fuel, rfl⟩ : ∃ f, fuel = f + 1 := ⟨fuel - 1, by omega⟩
    have hlt : j < vN V := by omega
    have nxt := ih (j + 1) fuel (by omega) (by omega)
    rw [fX0_allKnots_L4, q_cords hV, if_pos (nI_lt hlt (by omega)), q_knots hV hW hN hlt, Option.bind_some, nI_1 j, nI_add]
    exact nxt
theorem m_count_L (hV : ModV (h 23) V) (hW : Wf k V) (hN : 10 ≤ N) (a1 : Int32) : ∀ (m j fuel : Nat), j + m = vN V → m < fuel → fX5_count_L10 N h a1 fuel (nI (cT V j)) (nI (cW V j)) (nI (cK V j)) (nI j) = (if a1 = 0 then (some (h 23 0)) else (if a1 = 1 then (some (h 23 1)) else (if a1 = 2 then (some (nI (cT V (vN V)))) else (if a1 = 3 then (some (nI (cW V (vN V)))) else (if a1 = 4 then (some (nI (cK V (vN V)))) else (if a1 = 5 then (some (h 22 2)) else (if a1 = 6 then (some (h 22 4)) else (if a1 = 7 then (some (h 22 6)) else (some (-1)))))))))) := by
  intro m
  have hn := hW.n
  induction m with
  | zero =>
    intro j fuel hj hf
    obtain ⟨fuel, rfl⟩ : ∃ f, fuel = f + 1 := ⟨fuel - 1, by omega⟩
    rw [fX5_count_L10, if_neg (by rw [hV.1]; exact nI_nlt (by omega) (by omega)), show j = vN V by omega]
  | succ m ih =>
    intro j fuel hj hf
    obtain ⟨fuel, rfl⟩ : ∃ f, fuel = f + 1 := ⟨fuel - 1, by omega⟩
    have hlt : j < vN V := by omega
    have nxt := ih (j + 1) fuel (by omega) (by omega)
    rw [fX5_count_L10, if_pos (by rw [hV.1]; exact nI_lt hlt (by omega)), r_top hV hW hlt, Option.bind_some, m_value hV hW hN hlt, Option.bind_some]
    unfold fX5_count_J52
    rw [m_knots hV hW hN hlt, Option.bind_some, nI_1 j, nI_add]
    rw [cT, cW, cK] at nxt
    have e1 : nI (cT V j) + b2 (vTop V j) = nI (cT V j + (if vTop V j = true then 1 else 0)) := by
      cases vTop V j with
      | false => rw [show b2 false = (0 : Int32) from rfl, add0]; rfl
      | true => rw [show b2 true = (1 : Int32) from rfl, nI_1]; rfl
    have e2 : nI (cW V j) + (if encP (vVal V j) = -4 then (0 : Int32) else 1) = nI (cW V j + (if (vVal V j).isSome = true then 1 else 0)) := by
      cases ht : vVal V j with
      | none => rw [show encP none = (-4 : Int32) from rfl, if_pos rfl, add0]; rfl
      | some x =>
        have := vVal_lt hW hlt ht
        rw [show encP (some x) = nI x from rfl, if_neg (encP_ne (by omega)), nI_1]; rfl
    rw [e1, e2]
    exact nxt
end CN
theorem st_count (N : Nat) (hN : 70000 ≤ N) : SF_count N RR := by
  intro k h hk hR a1
  obtain ⟨⟨m, hm, l1, l2, -⟩, hDY, ⟨V, hW, hC, hM⟩, ⟨u, hu, u1, u2, -⟩, ⟨v, hv, v1, v2, -⟩⟩ := id hR
  have hn := hW.n
  have key : ∃ v, fX4_count N h a1 = some v ∧ fX5_count N h a1 = some v := by
    unfold fX5_count
    have hM5 := m_count_L (N := N) hM hW (by omega) a1 (vN V) 0 N (by omega) (by omega)
    rw [show fX5_count_L10 N h a1 N 0 0 0 0 = _ from hM5]
    unfold fX4_count fX0_tops fX0_wellKnotted fX0_allKnots
    have t1 := q_tops_L (N := N) hC hW (vN V) 0 N (by omega) (by omega)
    have t2 := q_well_L (N := N) hC hW (by omega) (vN V) 0 N (by omega) (by omega)
    have t3 := q_all_L (N := N) hC hW (by omega) (vN V) 0 N (by omega) (by omega)
    rw [show fX0_tops_L4 N h 7 N 0 0 = _ from t1, show fX0_wellKnotted_L4 N h 7 N 0 0 = _ from t2, show fX0_allKnots_L4 N h 7 N 0 0 = _ from t3, q_cords hC, q_groups hC, hM.1, hM.2.1, u1, u2, v1, v2, l1, l2]
    by_cases c0 : a1 = 0
    · rw [if_pos c0, if_pos c0]; exact ⟨_, rfl, rfl⟩
    rw [if_neg c0, if_neg c0]
    by_cases c1 : a1 = 1
    · rw [if_pos c1, if_pos c1]; exact ⟨_, rfl, rfl⟩
    rw [if_neg c1, if_neg c1]
    by_cases c2 : a1 = 2
    · rw [if_pos c2, if_pos c2]; exact ⟨_, rfl, rfl⟩
    rw [if_neg c2, if_neg c2]
    by_cases c3 : a1 = 3
    · rw [if_pos c3, if_pos c3]; exact ⟨_, rfl, rfl⟩
    rw [if_neg c3, if_neg c3]
    by_cases c4 : a1 = 4
    · rw [if_pos c4, if_pos c4]; exact ⟨_, rfl, rfl⟩
    rw [if_neg c4, if_neg c4]
    by_cases c5 : a1 = 5
    · rw [if_pos c5]; exact ⟨_, rfl, rfl⟩
    rw [if_neg c5]
    by_cases c6 : a1 = 6
    · rw [if_pos c6]; exact ⟨_, rfl, rfl⟩
    rw [if_neg c6]
    by_cases c7 : a1 = 7
    · rw [if_pos c7]; exact ⟨_, rfl, rfl⟩
    rw [if_neg c7]
    exact ⟨_, rfl, rfl⟩
  obtain ⟨v, e4, e5⟩ := key
  exact ⟨v, h, h, by rw [e4]; rfl, by rw [e5]; rfl, RR_mono k h hR⟩
