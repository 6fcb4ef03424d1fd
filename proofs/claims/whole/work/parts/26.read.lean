/-! colours, path, count -/
theorem col_case (h : Hp) (x : Int32) : (fX4_isColour h x = 0 ∧ fX5_in h x.toInt64 0 9 = 0) ∨ (fX4_isColour h x = 1 ∧ fX5_in h x.toInt64 0 9 = 1 ∧ ∃ c, c ≤ 9 ∧ x = nI c) := by
  have e0 : (0 : Int64).toInt = 0 := rfl
  have e9 : (9 : Int64).toInt = 9 := rfl
  have f0 : (0 : Int32).toInt = 0 := rfl
  have f9 : (9 : Int32).toInt = 9 := rfl
  unfold fX4_isColour
  by_cases h1 : x < 0
  · refine Or.inl ⟨by rw [if_pos h1], in_no h (by rw [Int32.toInt_toInt64, e0]; rw [Int32.lt_iff_toInt_lt] at h1; omega)⟩
  · by_cases h2 : 9 < x
    · refine Or.inl ⟨by rw [if_neg h1, if_pos h2], in_no h (by rw [Int32.toInt_toInt64, e9]; rw [Int32.lt_iff_toInt_lt] at h2; omega)⟩
    · have g1 : ¬ x.toInt < 0 := fun q => h1 (by rw [Int32.lt_iff_toInt_lt]; omega)
      have g2 : ¬ 9 < x.toInt := fun q => h2 (by rw [Int32.lt_iff_toInt_lt]; omega)
      refine Or.inr ⟨by rw [if_neg h1, if_neg h2], in_yes h (by rw [Int32.toInt_toInt64, e0]; omega) (by rw [Int32.toInt_toInt64, e9]; omega), x.toInt.toNat, by omega, ?_⟩
      apply Int32.toInt_inj.mp
      rw [nI_toInt (by omega)]
      omega
theorem two_case (h : Hp) (x : Int32) : ((x < 0 ∨ 1 < x) ∧ fX5_isTwo h x = 0) ∨ (¬ x < 0 ∧ ¬ 1 < x ∧ fX5_isTwo h x = 1 ∧ (x = 0 ∨ x = 1)) := by
  have e0 : (0 : Int64).toInt = 0 := rfl
  have e9 : (1 : Int64).toInt = 1 := rfl
  have f0 : (0 : Int32).toInt = 0 := rfl
  have f9 : (1 : Int32).toInt = 1 := rfl
  unfold fX5_isTwo
  by_cases h1 : x < 0
  · refine Or.inl ⟨Or.inl h1, in_no h (by rw [Int32.toInt_toInt64, e0]; rw [Int32.lt_iff_toInt_lt] at h1; omega)⟩
  · by_cases h2 : 1 < x
    · refine Or.inl ⟨Or.inr h2, in_no h (by rw [Int32.toInt_toInt64, e9]; rw [Int32.lt_iff_toInt_lt] at h2; omega)⟩
    · have g1 : ¬ x.toInt < 0 := fun q => h1 (by rw [Int32.lt_iff_toInt_lt]; omega)
      have g2 : ¬ 1 < x.toInt := fun q => h2 (by rw [Int32.lt_iff_toInt_lt]; omega)
      refine Or.inr ⟨h1, h2, in_yes h (by rw [Int32.toInt_toInt64, e0]; omega) (by rw [Int32.toInt_toInt64, e9]; omega), ?_⟩
      rcases (show x.toInt = 0 ∨ x.toInt = 1 by omega) with q | q
      · exact Or.inl (Int32.toInt_inj.mp q)
      · exact Or.inr (Int32.toInt_inj.mp q)
def tld (o : Option Nat) : Int32 := match o with
  | none => 0
  | some x => nI x
section RD
variable {h : Hp} {r k N : Nat} {V : Vw}
theorem q_told (hV : RowV (h r) V) (hW : Wf k V) (hN : 10 ≤ N) {c : Nat} (hc : c < vN V) : fX0_told N h r (nI c) = some (tld (vVal V c)) := by
  unfold fX0_told
  rw [q_value hV hW hN hc, Option.bind_some]
  cases hv : vVal V c with
  | none => rfl
  | some x =>
    have := vVal_lt hW hc hv
    rw [show encP (some x) = nI x from rfl, if_neg (nI_pos (by omega))]
    rfl
theorem colours_L (hC : RowV (h 7) V) (hM : ModV (h 23) V) (hW : Wf k V) (hN : 20 ≤ N) (a2 : Int32) {x : Nat} (hx : x ≤ 9) : ∀ (m j fuel : Nat) (u3 u4 : Int32), j + m = vN V → m < fuel → ∃ v, fX4_colours_L26 N h (nI x) a2 fuel u3 u4 (nI j) = some v ∧ fX5_colours_L29 N h (nI x) a2 fuel u3 u4 (nI j) = some v := by
  intro m
  have hn := hW.n
  induction m with
  | zero =>
    intro j fuel u3 u4 hj hf
    obtain ⟨fuel, rfl⟩ : ∃ f, fuel = f + 1 := ⟨fuel - 1, by omega⟩
    rw [fX4_colours_L26, fX5_colours_L29, q_cords hC, hM.1, if_neg (nI_nlt (by omega) (by omega)), if_neg (nI_nlt (by omega) (by omega))]
    by_cases h0 : a2 = 0
    · rw [if_pos h0]; exact ⟨_, rfl, rfl⟩
    · rw [if_neg h0]; exact ⟨_, rfl, rfl⟩
  | succ m ih =>
    intro j fuel u3 u4 hj hf
    obtain ⟨fuel, rfl⟩ : ∃ f, fuel = f + 1 := ⟨fuel - 1, by omega⟩
    have hlt : j < vN V := by omega
    have hcl := (hW.c hlt).1
    rw [fX4_colours_L26, fX5_colours_L29, q_cords hC, hM.1, if_pos (nI_lt hlt (by omega)), if_pos (nI_lt hlt (by omega)), q_colour hC hW hlt, r_col hM hW hlt, Option.bind_some, nI_1]
    by_cases hc : vCol V j = x
    · rw [hc, if_pos rfl, if_pos rfl, q_told hC hW (by omega) hlt, m_value hM hW (by omega) hlt, Option.bind_some, Option.bind_some, Option.bind_some]
      cases hv : vVal V j with
      | none =>
        rw [show encP none = (-4 : Int32) from rfl, if_pos rfl]
        exact ih (j + 1) fuel _ _ (by omega) (by omega)
      | some y =>
        have := vVal_lt hW hlt hv
        rw [show encP (some y) = nI y from rfl, if_neg (encP_ne (by omega))]
        exact ih (j + 1) fuel _ _ (by omega) (by omega)
    · rw [if_neg (ne_lit (by omega) (by omega) hc), if_neg (ne_lit (by omega) (by omega) hc)]
      exact ih (j + 1) fuel _ _ (by omega) (by omega)
theorem path_L (hC : RowV (h 7) V) (hM : ModV (h 23) V) (hW : Wf k V) (hN : 20 ≤ N) {x y : Nat} (hx : x ≤ 9) (hy : y ≤ 9) : ∀ (m j fuel : Nat) (u3 : Int32), j + m = vN V → m < fuel → ∃ v, fX4_path_L21 N h (nI x) (nI y) fuel u3 (nI j) = some v ∧ fX5_path_L31 N h (nI x) (nI y) fuel u3 (nI j) = some v := by
  intro m
  have hn := hW.n
  induction m with
  | zero =>
    intro j fuel u3 hj hf
    obtain ⟨fuel, rfl⟩ : ∃ f, fuel = f + 1 := ⟨fuel - 1, by omega⟩
    rw [fX4_path_L21, fX5_path_L31, q_cords hC, hM.1, if_neg (nI_nlt (by omega) (by omega)), if_neg (nI_nlt (by omega) (by omega))]
    exact ⟨_, rfl, rfl⟩
  | succ m ih =>
    intro j fuel u3 hj hf
    obtain ⟨fuel, rfl⟩ : ∃ f, fuel = f + 1 := ⟨fuel - 1, by omega⟩
    have hlt : j < vN V := by omega
    have hcl := (hW.c hlt).1
    have hz : u3 + 0 = u3 := by simp
    have nxt := ih (j + 1) fuel u3 (by omega) (by omega)
    rw [fX4_path_L21, fX5_path_L31, q_cords hC, hM.1, if_pos (nI_lt hlt (by omega)), if_pos (nI_lt hlt (by omega)), q_holder hC hW hlt, r_col hM hW hlt, Option.bind_some, m_isPendant hM hW hlt, Option.bind_some]
    unfold fX5_path_J90
    rw [r_par hM hW hlt, nI_1, hz]
    cases hp : vPar V j with
    | none =>
      rw [show encP none = (-4 : Int32) from rfl, if_pos rfl]
      have e : b2 (none : Option Nat).isNone = 1 := rfl
      rw [e, if_neg n10, if_pos rfl]
      by_cases q : nI (vCol V j) = nI y
      · rw [if_pos q]; exact nxt
      · rw [if_neg q]; exact nxt
    | some p =>
      have hpl := hW.par hlt hp
      have hpn : p < vN V := by omega
      have hcp := (hW.c hpn).1
      have e : b2 (some p).isNone = 0 := rfl
      rw [show encP (some p) = nI p from rfl, if_neg (encP_ne (by omega)), q_colour hC hW hpn, q_colour hC hW hlt, e, if_pos rfl, show encM (some p) = nI p from rfl, Option.bind_some, r_col hM hW hpn, Option.bind_some, q_told hC hW (by omega) hlt, m_value hM hW (by omega) hlt]
      by_cases q1 : vCol V j = y
      · rw [q1, if_pos rfl, if_pos rfl]
        by_cases q2 : vCol V p = x
        · rw [q2, if_pos rfl, if_pos rfl, if_neg n10, Option.bind_some, Option.bind_some, Option.bind_some]
          cases hv : vVal V j with
          | none =>
            rw [show encP none = (-4 : Int32) from rfl, if_pos rfl, show tld none = (0 : Int32) from rfl, hz]
            exact nxt
          | some z =>
            have := vVal_lt hW hlt hv
            rw [show encP (some z) = nI z from rfl, if_neg (encP_ne (by omega))]
            exact ih (j + 1) fuel _ (by omega) (by omega)
        · rw [if_neg (ne_lit (by omega) (by omega) q2), if_neg (ne_lit (by omega) (by omega) q2), if_pos rfl]
          exact nxt
      · rw [if_neg (ne_lit (by omega) (by omega) q1), if_neg (ne_lit (by omega) (by omega) q1), if_pos rfl]
        by_cases q2 : nI (vCol V p) = nI x
        · rw [if_pos q2]; exact nxt
        · rw [if_neg q2]; exact nxt
end RD
theorem st_colours (N : Nat) (hN : 70000 ≤ N) : SF_colours N RR := by
  intro k h hk hR a1 a2
  obtain ⟨V, hW, hC, hM⟩ := hR.2.2.1
  have hn := hW.n
  have key : ∃ v, fX4_colours N h a1 a2 = some v ∧ fX5_colours N h a1 a2 = some v := by
    unfold fX4_colours fX5_colours
    rcases col_case h a1 with ⟨h1, h2⟩ | ⟨h1, h2, x, hx, rfl⟩
    · exact ⟨-1, by rw [h1, if_pos rfl], by rw [h2, if_pos rfl]⟩
    · rw [h1, if_neg n10, h2, if_neg n10]
      rcases two_case h a2 with ⟨h3, h4⟩ | ⟨h3, h4, h5, -⟩
      · refine ⟨-1, ?_, by rw [h4, if_pos rfl]⟩
        rcases h3 with q | q
        · rw [if_pos q]
        · by_cases q2 : a2 < 0
          · rw [if_pos q2]
          · rw [if_neg q2, if_pos q]
      · rw [if_neg h3, if_neg h4, h5, if_neg n10]
        exact colours_L hC hM hW (by omega) a2 hx (vN V) 0 N 0 0 (by omega) (by omega)
  obtain ⟨v, e4, e5⟩ := key
  exact ⟨v, h, h, by rw [e4]; rfl, by rw [e5]; rfl, RR_mono k h hR⟩
theorem st_path (N : Nat) (hN : 70000 ≤ N) : SF_path N RR := by
  intro k h hk hR a1 a2
  obtain ⟨V, hW, hC, hM⟩ := hR.2.2.1
  have hn := hW.n
  have key : ∃ v, fX4_path N h a1 a2 = some v ∧ fX5_path N h a1 a2 = some v := by
    unfold fX4_path fX5_path
    rcases col_case h a1 with ⟨h1, h2⟩ | ⟨h1, h2, x, hx, rfl⟩
    · exact ⟨-1, by rw [h1, if_pos rfl], by rw [h2, if_pos rfl]⟩
    · rcases col_case h a2 with ⟨h3, h4⟩ | ⟨h3, h4, y, hy, rfl⟩
      · exact ⟨-1, by rw [h1, if_neg n10, h3, if_pos rfl], by rw [h2, if_neg n10, h4, if_pos rfl]⟩
      · rw [h1, if_neg n10, h2, if_neg n10, h3, if_neg n10, h4, if_neg n10]
        exact path_L hC hM hW (by omega) hx hy (vN V) 0 N 0 (by omega) (by omega)
  obtain ⟨v, e4, e5⟩ := key
  exact ⟨v, h, h, by rw [e4]; rfl, by rw [e5]; rfl, RR_mono k h hR⟩
