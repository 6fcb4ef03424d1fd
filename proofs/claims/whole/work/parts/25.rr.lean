/-! the relation between the class's cells and the reference's; the calls that only read -/
def BR (k : Nat) (row a : Nat → Int32) : Prop := ∃ V : Vw, Wf k V ∧ RowV row V ∧ ModV a V
def TX (h : Hp) : Prop := ∃ m, m ≤ 200 ∧ h 0 1 = nI m ∧ h 22 6 = nI m ∧ ∀ i, i < m → h 1 i = h 26 i
def UN (k : Nat) (h : Hp) : Prop := ∃ u, u ≤ 8 ∧ h 8 2 = nI u ∧ h 22 2 = nI u ∧ ∀ j, j < u → BR k (fun i => h 9 (179 * j + i)) (fun i => h 24 (162 * j + i))
def KE (k : Nat) (h : Hp) : Prop := ∃ v, v ≤ 2 ∧ h 10 2 = nI v ∧ h 22 4 = nI v ∧ ∀ j, j < v → BR k (fun i => h 11 (179 * j + i)) (fun i => h 25 (162 * j + i))
def DY (h : Hp) : Prop := (h 8 0 = 8 ∧ h 10 0 = 2) ∧ ((h 12 3 = 16 ∧ h 12 4 = 17) ∨ (h 12 3 = 17 ∧ h 12 4 = 16))
def RR (k : Nat) (h : Hp) : Prop := TX h ∧ DY h ∧ BR k (h 7) (h 23) ∧ UN k h ∧ KE k h
theorem Wf.mono {k : Nat} {V : Vw} (h : Wf k V) : Wf (k + 1) V := ⟨h.1, fun c hc => by
  obtain ⟨a1, a2, a3, a4, a5, a6, a7, a8⟩ := h.2.1 c hc
  exact ⟨a1, a2, a3, a4, a5, a6, a7, by omega⟩, h.2.2⟩
theorem BR.mono {k : Nat} {row a : Nat → Int32} (h : BR k row a) : BR (k + 1) row a := by
  obtain ⟨V, h1, h2⟩ := h
  exact ⟨V, h1.mono, h2⟩
theorem RR_mono (k : Nat) (h : Hp) (hR : RR k h) : RR (k + 1) h := by
  obtain ⟨h1, h2, h3, ⟨u, u1, u2, u3, u4⟩, ⟨v, v1, v2, v3, v4⟩⟩ := hR
  exact ⟨h1, h2, h3.mono, ⟨u, u1, u2, u3, fun j hj => (u4 j hj).mono⟩, ⟨v, v1, v2, v3, fun j hj => (v4 j hj).mono⟩⟩
theorem q_hasGroup {h : Hp} {r k : Nat} {V : Vw} (hV : RowV (h r) V) (hW : Wf k V) (x : Int32) : (fX0_hasGroup h r x = 1 ∧ ∃ c, c < vG V ∧ x = nI c) ∨ (fX0_hasGroup h r x = 0 ∧ ∀ c, c < vG V → x ≠ nI c) := by
  have hn := hW.1.2
  unfold fX0_hasGroup
  rw [q_groups hV]
  rcases pk_ix x (n := vG V) (by omega) with h1 | h1 | ⟨j, hj, rfl⟩
  · refine Or.inr ⟨by rw [if_pos h1], fun c hc e => ?_⟩
    subst e
    exact nI_pos (by omega) h1
  · refine Or.inr ⟨?_, fun c hc e => ?_⟩
    · by_cases h0 : x < 0
      · rw [if_pos h0]
      · rw [if_neg h0, if_neg (i_nlt h1)]
    · subst e
      exact nI_ge hc (by omega) h1
  · refine Or.inl ⟨?_, j, hj, rfl⟩
    rw [if_neg (nI_pos (by omega)), if_pos (nI_lt hj (by omega))]
/-- both have the group, or none has -/
theorem grp_case {h : Hp} {k : Nat} {V : Vw} (hC : RowV (h 7) V) (hM : ModV (h 23) V) (hW : Wf k V) (x : Int32) : (fX0_hasGroup h 7 x = 0 ∧ fX5_isGroup h x = 0) ∨ (fX0_hasGroup h 7 x = 1 ∧ fX5_isGroup h x = 1 ∧ ∃ g, g < vG V ∧ x = nI g) := by
  rcases q_hasGroup hC hW x with ⟨h1, g, hg, e⟩ | ⟨h1, h2⟩ <;> rcases m_isGroup hM hW x with ⟨h3, g2, hg2, e2⟩ | ⟨h3, h4⟩
  · exact Or.inr ⟨h1, h3, g, hg, e⟩
  · exact absurd e (h4 g hg)
  · exact absurd e2 (h2 g2 hg2)
  · exact Or.inl ⟨h1, h3⟩
theorem cord_case {h : Hp} {k : Nat} {V : Vw} (hC : RowV (h 7) V) (hM : ModV (h 23) V) (hW : Wf k V) (x : Int32) : (fX0_hasCord h 7 x = 0 ∧ fX5_isCord h x = 0) ∨ (fX0_hasCord h 7 x = 1 ∧ fX5_isCord h x = 1 ∧ ∃ c, c < vN V ∧ x = nI c) := by
  rcases q_hasCord hC hW x with ⟨h1, g, hg, e⟩ | ⟨h1, h2⟩ <;> rcases m_isCord hM hW x with ⟨h3, g2, hg2, e2⟩ | ⟨h3, h4⟩
  · exact Or.inr ⟨h1, h3, g, hg, e⟩
  · exact absurd e (h4 g hg)
  · exact absurd e2 (h2 g2 hg2)
  · exact Or.inl ⟨h1, h3⟩
theorem n10 : ¬ (1 : Int32) = 0 := by decide
theorem st_wrong (N : Nat) (hN : 70000 ≤ N) : SF_wrong N RR := by
  intro k h hk hR a1
  obtain ⟨V, hW, hC, hM⟩ := hR.2.2.1
  have key : ∃ v, fX4_wrong N h a1 = some v ∧ fX5_wrong N h a1 = some v := by
    rcases grp_case hC hM hW a1 with ⟨h1, h2⟩ | ⟨h1, h2, g, hg, rfl⟩
    · exact ⟨-1, by unfold fX4_wrong; rw [h1, if_pos rfl], by unfold fX5_wrong; rw [h2, if_pos rfl]⟩
    · have hg5 : g < 5 := by have := hW.1.2; omega
      have e5 : fX5_wrong N h (nI g) = some (match cmpS V g with | none => -4 | some (y, w) => nI y - nI w + 100000) := by
        unfold fX5_wrong
        rw [h2, if_neg n10, m_wrongBy hM hW (by omega) (by omega)]
        rfl
      refine ⟨_, ?_, e5⟩
      unfold fX4_wrong
      rw [h1, if_neg n10, q_can hC hW (by omega) hg5, Option.bind_some]
      cases hc : cmpS V g with
      | none => rfl
      | some q =>
        obtain ⟨y, w⟩ := q
        rw [show (if (some (y, w)).isSome = true then (1 : Int32) else 0) = 1 from rfl, if_neg n10, q_excess hC hW (by omega) hg5 hc]
        rfl
  obtain ⟨v, e4, e5⟩ := key
  exact ⟨v, h, h, by rw [e4]; rfl, by rw [e5]; rfl, RR_mono k h hR⟩
theorem st_cluster (N : Nat) : SF_cluster N RR := by
  intro k h hk hR a1 a2
  obtain ⟨V, hW, hC, hM⟩ := hR.2.2.1
  have key : ∃ v, fX4_cluster h a1 a2 = v ∧ fX5_cluster h a1 a2 = some v := by
    unfold fX4_cluster fX5_cluster fX0_hasCluster
    rcases cord_case hC hM hW a1 with ⟨h1, h2⟩ | ⟨h1, h2, c, hc, rfl⟩
    · exact ⟨-1, by rw [h1, if_pos rfl, if_pos rfl], by rw [h2, if_pos rfl]⟩
    · have hs := hW.siz hc
      rw [h1, if_neg n10, h2, if_neg n10, r_siz hM hW hc, Option.bind_some, q_size hC hW hc]
      rcases in_nI h (n := vSiz V c) (by omega) a2 with ⟨h3, j, hj, rfl⟩ | ⟨h3, h4⟩
      · refine ⟨nI (vCod V c j), ?_, ?_⟩
        · rw [if_neg (nI_pos (by omega)), if_pos (nI_lt hj (by omega)), if_neg n10, q_code hC hW hc hj]
        · rw [h3, if_neg n10, m_knot0 hM hW hc hj]; rfl
      · refine ⟨-1, ?_, by rw [h3, if_pos rfl]⟩
        rcases pk_ix a2 (n := vSiz V c) (by omega) with q | q | ⟨j, hj, rfl⟩
        · rw [if_pos q, if_pos rfl]
        · by_cases h0 : a2 < 0
          · rw [if_pos h0, if_pos rfl]
          · rw [if_neg h0, if_neg (i_nlt q), if_pos rfl]
        · exact absurd rfl (h4 j hj)
  obtain ⟨v, e4, e5⟩ := key
  exact ⟨v, h, h, by rw [e4], by rw [e5]; rfl, RR_mono k h hR⟩
theorem st_cord (N : Nat) (hN : 70000 ≤ N) : SF_cord N RR := by
  intro k h hk hR a1 a2
  obtain ⟨V, hW, hC, hM⟩ := hR.2.2.1
  have key : ∃ v, fX4_cord N h a1 a2 = some v ∧ fX5_cord N h a1 a2 = some v := by
    unfold fX4_cord fX5_cord
    rcases cord_case hC hM hW a1 with ⟨h1, h2⟩ | ⟨h1, h2, c, hc, rfl⟩
    · exact ⟨-1, by rw [h1, if_pos rfl], by rw [h2, if_pos rfl]⟩
    · rw [h1, if_neg n10, h2, if_neg n10]
      have hN2 : 20 ≤ N := by omega
      have hN1 : 10 ≤ N := by omega
      by_cases c0 : a2 = 0
      · rw [if_pos c0, if_pos c0]; exact ⟨_, by rw [q_colour hC hW hc], by rw [r_col hM hW hc]; rfl⟩
      rw [if_neg c0, if_neg c0]
      by_cases c1 : a2 = 1
      · rw [if_pos c1, if_pos c1]; exact ⟨_, by rw [q_size hC hW hc], by rw [r_siz hM hW hc]; rfl⟩
      rw [if_neg c1, if_neg c1]
      by_cases c2 : a2 = 2
      · rw [if_pos c2, if_pos c2]
        refine ⟨encP (vPar V c), by rw [q_holder hC hW hc], ?_⟩
        rw [m_isPendant hM hW hc, Option.bind_some, r_par hM hW hc]
        cases vPar V c <;> rfl
      rw [if_neg c2, if_neg c2]
      by_cases c3 : a2 = 3
      · rw [if_pos c3, if_pos c3]; exact ⟨_, by rw [q_group hC hW hc], by rw [r_grp hM hW hc]; rfl⟩
      rw [if_neg c3, if_neg c3]
      by_cases c4 : a2 = 4
      · rw [if_pos c4, if_pos c4]; exact ⟨_, by rw [q_depth hC hW hc], by rw [m_depth hM hW hc]; rfl⟩
      rw [if_neg c4, if_neg c4]
      by_cases c5 : a2 = 5
      · rw [if_pos c5, if_pos c5]; exact ⟨_, by rw [q_hang hC hW hN2 hc]; rfl, by rw [m_hang hM hW hN2 hc]; rfl⟩
      rw [if_neg c5, if_neg c5]
      by_cases c6 : a2 = 6
      · rw [if_pos c6, if_pos c6]
        refine ⟨b2 (vTop V c), ?_, by rw [r_top hM hW hc]; rfl⟩
        rw [q_top hC hW hc]
        cases vTop V c <;> rfl
      rw [if_neg c6, if_neg c6]
      by_cases c7 : a2 = 7
      · rw [if_pos c7, if_pos c7]; exact ⟨_, by rw [q_value hC hW hN1 hc]; rfl, by rw [m_value hM hW hN1 hc]; rfl⟩
      rw [if_neg c7, if_neg c7]
      by_cases c8 : a2 = 8
      · rw [if_pos c8, if_pos c8]; exact ⟨_, by rw [q_whole hC hW hN2 hc]; rfl, by rw [m_whole hM hW hN2 hc]; rfl⟩
      rw [if_neg c8, if_neg c8]
      by_cases c9 : a2 = 9
      · rw [if_pos c9, if_pos c9]; exact ⟨_, by rw [q_other hC hW hN1 hc]; rfl, by rw [m_other hM hW hN1 hc]; rfl⟩
      rw [if_neg c9, if_neg c9]
      by_cases c10 : a2 = 10
      · rw [if_pos c10, if_pos c10]; exact ⟨_, by rw [q_knots hC hW hN1 hc]; rfl, by rw [m_knots hM hW hN1 hc]; rfl⟩
      rw [if_neg c10, if_neg c10]
      exact ⟨_, rfl, rfl⟩
  obtain ⟨v, e4, e5⟩ := key
  exact ⟨v, h, h, by rw [e4]; rfl, by rw [e5]; rfl, RR_mono k h hR⟩
