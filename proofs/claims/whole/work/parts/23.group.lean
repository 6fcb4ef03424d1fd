/-! groups: tops, sums, by how much they are wrong -/
def inG (V : Vw) (g c : Nat) : Bool := isPl V c && (g == 5 || vGrp V c == g)
def topP (V : Vw) (g c : Nat) : Bool := vTop V c && vGrp V c == g
def topS (V : Vw) (g : Nat) : Option Nat := (List.range (vN V)).find? (topP V g)
def sumS (V : Vw) (g : Nat) : Option Nat := osum (((List.range (vN V)).filter (inG V g)).map (vWhole V))
section GR
variable {h : Hp} {r k N : Nat} {V : Vw}
theorem topS_iff (hW : Wf k V) (g c : Nat) (hc : c < vN V) : topP V g c = true ↔ topS V g = some c := by
  unfold topS
  constructor
  · intro h1
    cases hf : (List.range (vN V)).find? (topP V g) with
    | none =>
      have := List.find?_eq_none.mp hf c (List.mem_range.mpr hc)
      exact absurd h1 this
    | some d =>
      have hd := List.mem_range.mp (List.mem_of_find?_eq_some hf)
      have h2 := List.find?_some hf
      simp only [topP, Bool.and_eq_true, beq_iff_eq] at h1 h2
      rw [hW.2.2.2.2.1 d c hd hc h2.1 h1.1 (h2.2.trans h1.2.symm)]
  · intro hf
    exact List.find?_some hf
theorem topS_lt {g c : Nat} (h1 : topS V g = some c) : c < vN V := List.mem_range.mp (List.mem_of_find?_eq_some h1)
theorem q_topOf_L (hV : RowV (h r) V) (hW : Wf k V) {g : Nat} (hg : g < 2 ^ 31) : ∀ (m j fuel : Nat), j + m = vN V → m < fuel → (∀ c, c < j → topP V g c = false) → fX0_topOf_L2 N h r (nI g) fuel (nI j) = some (encP (topS V g)) := by
  intro m
  have hn := hW.n
  induction m with
  | zero =>
    intro j fuel hj hf hno
    obtain ⟨fuel, rfl⟩ : ∃ f, fuel = f + 1 := ⟨fuel - 1, by omega⟩
    rw [fX0_topOf_L2, q_cords hV, if_neg (nI_nlt (by omega) (by omega))]
    have : topS V g = none := List.find?_eq_none.mpr (fun c hc => by rw [hno c (by have := List.mem_range.mp hc; omega)]; decide)
    rw [this]
    rfl
  | succ m ih =>
    intro j fuel hj hf hno
    obtain ⟨fuel, rfl⟩ : ∃ f, fuel = f + 1 := ⟨fuel - 1, by omega⟩
    have hlt : j < vN V := by omega
    have hgl : vGrp V j < 2 ^ 31 := by have := (hW.c hlt).2.2.2.2.2.2.1; have := hW.1.2; omega
    have next : topP V g j = false → fX0_topOf_L2 N h r (nI g) fuel (nI j + 1) = some (encP (topS V g)) := fun hb => by
      rw [nI_1]
      exact ih (j + 1) fuel (by omega) (by omega) (fun c hc => by
        rcases Nat.lt_or_ge c j with q | q
        · exact hno c q
        · have : c = j := by omega
          subst this; exact hb)
    rw [fX0_topOf_L2, q_cords hV, if_pos (nI_lt hlt (by omega)), q_top hV hW hlt, q_group hV hW hlt]
    cases ht : vTop V j with
    | false =>
      rw [show b2 false = (0 : Int32) from rfl, if_pos rfl]
      exact next (by simp [topP, ht])
    | true =>
      rw [show b2 true = (1 : Int32) from rfl, if_neg (by decide)]
      by_cases hgr : vGrp V j = g
      · rw [hgr, if_pos rfl, (topS_iff hW g j hlt).mp (by simp [topP, ht, hgr])]
        rfl
      · rw [if_neg (ne_lit hgl hg hgr)]
        exact next (by simp [topP, hgr])
theorem q_topOf (hV : RowV (h r) V) (hW : Wf k V) (hN : 20 ≤ N) {g : Nat} (hg : g < 2 ^ 31) : fX0_topOf N h r (nI g) = some (encP (topS V g)) := by
  have hn := hW.n
  exact q_topOf_L hV hW hg (vN V) 0 N (by omega) (by omega) (fun c hc => by omega)
theorem m_topOf_L (hV : ModV (h 23) V) (hW : Wf k V) {g : Nat} (hg : g < 2 ^ 31) : ∀ (m j fuel : Nat), j + m = vN V → m < fuel → fX5_topOf_L5 N h (nI g) fuel (encP ((topS V g).filter (fun c => decide (c < j)))) (nI j) = some (encP (topS V g)) := by
  intro m
  have hn := hW.n
  induction m with
  | zero =>
    intro j fuel hj hf
    obtain ⟨fuel, rfl⟩ : ∃ f, fuel = f + 1 := ⟨fuel - 1, by omega⟩
    rw [fX5_topOf_L5, hV.1, if_neg (nI_nlt (by omega) (by omega))]
    cases ht : topS V g with
    | none => rfl
    | some c =>
      have : c < j := by have := topS_lt ht; omega
      simp [Option.filter, this]
  | succ m ih =>
    intro j fuel hj hf
    obtain ⟨fuel, rfl⟩ : ∃ f, fuel = f + 1 := ⟨fuel - 1, by omega⟩
    have hlt : j < vN V := by omega
    have hgl : vGrp V j < 2 ^ 31 := by have := (hW.c hlt).2.2.2.2.2.2.1; have := hW.1.2; omega
    have hstep : ¬ topS V g = some j → (topS V g).filter (fun c => decide (c < j)) = (topS V g).filter (fun c => decide (c < j + 1)) := fun hne => by
      cases ht : topS V g with
      | none => rfl
      | some c =>
        have : ¬ c = j := fun e => hne (by rw [ht, e])
        by_cases h1 : c < j
        · have : c < j + 1 := by omega
          simp [Option.filter, h1, this]
        · have : ¬ c < j + 1 := by omega
          simp [Option.filter, h1, this]
    rw [fX5_topOf_L5, hV.1, if_pos (nI_lt hlt (by omega)), r_top hV hW hlt, r_grp hV hW hlt, Option.bind_some, Option.bind_some, nI_1]
    cases ht : vTop V j with
    | false =>
      rw [show b2 false = (0 : Int32) from rfl, if_neg (by decide), hstep (fun q => by have := (topS_iff hW g j hlt).mpr q; simp [topP, ht] at this)]
      exact ih (j + 1) fuel (by omega) (by omega)
    | true =>
      rw [show b2 true = (1 : Int32) from rfl, if_pos rfl]
      by_cases hgr : vGrp V j = g
      · have hs := (topS_iff hW g j hlt).mp (by simp [topP, ht, hgr])
        rw [hgr, if_pos rfl]
        have := ih (j + 1) fuel (by omega) (by omega)
        rw [hs] at this ⊢
        simpa [Option.filter, encP] using this
      · rw [if_neg (ne_lit hgl hg hgr), hstep (fun q => by have := (topS_iff hW g j hlt).mpr q; simp [topP, hgr] at this)]
        exact ih (j + 1) fuel (by omega) (by omega)
theorem m_topOf (hV : ModV (h 23) V) (hW : Wf k V) (hN : 20 ≤ N) {g : Nat} (hg : g < 2 ^ 31) : fX5_topOf N h (nI g) = some (encP (topS V g)) := by
  have hn := hW.n
  have := m_topOf_L (N := N) hV hW hg (vN V) 0 N (by omega) (by omega)
  rw [show (topS V g).filter (fun c => decide (c < 0)) = none from by cases topS V g <;> simp [Option.filter]] at this
  exact this
theorem dep0 (hW : Wf k V) {c : Nat} (hc : c < vN V) : (vDep V c = 0) ↔ vPar V c = none := by
  have := hW.c hc
  constructor
  · intro h0
    cases hp : vPar V c with
    | none => rfl
    | some p => have := (this.2.2.2.2.2.1 p hp).2.1; omega
  · exact this.2.2.2.2.1
theorem q_plain (hV : RowV (h r) V) (hW : Wf k V) {c : Nat} (hc : c < vN V) : fX0_isPlainPendant h r (nI c) = b2 (isPl V c) := by
  have hd2 := (hW.c hc).2.2.2.1
  unfold fX0_isPlainPendant isPl
  rw [q_hasCord1 hV hW hc, if_neg (by decide), q_depth hV hW hc, q_top hV hW hc]
  cases hp : vPar V c with
  | none =>
    rw [(dep0 hW hc).mpr hp, if_pos (show nI 0 = (0 : Int32) from rfl)]
    cases vTop V c <;> rfl
  | some p =>
    rw [if_neg (show ¬ nI (vDep V c) = (0 : Int32) from ne_lit (b := 0) (by omega) (by omega) (fun q => by have := (dep0 hW hc).mp q; rw [hp] at this; cases this))]
    rfl
theorem m_isOf (hV : ModV (h 23) V) (hW : Wf k V) {c g : Nat} (hc : c < vN V) (hg : g < 2 ^ 31) : fX5_isOf h (nI c) (nI g) = some (b2 (inG V g c)) := by
  have hgl : vGrp V c < 2 ^ 31 := by have := (hW.c hc).2.2.2.2.2.2.1; have := hW.1.2; omega
  unfold fX5_isOf inG
  rw [m_isPlain hV hW hc, Option.bind_some]
  cases isPl V c with
  | false => rfl
  | true =>
    rw [show b2 true = (1 : Int32) from rfl, if_neg (by decide)]
    by_cases h5 : g = 5
    · subst h5
      rw [if_pos (show nI 5 = (5 : Int32) from rfl)]
      rfl
    · rw [if_neg (show ¬ nI g = (5 : Int32) from ne_lit (b := 5) hg (by omega) h5), r_grp hV hW hc, Option.bind_some]
      by_cases h6 : vGrp V c = g
      · rw [h6, if_pos rfl]; simp [b2]
      · rw [if_neg (ne_lit hgl hg h6)]
        simp [b2, h5, h6]
theorem q_sum_L (hV : RowV (h r) V) (hW : Wf k V) (hN : 20 ≤ N) {g : Nat} (hg : g < 5) : ∀ (m j acc fuel : Nat), j + m = vN V → m < fuel → fX0_sumOf_L4 N h r (nI g) fuel (nI acc) (nI j) = some (encP ((osum (((List.range' j m).filter (inG V g)).map (vWhole V))).map (fun y => acc + y))) := by
  intro m
  have hn := hW.n
  induction m with
  | zero =>
    intro j acc fuel hj hf
    obtain ⟨fuel, rfl⟩ : ∃ f, fuel = f + 1 := ⟨fuel - 1, by omega⟩
    rw [fX0_sumOf_L4, q_cords hV, if_neg (nI_nlt (by omega) (by omega))]
    rfl
  | succ m ih =>
    intro j acc fuel hj hf
    obtain ⟨fuel, rfl⟩ : ∃ f, fuel = f + 1 := ⟨fuel - 1, by omega⟩
    have hlt : j < vN V := by omega
    have hgl : vGrp V j < 2 ^ 31 := by have := (hW.c hlt).2.2.2.2.2.2.1; have := hW.1.2; omega
    rw [fX0_sumOf_L4, q_cords hV, if_pos (nI_lt hlt (by omega)), q_plain hV hW hlt, q_group hV hW hlt, List.range'_succ, nI_1]
    cases hp : isPl V j with
    | false =>
      rw [show b2 false = (0 : Int32) from rfl, if_pos rfl, ih (j + 1) acc fuel (by omega) (by omega), List.filter_cons_of_neg (p := inG V g) (a := j) (by simp [inG, hp])]
    | true =>
      rw [show b2 true = (1 : Int32) from rfl, if_neg (by decide)]
      by_cases hgr : vGrp V j = g
      · have hb : inG V g j = true := by simp [inG, hp, hgr]
        rw [hgr, if_pos rfl, q_whole hV hW hN hlt, Option.bind_some, List.filter_cons_of_pos (p := inG V g) (a := j) hb, List.map_cons]
        cases hv : vWhole V j with
        | none => rw [show encP none = (-4 : Int32) from rfl, if_pos rfl]; rfl
        | some x =>
          have := vWhole_lt hW hlt hv
          rw [show encP (some x) = nI x from rfl, if_neg (encP_ne (by omega)), nI_add, ih (j + 1) (acc + x) fuel (by omega) (by omega)]
          simp only [osum, Option.bind_some, Option.map_map]
          congr 2
          cases osum (((List.range' (j + 1) m).filter (inG V g)).map (vWhole V)) with
          | none => rfl
          | some y => simp only [Option.map_some, Function.comp]; congr 1; omega
      · have hb : ¬ inG V g j = true := by
          have h5 : ¬ g = 5 := by omega
          simp [inG, hgr, h5]
        rw [if_neg (ne_lit hgl (by omega) hgr), ih (j + 1) acc fuel (by omega) (by omega), List.filter_cons_of_neg (p := inG V g) (a := j) hb]
theorem q_sum (hV : RowV (h r) V) (hW : Wf k V) (hN : 20 ≤ N) {g : Nat} (hg : g < 5) : fX0_sumOf N h r (nI g) = some (encP (sumS V g)) := by
  have hn := hW.n
  unfold fX0_sumOf
  have := q_sum_L hV hW hN hg (vN V) 0 0 N (by omega) (by omega)
  rw [show fX0_sumOf_L4 N h r (nI g) N 0 0 = _ from this, ← List.range_eq_range']
  show some (encP (Option.map _ (sumS V g))) = _
  cases sumS V g with
  | none => rfl
  | some y => simp
theorem m_sum_L (hV : ModV (h 23) V) (hW : Wf k V) (hN : 20 ≤ N) {g : Nat} (hg : g < 2 ^ 31) : ∀ (m j acc fuel : Nat), j + m = vN V → m < fuel → fX5_sumOf_L4 N h (nI g) fuel (nI acc) (nI j) = some (encP ((osum (((List.range' j m).filter (inG V g)).map (vWhole V))).map (fun y => acc + y))) := by
  intro m
  have hn := hW.n
  induction m with
  | zero =>
    intro j acc fuel hj hf
    obtain ⟨fuel, rfl⟩ : ∃ f, fuel = f + 1 := ⟨fuel - 1, by omega⟩
    rw [fX5_sumOf_L4, hV.1, if_neg (nI_nlt (by omega) (by omega))]
    rfl
  | succ m ih =>
    intro j acc fuel hj hf
    obtain ⟨fuel, rfl⟩ : ∃ f, fuel = f + 1 := ⟨fuel - 1, by omega⟩
    have hlt : j < vN V := by omega
    rw [fX5_sumOf_L4, hV.1, if_pos (nI_lt hlt (by omega)), m_isOf hV hW hlt hg, Option.bind_some, List.range'_succ, nI_1]
    by_cases hb : inG V g j = true
    · rw [hb, show b2 true = (1 : Int32) from rfl, if_neg (by decide), m_whole hV hW hN hlt, Option.bind_some, List.filter_cons_of_pos (p := inG V g) (a := j) hb, List.map_cons]
      cases hv : vWhole V j with
      | none => rw [show encP none = (-4 : Int32) from rfl, if_pos rfl]; rfl
      | some x =>
        have := vWhole_lt hW hlt hv
        rw [show encP (some x) = nI x from rfl, if_neg (encP_ne (by omega)), Option.bind_some, nI_add, ih (j + 1) (acc + x) fuel (by omega) (by omega)]
        simp only [osum, Option.bind_some, Option.map_map]
        congr 2
        cases osum (((List.range' (j + 1) m).filter (inG V g)).map (vWhole V)) with
        | none => rfl
        | some y => simp only [Option.map_some, Function.comp]; congr 1; omega
    · have hb' : inG V g j = false := by simpa using hb
      rw [hb', show b2 false = (0 : Int32) from rfl, if_pos rfl, ih (j + 1) acc fuel (by omega) (by omega), List.filter_cons_of_neg (p := inG V g) (a := j) hb]
theorem m_sum (hV : ModV (h 23) V) (hW : Wf k V) (hN : 20 ≤ N) {g : Nat} (hg : g < 2 ^ 31) : fX5_sumOf N h (nI g) = some (encP (sumS V g)) := by
  have hn := hW.n
  unfold fX5_sumOf
  have := m_sum_L hV hW hN hg (vN V) 0 0 N (by omega) (by omega)
  rw [show fX5_sumOf_L4 N h (nI g) N 0 0 = _ from this, ← List.range_eq_range']
  show some (encP (Option.map _ (sumS V g))) = _
  cases sumS V g with
  | none => rfl
  | some y => simp
/-- the sum and the whole of the top, where both are -/
def cmpS (V : Vw) (g : Nat) : Option (Nat × Nat) := (topS V g).bind fun t => (vWhole V t).bind fun w => (sumS V g).map fun s => (s, w)
theorem sumS_lt (hW : Wf k V) {g y : Nat} (h1 : sumS V g = some y) : y ≤ 16 * 170001 := by
  have hn := hW.n
  have h2 := osum_lt _ 170001 (fun x hx => by
    obtain ⟨d, hd, e⟩ := List.mem_map.mp hx
    have := vWhole_lt hW (List.mem_range.mp (List.mem_filter.mp hd).1) e
    omega) y h1
  have h3 : (((List.range (vN V)).filter (inG V g)).map (vWhole V)).length ≤ 16 := by
    rw [List.length_map]
    have := List.length_filter_le (inG V g) (List.range (vN V))
    rw [List.length_range] at this
    omega
  exact Nat.le_trans h2 (Nat.mul_le_mul_right _ h3)
theorem q_can (hV : RowV (h r) V) (hW : Wf k V) (hN : 20 ≤ N) {g : Nat} (hg : g < 5) : fX0_canBeCompared N h r (nI g) = some (if (cmpS V g).isSome = true then 1 else 0) := by
  unfold fX0_canBeCompared cmpS
  rw [q_topOf hV hW hN (by omega), q_sum hV hW hN hg, Option.bind_some, Option.bind_some]
  cases ht : topS V g with
  | none => rfl
  | some t =>
    have htl := topS_lt ht
    have := hW.n
    rw [show encP (some t) = nI t from rfl, if_neg (encP_ne (by omega)), q_whole hV hW hN htl, Option.bind_some, Option.bind_some]
    cases hw : vWhole V t with
    | none => rfl
    | some w =>
      have := vWhole_lt hW htl hw
      rw [show encP (some w) = nI w from rfl, if_neg (encP_ne (by omega))]
      cases hs : sumS V g with
      | none => rfl
      | some y =>
        have := sumS_lt hW hs
        rw [show encP (some y) = nI y from rfl, if_neg (encP_ne (by omega))]
        rfl
theorem q_excess (hV : RowV (h r) V) (hW : Wf k V) (hN : 20 ≤ N) {g y w : Nat} (hg : g < 5) (hc : cmpS V g = some (y, w)) : fX0_excessOf N h r (nI g) = some (nI y - nI w) := by
  unfold cmpS at hc
  obtain ⟨t, ht, hc⟩ := Option.bind_eq_some_iff.mp hc
  obtain ⟨w', hw, hc⟩ := Option.bind_eq_some_iff.mp hc
  obtain ⟨y', hy, hc⟩ := Option.map_eq_some_iff.mp hc
  cases hc
  have htl := topS_lt ht
  unfold fX0_excessOf
  rw [q_topOf hV hW hN (by omega), q_sum hV hW hN hg, ht, hy, Option.bind_some, Option.bind_some, show encP (some t) = nI t from rfl, q_whole hV hW hN htl, hw]
  rfl
theorem m_wrongBy (hV : ModV (h 23) V) (hW : Wf k V) (hN : 20 ≤ N) {g : Nat} (hg : g < 2 ^ 31) : fX5_wrongBy N h (nI g) = some (match cmpS V g with | none => -4 | some (y, w) => nI y - nI w + 100000) := by
  unfold fX5_wrongBy cmpS
  rw [m_topOf hV hW hN hg, m_sum hV hW hN hg, Option.bind_some]
  cases ht : topS V g with
  | none => rfl
  | some t =>
    have htl := topS_lt ht
    have := hW.n
    rw [show encP (some t) = nI t from rfl, if_neg (encP_ne (by omega)), m_whole hV hW hN htl]
    simp only [Option.bind_some]
    cases hw : vWhole V t with
    | none => rfl
    | some w =>
      have := vWhole_lt hW htl hw
      rw [show encP (some w) = nI w from rfl, if_neg (encP_ne (by omega))]
      simp only [Option.bind_some]
      cases hs : sumS V g with
      | none => rfl
      | some y =>
        have := sumS_lt hW hs
        rw [show encP (some y) = nI y from rfl, if_neg (encP_ne (by omega))]
        rfl
end GR
