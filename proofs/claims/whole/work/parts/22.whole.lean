/-! sums of values, none if one is none -/
def osum : List (Option Nat) → Option Nat
  | [] => some 0
  | o :: l => o.bind fun x => (osum l).map (fun y => x + y)
theorem osum_perm {l1 l2 : List (Option Nat)} (h : l1.Perm l2) : osum l1 = osum l2 := by
  induction h with
  | nil => rfl
  | cons x _ ih => simp only [osum, ih]
  | swap x y l =>
    cases x with
    | none => cases y <;> simp [osum]
    | some a =>
      cases y with
      | none => simp [osum]
      | some b =>
        simp only [osum, Option.bind_some]
        cases osum l with
        | none => rfl
        | some c => simp only [Option.map_some]; congr 1; omega
  | trans _ _ ih1 ih2 => exact ih1.trans ih2
theorem encP_ne {x : Nat} (h : x < 2 ^ 31) : ¬ nI x = -4 := fun q => by
  have := congrArg Int32.toInt q
  rw [nI_toInt h] at this
  have e : (-4 : Int32).toInt = -4 := rfl
  omega
def fromB (V : Vw) (d c : Nat) : Bool := d == c || under V d c
def vBen (V : Vw) (c : Nat) : Option Nat := osum (((List.range (vN V)).filter (fun e => under V e c)).map (vVal V))
def vWhole (V : Vw) (c : Nat) : Option Nat := (vVal V c).bind fun v => (vBen V c).map (fun y => v + y)
theorem under_self {k : Nat} {V : Vw} (hW : Wf k V) {c : Nat} (hc : c < vN V) : under V c c = false := by
  unfold under
  cases hp : vPar V c with
  | none => rfl
  | some p =>
    have h1 := hW.par hc hp
    have h2 : ¬ p = c := by omega
    have h3 : ¬ vPar V p = some c := fun q => by
      have := hW.par (show p < vN V by omega) q
      omega
    simp [h2, h3]
theorem filter_from {k : Nat} {V : Vw} (hW : Wf k V) {c : Nat} (hc : c < vN V) : ((List.range (vN V)).filter (fun d => fromB V d c)).Perm (c :: (List.range (vN V)).filter (fun e => under V e c)) := by
  have hnd : (List.range (vN V)).Nodup := List.nodup_range
  refine (List.perm_ext_iff_of_nodup (hnd.filter _) (List.nodup_cons.mpr ⟨fun h => ?_, hnd.filter _⟩)).mpr (fun d => ?_)
  · have := (List.mem_filter.mp h).2
    rw [under_self hW hc] at this
    cases this
  · simp only [List.mem_filter, List.mem_cons, List.mem_range, fromB, Bool.or_eq_true, beq_iff_eq]
    constructor
    · rintro ⟨h1, h2 | h2⟩
      · exact Or.inl h2
      · exact Or.inr ⟨h1, h2⟩
    · rintro (h2 | ⟨h1, h2⟩)
      · subst h2; exact ⟨hc, Or.inl rfl⟩
      · exact ⟨h1, Or.inr h2⟩
theorem whole_from {k : Nat} {V : Vw} (hW : Wf k V) {c : Nat} (hc : c < vN V) : osum (((List.range (vN V)).filter (fun d => fromB V d c)).map (vVal V)) = vWhole V c := by
  rw [osum_perm ((filter_from hW hc).map (vVal V))]
  rfl
section WH
variable {h : Hp} {r k N : Nat} {V : Vw}
theorem q_from (hV : RowV (h r) V) (hW : Wf k V) {d c : Nat} (hd : d < vN V) (hc : c < vN V) : fX0_isFrom h r (nI d) (nI c) = if fromB V d c = true then 1 else 0 := by
  have hn := hW.n
  unfold fX0_isFrom fromB under
  rw [q_holder hV hW hd]
  by_cases h0 : d = c
  · subst h0
    rw [if_pos rfl]
    simp
  · rw [if_neg (ne_lit (by omega) (by omega) h0)]
    cases hp : vPar V d with
    | none =>
      rw [show encP none = (-4 : Int32) from rfl, if_neg (fun q => encP_ne (x := c) (by omega) q.symm), if_pos rfl]
      simp [h0]
    | some p =>
      have hpl := hW.par hd hp
      rw [show encP (some p) = nI p from rfl]
      by_cases h1 : p = c
      · subst h1
        rw [if_pos rfl]
        simp
      · rw [if_neg (ne_lit (by omega) (by omega) h1), if_neg (encP_ne (by omega)), q_holder hV hW (show p < vN V by omega)]
        cases hq : vPar V p with
        | none =>
          rw [show encP none = (-4 : Int32) from rfl, if_neg (fun q => encP_ne (x := c) (by omega) q.symm)]
          simp [h0, h1, hq]
        | some q =>
          have hql := hW.par (show p < vN V by omega) hq
          rw [show encP (some q) = nI q from rfl]
          by_cases h2 : q = c
          · subst h2
            rw [if_pos rfl]
            simp [hq]
          · rw [if_neg (ne_lit (by omega) (by omega) h2)]
            simp [h0, h1, h2, hq]
theorem q_whole_L (hV : RowV (h r) V) (hW : Wf k V) (hN : 20 ≤ N) {c : Nat} (hc : c < vN V) : ∀ (m j acc fuel : Nat), j + m = vN V → m < fuel → fX0_wholeOf_L4 N h r (nI c) fuel (nI acc) (nI j) = some (encP ((osum (((List.range' j m).filter (fun d => fromB V d c)).map (vVal V))).map (fun y => acc + y))) := by
  intro m
  have hn := hW.n
  induction m with
  | zero =>
    intro j acc fuel hj hf
    obtain ⟨fuel, rfl⟩ : ∃ f, fuel = f + 1 := ⟨fuel - 1, by omega⟩
    rw [fX0_wholeOf_L4, q_cords hV, if_neg (nI_nlt (by omega) (by omega))]
    rfl
  | succ m ih =>
    intro j acc fuel hj hf
    obtain ⟨fuel, rfl⟩ : ∃ f, fuel = f + 1 := ⟨fuel - 1, by omega⟩
    have hlt : j < vN V := by omega
    rw [fX0_wholeOf_L4, q_cords hV, if_pos (nI_lt hlt (by omega)), q_from hV hW hlt hc, List.range'_succ]
    by_cases hb : fromB V j c = true
    · rw [if_pos hb, if_neg (by decide), q_value hV hW (by omega) hlt, Option.bind_some, List.filter_cons_of_pos (p := fun d => fromB V d c) (a := j) hb, List.map_cons]
      cases hv : vVal V j with
      | none => rw [show encP none = (-4 : Int32) from rfl, if_pos rfl]; rfl
      | some x =>
        have := vVal_lt hW hlt hv
        rw [show encP (some x) = nI x from rfl, if_neg (encP_ne (by omega)), nI_add, nI_1, ih (j + 1) (acc + x) fuel (by omega) (by omega)]
        simp only [osum, Option.bind_some, Option.map_map]
        congr 2
        cases osum (((List.range' (j + 1) m).filter (fun d => fromB V d c)).map (vVal V)) with
        | none => rfl
        | some y => simp only [Option.map_some, Function.comp]; congr 1; omega
    · rw [if_neg hb, if_pos rfl, nI_1, ih (j + 1) acc fuel (by omega) (by omega), List.filter_cons_of_neg (p := fun d => fromB V d c) (a := j) hb]
theorem q_whole (hV : RowV (h r) V) (hW : Wf k V) (hN : 20 ≤ N) {c : Nat} (hc : c < vN V) : fX0_wholeOf N h r (nI c) = some (encP (vWhole V c)) := by
  have hn := hW.n
  unfold fX0_wholeOf
  have := q_whole_L hV hW hN hc (vN V) 0 0 N (by omega) (by omega)
  rw [show fX0_wholeOf_L4 N h r (nI c) N 0 0 = _ from this, ← List.range_eq_range', whole_from hW hc]
  cases vWhole V c with
  | none => rfl
  | some y => simp
theorem m_ben_L (hV : ModV (h 23) V) (hW : Wf k V) (hN : 20 ≤ N) {c : Nat} (hc : c < vN V) : ∀ (m j acc fuel : Nat), j + m = vN V → m < fuel → fX5_beneath_L4 N h (nI c) fuel (nI acc) (nI j) = some (encP ((osum (((List.range' j m).filter (fun d => under V d c)).map (vVal V))).map (fun y => acc + y))) := by
  intro m
  have hn := hW.n
  induction m with
  | zero =>
    intro j acc fuel hj hf
    obtain ⟨fuel, rfl⟩ : ∃ f, fuel = f + 1 := ⟨fuel - 1, by omega⟩
    rw [fX5_beneath_L4, hV.1, if_neg (nI_nlt (by omega) (by omega))]
    rfl
  | succ m ih =>
    intro j acc fuel hj hf
    obtain ⟨fuel, rfl⟩ : ∃ f, fuel = f + 1 := ⟨fuel - 1, by omega⟩
    have hlt : j < vN V := by omega
    rw [fX5_beneath_L4, hV.1, if_pos (nI_lt hlt (by omega)), m_isUnder hV hW hlt hc, Option.bind_some, List.range'_succ]
    by_cases hb : under V j c = true
    · rw [hb, show b2 true = (1 : Int32) from rfl, if_neg (by decide), m_value hV hW (by omega) hlt, Option.bind_some, List.filter_cons_of_pos (p := fun d => under V d c) (a := j) hb, List.map_cons]
      cases hv : vVal V j with
      | none => rw [show encP none = (-4 : Int32) from rfl, if_pos rfl]; rfl
      | some x =>
        have := vVal_lt hW hlt hv
        rw [show encP (some x) = nI x from rfl, if_neg (encP_ne (by omega)), Option.bind_some, nI_add, nI_1, ih (j + 1) (acc + x) fuel (by omega) (by omega)]
        simp only [osum, Option.bind_some, Option.map_map]
        congr 2
        cases osum (((List.range' (j + 1) m).filter (fun d => under V d c)).map (vVal V)) with
        | none => rfl
        | some y => simp only [Option.map_some, Function.comp]; congr 1; omega
    · have hb' : under V j c = false := by simpa using hb
      rw [hb', show b2 false = (0 : Int32) from rfl, if_pos rfl, nI_1, ih (j + 1) acc fuel (by omega) (by omega), List.filter_cons_of_neg (p := fun d => under V d c) (a := j) hb]
theorem m_ben (hV : ModV (h 23) V) (hW : Wf k V) (hN : 20 ≤ N) {c : Nat} (hc : c < vN V) : fX5_beneath N h (nI c) = some (encP (vBen V c)) := by
  have hn := hW.n
  unfold fX5_beneath
  have := m_ben_L hV hW hN hc (vN V) 0 0 N (by omega) (by omega)
  rw [show fX5_beneath_L4 N h (nI c) N 0 0 = _ from this, ← List.range_eq_range']
  show some (encP (Option.map _ (vBen V c))) = _
  cases vBen V c with
  | none => rfl
  | some y => simp
theorem osum_lt : ∀ (l : List (Option Nat)) (b : Nat), (∀ x, some x ∈ l → x < b) → ∀ y, osum l = some y → y ≤ l.length * b
  | [], b, _, y, h => by simp [osum] at h; omega
  | none :: l, b, hl, y, h => by simp [osum] at h
  | some x :: l, b, hl, y, h => by
    simp only [osum, Option.bind_some] at h
    obtain ⟨z, hz, e⟩ := Option.map_eq_some_iff.mp h
    have h1 := osum_lt l b (fun x hx => hl x (List.mem_cons_of_mem _ hx)) z hz
    have h2 := hl x List.mem_cons_self
    rw [List.length_cons, Nat.succ_mul]
    omega
theorem vBen_lt (hW : Wf k V) {c y : Nat} (h1 : vBen V c = some y) : y ≤ 160000 := by
  have hn := hW.n
  have h2 := osum_lt _ 10000 (fun x hx => by
    obtain ⟨d, hd, e⟩ := List.mem_map.mp hx
    exact vVal_lt hW (List.mem_range.mp (List.mem_filter.mp hd).1) e) y h1
  have h3 : (((List.range (vN V)).filter (fun e => under V e c)).map (vVal V)).length ≤ 16 := by
    rw [List.length_map]
    have := List.length_filter_le (fun e => under V e c) (List.range (vN V))
    rw [List.length_range] at this
    omega
  have : (((List.range (vN V)).filter (fun e => under V e c)).map (vVal V)).length * 10000 ≤ 16 * 10000 := Nat.mul_le_mul_right _ h3
  omega
theorem vWhole_lt (hW : Wf k V) {c y : Nat} (hc : c < vN V) (h1 : vWhole V c = some y) : y ≤ 170000 := by
  obtain ⟨v, hv, h2⟩ := Option.bind_eq_some_iff.mp h1
  obtain ⟨z, hz, e⟩ := Option.map_eq_some_iff.mp h2
  have := vVal_lt hW hc hv
  have := vBen_lt hW hz
  omega
theorem m_whole (hV : ModV (h 23) V) (hW : Wf k V) (hN : 20 ≤ N) {c : Nat} (hc : c < vN V) : fX5_whole N h (nI c) = some (encP (vWhole V c)) := by
  unfold fX5_whole vWhole
  rw [m_value hV hW (by omega) hc, m_ben hV hW hN hc]
  cases hv : vVal V c with
  | none => rfl
  | some v =>
    have := vVal_lt hW hc hv
    rw [Option.bind_some, show encP (some v) = nI v from rfl, if_neg (encP_ne (by omega)), Option.bind_some]
    cases hb : vBen V c with
    | none => rfl
    | some y =>
      have := vBen_lt hW hb
      rw [show encP (some y) = nI y from rfl, if_neg (encP_ne (by omega)), Option.bind_some, Option.bind_some, nI_add]
      rfl
end WH
