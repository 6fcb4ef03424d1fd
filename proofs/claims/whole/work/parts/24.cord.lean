/-! of a cord: knots, what hangs from it, depth, the other end -/
theorem encP_eq {o : Option Nat} {c : Nat} (ho : ∀ p, o = some p → p < 2 ^ 31) (hc : c < 2 ^ 31) : encP o = nI c ↔ o = some c := by
  cases o with
  | none => exact ⟨fun q => absurd q.symm (encP_ne hc), fun q => by cases q⟩
  | some p => exact ⟨fun q => congrArg some ((nI_eq (ho p rfl) hc).mp q), fun q => by cases q; rfl⟩
theorem m1_ne {c : Nat} (hc : c < 2 ^ 31) : ¬ (-1 : Int32) = nI c := fun q => nI_pos hc (by rw [← q]; decide)
theorem encM_eq {o : Option Nat} {c : Nat} (ho : ∀ p, o = some p → p < 2 ^ 31) (hc : c < 2 ^ 31) : encM o = nI c ↔ o = some c := by
  cases o with
  | none => exact ⟨fun q => absurd q (m1_ne hc), fun q => by cases q⟩
  | some p => exact ⟨fun q => congrArg some ((nI_eq (ho p rfl) hc).mp q), fun q => by cases q; rfl⟩
def kn (v : Nat) : Nat := if v = 31 then 2 else v % 10
def knUp (cod : Nat → Nat) : Nat → Nat
  | 0 => 0
  | s + 1 => knUp cod s + kn (cod s)
def vKn (V : Vw) (c : Nat) : Nat := knUp (vCod V c) (vSiz V c)
theorem kn_dec4 : ∀ v, v < 32 → fX4_knotsIn (fun _ _ => 0) (nI v) = nI (kn v) ∨ v = 30 := by decide +kernel
theorem kn_dec5 : ∀ v, v < 40 → fX5_knotsOf (fun _ _ => 0) (nI v) = nI (kn v) := by decide +kernel
theorem q_kn (h : Hp) {v : Nat} (hv : codOK v) : fX4_knotsIn h (nI v) = nI (kn v) := by
  rcases kn_dec4 v (by unfold codOK at hv; omega) with q | q
  · exact q
  · unfold codOK at hv; omega
theorem m_kn (h : Hp) {v : Nat} (hv : v < 40) : fX5_knotsOf h (nI v) = nI (kn v) := kn_dec5 v hv
def hangS (V : Vw) (c : Nat) : Nat := ((List.range (vN V)).filter (fun d => vPar V d == some c)).length
section CO
variable {h : Hp} {r k N : Nat} {V : Vw}
theorem q_knots_L (hV : RowV (h r) V) (hW : Wf k V) {c : Nat} (hc : c < vN V) : ∀ (m j fuel : Nat), j + m = vSiz V c → m < fuel → fX0_knotsOf_L4 N h r (nI c) fuel (nI (knUp (vCod V c) j)) (nI j) = some (nI (vKn V c)) := by
  intro m
  have hs := hW.siz hc
  induction m with
  | zero =>
    intro j fuel hj hf
    obtain ⟨fuel, rfl⟩ : ∃ f, fuel = f + 1 := ⟨fuel - 1, by omega⟩
    rw [fX0_knotsOf_L4, q_size hV hW hc, if_neg (nI_nlt (by omega) (by omega))]
    have : j = vSiz V c := by omega
    subst this; rfl
  | succ m ih =>
    intro j fuel hj hf
    obtain ⟨fuel, rfl⟩ : ∃ f, fuel = f + 1 := ⟨fuel - 1, by omega⟩
    have hlt : j < vSiz V c := by omega
    rw [fX0_knotsOf_L4, q_size hV hW hc, if_pos (nI_lt hlt (by omega)), q_code hV hW hc hlt, q_kn h (hW.cod hc hlt), nI_add, nI_1, Option.bind_some]
    exact ih (j + 1) fuel (by omega) (by omega)
theorem q_knots (hV : RowV (h r) V) (hW : Wf k V) (hN : 10 ≤ N) {c : Nat} (hc : c < vN V) : fX0_knotsOf N h r (nI c) = some (nI (vKn V c)) := by
  have hs := hW.siz hc
  exact q_knots_L hV hW hc (vSiz V c) 0 N (by omega) (by omega)
theorem m_knots_L (hV : ModV (h 23) V) (hW : Wf k V) {c : Nat} (hc : c < vN V) : ∀ (m j fuel : Nat), j + m = vSiz V c → m < fuel → fX5_knots__L4 N h (nI c) fuel (nI (knUp (vCod V c) j)) (nI j) = some (nI (vKn V c)) := by
  intro m
  have hs := hW.siz hc
  induction m with
  | zero =>
    intro j fuel hj hf
    obtain ⟨fuel, rfl⟩ : ∃ f, fuel = f + 1 := ⟨fuel - 1, by omega⟩
    rw [fX5_knots__L4, r_siz hV hW hc, Option.bind_some, if_neg (nI_nlt (by omega) (by omega))]
    have : j = vSiz V c := by omega
    subst this; rfl
  | succ m ih =>
    intro j fuel hj hf
    obtain ⟨fuel, rfl⟩ : ∃ f, fuel = f + 1 := ⟨fuel - 1, by omega⟩
    have hlt : j < vSiz V c := by omega
    rw [fX5_knots__L4, r_siz hV hW hc, Option.bind_some, if_pos (nI_lt hlt (by omega)), m_knot0 hV hW hc hlt, Option.bind_some, m_kn h (codOK_lt (hW.cod hc hlt)), nI_add, nI_1, Option.bind_some]
    exact ih (j + 1) fuel (by omega) (by omega)
theorem m_knots (hV : ModV (h 23) V) (hW : Wf k V) (hN : 10 ≤ N) {c : Nat} (hc : c < vN V) : fX5_knots_ N h (nI c) = some (nI (vKn V c)) := by
  have hs := hW.siz hc
  exact m_knots_L hV hW hc (vSiz V c) 0 N (by omega) (by omega)
theorem q_hang_L (hV : RowV (h r) V) (hW : Wf k V) {c : Nat} (hc : c < vN V) : ∀ (m j acc fuel : Nat), j + m = vN V → m < fuel → fX0_hangingFrom_L4 N h r (nI c) fuel (nI acc) (nI j) = some (nI (acc + ((List.range' j m).filter (fun d => vPar V d == some c)).length)) := by
  intro m
  have hn := hW.n
  induction m with
  | zero =>
    intro j acc fuel hj hf
    obtain ⟨fuel, rfl⟩ : ∃ f, fuel = f + 1 := ⟨fuel - 1, by omega⟩
    rw [fX0_hangingFrom_L4, q_cords hV, if_neg (nI_nlt (by omega) (by omega))]
    rfl
  | succ m ih =>
    intro j acc fuel hj hf
    obtain ⟨fuel, rfl⟩ : ∃ f, fuel = f + 1 := ⟨fuel - 1, by omega⟩
    have hlt : j < vN V := by omega
    rw [fX0_hangingFrom_L4, q_cords hV, if_pos (nI_lt hlt (by omega)), q_holder hV hW hlt, nI_1 j, List.range'_succ]
    by_cases hb : vPar V j = some c
    · rw [if_pos ((encP_eq (hW.par31 hlt) (by omega)).mpr hb), nI_1, ih (j + 1) (acc + 1) fuel (by omega) (by omega), List.filter_cons_of_pos (p := fun d => vPar V d == some c) (a := j) (by simp [hb]), List.length_cons]
      congr 2; omega
    · rw [if_neg (fun q => hb ((encP_eq (hW.par31 hlt) (by omega)).mp q)), show (nI acc + 0 : Int32) = nI acc from by rw [show (0 : Int32) = nI 0 from rfl, nI_add, Nat.add_zero], ih (j + 1) acc fuel (by omega) (by omega), List.filter_cons_of_neg (p := fun d => vPar V d == some c) (a := j) (by simp [hb])]
theorem q_hang (hV : RowV (h r) V) (hW : Wf k V) (hN : 20 ≤ N) {c : Nat} (hc : c < vN V) : fX0_hangingFrom N h r (nI c) = some (nI (hangS V c)) := by
  have hn := hW.n
  have := q_hang_L (N := N) hV hW hc (vN V) 0 0 N (by omega) (by omega)
  rw [Nat.zero_add, ← List.range_eq_range'] at this
  exact this
theorem m_hang_L (hV : ModV (h 23) V) (hW : Wf k V) {c : Nat} (hc : c < vN V) : ∀ (m j acc fuel : Nat), j + m = vN V → m < fuel → fX5_hanging_L4 N h (nI c) fuel (nI acc) (nI j) = some (nI (acc + ((List.range' j m).filter (fun d => vPar V d == some c)).length)) := by
  intro m
  have hn := hW.n
  induction m with
  | zero =>
    intro j acc fuel hj hf
    obtain ⟨fuel, rfl⟩ : ∃ f, fuel = f + 1 := ⟨fuel - 1, by omega⟩
    rw [fX5_hanging_L4, hV.1, if_neg (nI_nlt (by omega) (by omega))]
    rfl
  | succ m ih =>
    intro j acc fuel hj hf
    obtain ⟨fuel, rfl⟩ : ∃ f, fuel = f + 1 := ⟨fuel - 1, by omega⟩
    have hlt : j < vN V := by omega
    rw [fX5_hanging_L4, hV.1, if_pos (nI_lt hlt (by omega)), r_par hV hW hlt, Option.bind_some, nI_1 j, List.range'_succ]
    by_cases hb : vPar V j = some c
    · rw [if_pos ((encM_eq (hW.par31 hlt) (by omega)).mpr hb), nI_1, ih (j + 1) (acc + 1) fuel (by omega) (by omega), List.filter_cons_of_pos (p := fun d => vPar V d == some c) (a := j) (by simp [hb]), List.length_cons]
      congr 2; omega
    · rw [if_neg (fun q => hb ((encM_eq (hW.par31 hlt) (by omega)).mp q)), show (nI acc + 0 : Int32) = nI acc from by rw [show (0 : Int32) = nI 0 from rfl, nI_add, Nat.add_zero], ih (j + 1) acc fuel (by omega) (by omega), List.filter_cons_of_neg (p := fun d => vPar V d == some c) (a := j) (by simp [hb])]
theorem m_hang (hV : ModV (h 23) V) (hW : Wf k V) (hN : 20 ≤ N) {c : Nat} (hc : c < vN V) : fX5_hanging N h (nI c) = some (nI (hangS V c)) := by
  have hn := hW.n
  have := m_hang_L (N := N) hV hW hc (vN V) 0 0 N (by omega) (by omega)
  rw [Nat.zero_add, ← List.range_eq_range'] at this
  exact this
theorem m_depth (hV : ModV (h 23) V) (hW : Wf k V) {c : Nat} (hc : c < vN V) : fX5_depthOf h (nI c) = some (nI (vDep V c)) := by
  have hn := hW.n
  have hC := hW.c hc
  unfold fX5_depthOf
  rw [r_par hV hW hc, Option.bind_some]
  cases hp : vPar V c with
  | none => rw [hC.2.2.2.2.1 hp]; rfl
  | some p =>
    have h1 := hC.2.2.2.2.2.1 p hp
    have hpl : p < vN V := by omega
    rw [show encM (some p) = nI p from rfl, if_neg (nI_pos (by omega)), r_par hV hW hpl, Option.bind_some]
    cases hq : vPar V p with
    | none =>
      have h2 := (hW.c hpl).2.2.2.2.1 hq
      rw [show vDep V c = 1 by omega]; rfl
    | some q =>
      have h2 := (hW.c hpl).2.2.2.2.2.1 q hq
      have h3 := hC.2.2.2.1
      rw [show encM (some q) = nI q from rfl, if_neg (nI_pos (by omega)), show vDep V c = 2 by omega]; rfl
theorem q_other_L (hV : RowV (h r) V) (hW : Wf k V) {c : Nat} (hc : c < vN V) : ∀ (m j x fuel : Nat), j + m = vSiz V c → m < fuel → valUp (fun k => vCod V c (vSiz V c - 1 - k)) j = some x → fX0_valueFromOtherEnd_L11 N h r (nI c) fuel (nI x) (nI (vSiz V c)) (nI j) = some (encP (vOth V c)) := by
  intro m
  have hs := hW.siz hc
  induction m with
  | zero =>
    intro j x fuel hj hf hx
    obtain ⟨fuel, rfl⟩ : ∃ f, fuel = f + 1 := ⟨fuel - 1, by omega⟩
    rw [fX0_valueFromOtherEnd_L11, if_neg (nI_nlt (by omega) (by omega))]
    have : j = vSiz V c := by omega
    subst this
    rw [show vOth V c = some x from hx]
    rfl
  | succ m ih =>
    intro j x fuel hj hf hx
    obtain ⟨fuel, rfl⟩ : ∃ f, fuel = f + 1 := ⟨fuel - 1, by omega⟩
    have hlt : j < vSiz V c := by omega
    have hv := codOK_lt (hW.cod hc (show vSiz V c - 1 - j < vSiz V c by omega))
    have e1 : nI (vSiz V c) - 1 - nI j = nI (vSiz V c - 1 - j) := by
      rw [show (1 : Int32) = nI 1 from rfl, pk_sub (by omega), pk_sub (by omega)]
    rw [fX0_valueFromOtherEnd_L11, if_pos (nI_lt hlt (by omega)), e1, q_code hV hW hc (by omega), Option.bind_some, q_well h hv (by omega), q_count h hv, tens_dec j (by omega)]
    by_cases hb : badB (vCod V c (vSiz V c - 1 - j)) j = true
    · have hn : valUp (fun k => vCod V c (vSiz V c - 1 - k)) (j + 1) = none := by rw [valUp, hx]; simp [hb]
      rw [if_pos hb, if_pos rfl, show vOth V c = none from valUp_none hn _ hlt]
      rfl
    · have hn : valUp (fun k => vCod V c (vSiz V c - 1 - k)) (j + 1) = some (x + vCod V c (vSiz V c - 1 - j) % 10 * 10 ^ j) := by rw [valUp, hx]; simp [hb]
      rw [if_neg hb, if_neg (by decide), Option.bind_some, pk_mul, nI_add, nI_1]
      exact ih (j + 1) _ fuel (by omega) (by omega) hn
theorem q_other (hV : RowV (h r) V) (hW : Wf k V) (hN : 10 ≤ N) {c : Nat} (hc : c < vN V) : fX0_valueFromOtherEnd N h r (nI c) = some (encP (vOth V c)) := by
  have hs := hW.siz hc
  unfold fX0_valueFromOtherEnd
  rw [q_size hV hW hc]
  exact q_other_L hV hW hc (vSiz V c) 0 0 N (by omega) (by omega) rfl
end CO
