/-! a bundle, in numbers: cords, groups; of a cord: colour, size, codes, from whom it hangs, depth, whether a top, its group, its rank; the line of the plain pendants -/
theorem at_nI {h : Hp} {q n j : Nat} (hj : j < n) (hn : n < 2 ^ 31) : atF h q n (nI j) = h q j := by
  unfold atF
  rw [if_neg (nI_pos (by omega)), if_pos (show nI j < Int32.ofNat n from nI_lt hj hn), nI_clamp (by omega)]
theorem rd_nI {h : Hp} {q n j : Nat} (hj : j < n) (hn : n < 2 ^ 31) : rdH h q n (nI j) = some (h q j) := by
  unfold rdH
  rw [nI_clamp (by omega), nI_toInt (by omega), if_pos ⟨by omega, by omega⟩]
abbrev Vw : Type := Nat × Nat × (Nat → Nat) × (Nat → Nat) × (Nat → Nat → Nat) × (Nat → Option Nat) × (Nat → Nat) × (Nat → Bool) × (Nat → Nat) × (Nat → Nat) × List Nat
abbrev vN (V : Vw) : Nat := V.1
abbrev vG (V : Vw) : Nat := V.2.1
abbrev vCol (V : Vw) : Nat → Nat := V.2.2.1
abbrev vSiz (V : Vw) : Nat → Nat := V.2.2.2.1
abbrev vCod (V : Vw) : Nat → Nat → Nat := V.2.2.2.2.1
abbrev vPar (V : Vw) : Nat → Option Nat := V.2.2.2.2.2.1
abbrev vDep (V : Vw) : Nat → Nat := V.2.2.2.2.2.2.1
abbrev vTop (V : Vw) : Nat → Bool := V.2.2.2.2.2.2.2.1
abbrev vGrp (V : Vw) : Nat → Nat := V.2.2.2.2.2.2.2.2.1
abbrev vRk (V : Vw) : Nat → Nat := V.2.2.2.2.2.2.2.2.2.1
abbrev vL (V : Vw) : List Nat := V.2.2.2.2.2.2.2.2.2.2
def encP : Option Nat → Int32
  | none => -4
  | some n => nI n
def encM : Option Nat → Int32
  | none => -1
  | some n => nI n
def b2 (b : Bool) : Int32 := if b = true then 1 else 0
def codOK (v : Nat) : Prop := v = 0 ∨ (11 ≤ v ∧ v ≤ 19) ∨ (22 ≤ v ∧ v ≤ 29) ∨ v = 31
theorem codOK_lt {v : Nat} (h : codOK v) : v < 40 := by unfold codOK at h; omega
def RowC (row : Nat → Int32) (V : Vw) (c : Nat) : Prop := row c = nI (vCol V c) ∧ row (16 + c) = nI (vSiz V c) ∧ row (32 + c) = encP (vPar V c) ∧ row (48 + c) = nI (vDep V c) ∧ row (64 + c) = b2 (vTop V c) ∧ row (80 + c) = nI (vGrp V c) ∧ ∀ k, k < vSiz V c → row (112 + 4 * c + k) = nI (vCod V c k)
def ModC (a : Nat → Int32) (V : Vw) (c : Nat) : Prop := a (2 + c) = nI (vCol V c) ∧ a (18 + c) = nI (vSiz V c) ∧ a (98 + c) = encM (vPar V c) ∧ a (114 + c) = nI (vGrp V c) ∧ a (130 + c) = b2 (vTop V c) ∧ a (146 + c) = nI (vRk V c) ∧ ∀ k, k < vSiz V c → a (34 + 4 * c + k) = nI (vCod V c k)
def RowV (row : Nat → Int32) (V : Vw) : Prop := row 176 = nI (vN V) ∧ row 177 = nI (vG V) ∧ row 178 = nI (vL V).length ∧ (∀ i, i < (vL V).length → row (96 + i) = nI ((vL V).getD i 0)) ∧ ∀ c, c < vN V → RowC row V c
def ModV (a : Nat → Int32) (V : Vw) : Prop := a 0 = nI (vN V) ∧ a 1 = nI (vG V) ∧ ∀ c, c < vN V → ModC a V c
def WfC (k : Nat) (V : Vw) (c : Nat) : Prop := vCol V c ≤ 9 ∧ (1 ≤ vSiz V c ∧ vSiz V c ≤ 4) ∧ (∀ j, j < vSiz V c → codOK (vCod V c j)) ∧ vDep V c ≤ 2 ∧ (vPar V c = none → vDep V c = 0) ∧ (∀ p, vPar V c = some p → p < c ∧ vDep V c = vDep V p + 1 ∧ vGrp V c = vGrp V p ∧ vTop V c = false) ∧ vGrp V c < vG V ∧ vRk V c ≤ 15 + k
def Wf (k : Nat) (V : Vw) : Prop := (vN V ≤ 16 ∧ vG V ≤ 5) ∧ (∀ c, c < vN V → WfC k V c) ∧ (vL V).Pairwise (fun a b => vRk V a < vRk V b) ∧ (∀ c, c ∈ vL V ↔ c < vN V ∧ vPar V c = none ∧ vTop V c = false) ∧ (∀ c d, c < vN V → d < vN V → vTop V c = true → vTop V d = true → vGrp V c = vGrp V d → c = d) ∧ (∀ c p, c < vN V → vPar V c = some p → ∀ e, p < e → e < c → ∃ q, vPar V e = some q ∧ (q = p ∨ vPar V q = some p))
theorem Wf.n {k : Nat} {V : Vw} (h : Wf k V) : vN V ≤ 16 := h.1.1
theorem Wf.c {k : Nat} {V : Vw} (h : Wf k V) {c : Nat} (hc : c < vN V) : WfC k V c := h.2.1 c hc
theorem Wf.siz {k : Nat} {V : Vw} (h : Wf k V) {c : Nat} (hc : c < vN V) : vSiz V c ≤ 4 := (h.c hc).2.1.2
theorem Wf.siz1 {k : Nat} {V : Vw} (h : Wf k V) {c : Nat} (hc : c < vN V) : 1 ≤ vSiz V c := (h.c hc).2.1.1
theorem Wf.cod {k : Nat} {V : Vw} (h : Wf k V) {c : Nat} (hc : c < vN V) {j : Nat} (hj : j < vSiz V c) : codOK (vCod V c j) := (h.c hc).2.2.1 j hj
theorem Wf.par {k : Nat} {V : Vw} (h : Wf k V) {c p : Nat} (hc : c < vN V) (hp : vPar V c = some p) : p < c := ((h.c hc).2.2.2.2.2.1 p hp).1
theorem RowV.c {row : Nat → Int32} {V : Vw} (h : RowV row V) {c : Nat} (hc : c < vN V) : RowC row V c := h.2.2.2.2 c hc
theorem ModV.c {a : Nat → Int32} {V : Vw} (h : ModV a V) {c : Nat} (hc : c < vN V) : ModC a V c := h.2.2 c hc
/-! the class's readers of single numbers -/
section CR
variable {h : Hp} {r k : Nat} {V : Vw}
theorem q_cords (hV : RowV (h r) V) : fX0_cords h r = nI (vN V) := by
  unfold fX0_cords
  rw [show (176 : Int32) = nI 176 from rfl, at_nI (by omega) (by omega)]
  exact hV.1
theorem q_groups (hV : RowV (h r) V) : fX0_groups h r = nI (vG V) := by
  unfold fX0_groups
  rw [show (177 : Int32) = nI 177 from rfl, at_nI (by omega) (by omega)]
  exact hV.2.1
theorem q_colour (hV : RowV (h r) V) (hW : Wf k V) {c : Nat} (hc : c < vN V) : fX0_colourOf h r (nI c) = nI (vCol V c) := by
  have := hW.n
  unfold fX0_colourOf
  rw [show (0 : Int32) = nI 0 from rfl, nI_add, Nat.zero_add, at_nI (by omega) (by omega)]
  exact (hV.c hc).1
theorem q_size (hV : RowV (h r) V) (hW : Wf k V) {c : Nat} (hc : c < vN V) : fX0_sizeOf h r (nI c) = nI (vSiz V c) := by
  have := hW.n
  unfold fX0_sizeOf
  rw [show (16 : Int32) = nI 16 from rfl, nI_add, at_nI (by omega) (by omega)]
  exact (hV.c hc).2.1
theorem q_code (hV : RowV (h r) V) (hW : Wf k V) {c j : Nat} (hc : c < vN V) (hj : j < vSiz V c) : fX0_codeOf h r (nI c) (nI j) = nI (vCod V c j) := by
  have := hW.n
  have := hW.siz hc
  unfold fX0_codeOf
  rw [show (112 : Int32) = nI 112 from rfl, show (4 : Int32) = nI 4 from rfl, pk_mul, nI_add, nI_add, at_nI (by omega) (by omega)]
  exact (hV.c hc).2.2.2.2.2.2 j hj
theorem q_holder (hV : RowV (h r) V) (hW : Wf k V) {c : Nat} (hc : c < vN V) : fX0_holderOf h r (nI c) = encP (vPar V c) := by
  have := hW.n
  unfold fX0_holderOf
  rw [if_neg (nI_pos (by omega)), if_pos (show nI c < (16 : Int32) from nI_lt (b := 16) (by omega) (by omega)), show (32 : Int32) = nI 32 from rfl, nI_add, at_nI (by omega) (by omega)]
  exact (hV.c hc).2.2.1
theorem q_depth (hV : RowV (h r) V) (hW : Wf k V) {c : Nat} (hc : c < vN V) : fX0_depthOf h r (nI c) = nI (vDep V c) := by
  have := hW.n
  unfold fX0_depthOf
  rw [show (48 : Int32) = nI 48 from rfl, nI_add, at_nI (by omega) (by omega)]
  exact (hV.c hc).2.2.2.1
theorem q_group (hV : RowV (h r) V) (hW : Wf k V) {c : Nat} (hc : c < vN V) : fX0_groupOf h r (nI c) = nI (vGrp V c) := by
  have := hW.n
  unfold fX0_groupOf
  rw [show (80 : Int32) = nI 80 from rfl, nI_add, at_nI (by omega) (by omega)]
  exact (hV.c hc).2.2.2.2.2.1
theorem b2_eq1 (b : Bool) : (b2 b = 1) ↔ b = true := by cases b <;> decide
theorem b2_eq0 (b : Bool) : (b2 b = 0) ↔ b = false := by cases b <;> decide
theorem q_top (hV : RowV (h r) V) (hW : Wf k V) {c : Nat} (hc : c < vN V) : fX0_isTop h r (nI c) = b2 (vTop V c) := by
  have := hW.n
  unfold fX0_isTop
  rw [show (64 : Int32) = nI 64 from rfl, nI_add, at_nI (by omega) (by omega), (hV.c hc).2.2.2.2.1]
  cases vTop V c <;> rfl
theorem nI_inj0 {a b : Nat} (ha : a < 2 ^ 31) (hb : b < 2 ^ 31) : (nI a = nI b) = (a = b) := propext (nI_eq ha hb)
theorem nI_lt0 {a b : Nat} (ha : a < 2 ^ 31) (hb : b < 2 ^ 31) : (nI a < nI b) = (a < b) := propext (nI_ltI ha hb)
/-- an int that is a cord's number, or none -/
theorem q_hasCord (hV : RowV (h r) V) (hW : Wf k V) (x : Int32) : (fX0_hasCord h r x = 1 ∧ ∃ c, c < vN V ∧ x = nI c) ∨ (fX0_hasCord h r x = 0 ∧ ∀ c, c < vN V → x ≠ nI c) := by
  have hn := hW.n
  unfold fX0_hasCord
  rw [q_cords hV]
  rcases pk_ix x (n := vN V) (by omega) with h1 | h1 | ⟨j, hj, rfl⟩
  · refine Or.inr ⟨by rw [if_pos h1], fun c hc e => ?_⟩
    subst e
    exact nI_pos (by omega) h1
  · refine Or.inr ⟨?_, fun c hc e => ?_⟩
    · by_cases h0 : x < 0
      · rw [if_pos h0]
      · rw [if_neg h0, if_neg (i_nlt h1)]
    · subst e
      exact nI_ge hc (by omega) h1
  · refine Or.inl ⟨?_, j, hj, rfl⟩
    rw [if_neg (nI_pos (by omega)), if_pos (nI_lt hj (by omega))]
theorem q_hasCord1 (hV : RowV (h r) V) (hW : Wf k V) {c : Nat} (hc : c < vN V) : fX0_hasCord h r (nI c) = 1 := by
  rcases q_hasCord hV hW (nI c) with h1 | h1
  · exact h1.1
  · exact absurd rfl (h1.2 c hc)
end CR
/-! values -/
def badAt (v k : Nat) : Prop := (v / 10 = 1 ∧ k = 0) ∨ (1 < v / 10 ∧ 0 < k)
def badB (v k : Nat) : Bool := (v / 10 == 1 && k == 0) || (decide (1 < v / 10) && decide (0 < k))
def valUp (cod : Nat → Nat) : Nat → Option Nat
  | 0 => some 0
  | s + 1 => (valUp cod s).bind fun x => if badB (cod s) s = true then none else some (x + cod s % 10 * 10 ^ s)
theorem valUp_none {cod : Nat → Nat} {j : Nat} (h : valUp cod j = none) : ∀ s, j ≤ s → valUp cod s = none := by
  intro s hs
  induction s with
  | zero => have : j = 0 := by omega
            subst this; exact h
  | succ s ih =>
    rcases Nat.lt_or_ge j (s + 1) with q | q
    · rw [valUp, ih (by omega)]; rfl
    · have : j = s + 1 := by omega
      subst this; exact h
theorem valUp_lt {cod : Nat → Nat} : ∀ (s x : Nat), valUp cod s = some x → x < 10 ^ s
  | 0, x, h => by
    simp [valUp] at h
    subst h; decide
  | s + 1, x, h => by
    rw [valUp] at h
    obtain ⟨y, hy, h2⟩ := Option.bind_eq_some_iff.mp h
    have := valUp_lt s y hy
    split at h2
    · cases h2
    · injection h2 with h2
      have h9 : cod s % 10 ≤ 9 := by omega
      have : cod s % 10 * 10 ^ s ≤ 9 * 10 ^ s := Nat.mul_le_mul_right _ h9
      rw [Nat.pow_succ]
      omega
def vVal (V : Vw) (c : Nat) : Option Nat := valUp (vCod V c) (vSiz V c)
def vOth (V : Vw) (c : Nat) : Option Nat := valUp (fun k => vCod V c (vSiz V c - 1 - k)) (vSiz V c)
theorem vVal_lt {k : Nat} {V : Vw} (hW : Wf k V) {c x : Nat} (hc : c < vN V) (h : vVal V c = some x) : x < 10000 := by
  have h1 := valUp_lt _ _ h
  have h2 : 10 ^ vSiz V c ≤ 10 ^ 4 := Nat.pow_le_pow_right (by omega) (hW.siz hc)
  omega
theorem well_dec : ∀ v, v < 40 → ∀ k, k < 4 → fX4_isWellPlaced (fun _ _ => 0) (nI v) (nI k) = if badB v k = true then 0 else 1 := by decide +kernel
theorem q_well (h : Hp) {v k : Nat} (hv : v < 40) (hk : k < 4) : fX4_isWellPlaced h (nI v) (nI k) = if badB v k = true then 0 else 1 := well_dec v hv k hk
theorem cnt_dec : ∀ v, v < 40 → fX4_countOf (fun _ _ => 0) (nI v) = nI (v % 10) := by decide +kernel
theorem q_count (h : Hp) {v : Nat} (hv : v < 40) : fX4_countOf h (nI v) = nI (v % 10) := cnt_dec v hv
theorem tens_dec : ∀ k, k < 5 → tensV (nI k) = nI (10 ^ k) := by decide +kernel
/-- the loop of valueOf -/
theorem q_value_L {h : Hp} {r k N : Nat} {V : Vw} (hV : RowV (h r) V) (hW : Wf k V) {c : Nat} (hc : c < vN V) : ∀ (m j x fuel : Nat), j + m = vSiz V c → m < fuel → valUp (vCod V c) j = some x → fX0_valueOf_L4 N h r (nI c) fuel (nI x) (nI j) = some (encP (vVal V c)) := by
  intro m
  have hs := hW.siz hc
  induction m with
  | zero =>
    intro j x fuel hj hf hx
    obtain ⟨fuel, rfl⟩ : ∃ f, fuel = f + 1 := ⟨fuel - 1, by omega⟩
    rw [fX0_valueOf_L4, q_size hV hW hc, if_neg (nI_nlt (by omega) (by omega))]
    have : j = vSiz V c := by omega
    subst this
    rw [show vVal V c = some x from hx]
    rfl
  | succ m ih =>
    intro j x fuel hj hf hx
    obtain ⟨fuel, rfl⟩ : ∃ f, fuel = f + 1 := ⟨fuel - 1, by omega⟩
    have hlt : j < vSiz V c := by omega
    have hv := codOK_lt (hW.cod hc hlt)
    rw [fX0_valueOf_L4, q_size hV hW hc, if_pos (nI_lt hlt (by omega)), q_code hV hW hc hlt, q_well h hv (by omega), q_count h hv, tens_dec j (by omega)]
    by_cases hb : badB (vCod V c j) j = true
    · have hn : valUp (vCod V c) (j + 1) = none := by rw [valUp, hx]; simp [hb]
      rw [if_pos hb, if_pos rfl, show vVal V c = none from valUp_none hn _ hlt]
      rfl
    · have hn : valUp (vCod V c) (j + 1) = some (x + vCod V c j % 10 * 10 ^ j) := by rw [valUp, hx]; simp [hb]
      rw [if_neg hb, if_neg (by decide), Option.bind_some, pk_mul, nI_add, nI_1]
      exact ih (j + 1) _ fuel (by omega) (by omega) hn
theorem q_value {h : Hp} {r k N : Nat} {V : Vw} (hV : RowV (h r) V) (hW : Wf k V) (hN : 10 ≤ N) {c : Nat} (hc : c < vN V) : fX0_valueOf N h r (nI c) = some (encP (vVal V c)) := by
  have hs := hW.siz hc
  exact q_value_L hV hW hc (vSiz V c) 0 0 N (by omega) (by omega) rfl
