/-! same: two trees of cords that look alike -/
theorem convex {P : Nat → Bool} {c : Nat} : ∀ n, c < n → P c = true → (∀ d, d < n → P d = true → c ≤ d) → (∀ d, d < n → P d = true → ∀ e, c ≤ e → e ≤ d → P e = true) → c + ((List.range n).filter P).length ≤ n ∧ ∀ d, d < n → (P d = true ↔ c ≤ d ∧ d < c + ((List.range n).filter P).length)
  | 0, h, _, _, _ => by omega
  | n + 1, h, hp, h1, h2 => by
    rw [List.range_succ, List.filter_append, List.length_append]
    by_cases hcn : c = n
    · subst hcn
      have e0 : (List.range c).filter P = [] := List.filter_eq_nil_iff.mpr (fun d hd q => by
        have := List.mem_range.mp hd
        have := h1 d (by omega) q
        omega)
      rw [e0, List.filter_cons_of_pos (p := P) (a := c) hp]
      refine ⟨by simp, fun d hd => ⟨fun q => ⟨h1 d hd q, by simp; omega⟩, fun q => ?_⟩⟩
      have : d = c := by omega
      rw [this]; exact hp
    · obtain ⟨i1, i2⟩ := convex n (by omega) hp (fun d hd => h1 d (by omega)) (fun d hd => h2 d (by omega))
      by_cases hn : P n = true
      · rw [List.filter_cons_of_pos (p := P) (a := n) hn, List.filter_nil, List.length_singleton]
        have e1 : c + ((List.range n).filter P).length = n := by
          rcases Nat.lt_or_ge (c + ((List.range n).filter P).length) n with q | q
          · have := (i2 _ q).mp (h2 n (by omega) hn _ (by omega) (by omega))
            omega
          · omega
        refine ⟨by omega, fun d hd => ?_⟩
        by_cases hdn : d = n
        · subst hdn
          exact ⟨fun _ => by omega, fun _ => hn⟩
        · rw [i2 d (by omega)]
          omega
      · rw [List.filter_cons_of_neg (p := P) (a := n) hn, List.filter_nil, List.length_nil, Nat.add_zero]
        refine ⟨by omega, fun d hd => ?_⟩
        by_cases hdn : d = n
        · subst hdn
          exact ⟨fun q => absurd q hn, fun q => by omega⟩
        · exact i2 d (by omega)
def szF (V : Vw) (c : Nat) : Nat := ((List.range (vN V)).filter (fun d => fromB V d c)).length
def chs (V : Vw) (c : Nat) : List Nat := (List.range (vN V)).filter (fun d => vPar V d == some c)
theorem from_self {V : Vw} {c : Nat} : fromB V c c = true := by simp [fromB]
theorem under_iff {V : Vw} {d c : Nat} : under V d c = true ↔ ∃ p, vPar V d = some p ∧ (p = c ∨ vPar V p = some c) := by
  unfold under
  cases vPar V d with
  | none => simp
  | some p => simp
theorem from_iff {V : Vw} {d c : Nat} : fromB V d c = true ↔ d = c ∨ ∃ p, vPar V d = some p ∧ (p = c ∨ vPar V p = some c) := by
  unfold fromB
  rw [Bool.or_eq_true, under_iff, beq_iff_eq]
theorem Wf.pp {k : Nat} {V : Vw} (hW : Wf k V) {c p : Nat} (hc : c < vN V) (hp : vPar V c = some p) : p < c ∧ vDep V c = vDep V p + 1 := by
  have := (hW.c hc).2.2.2.2.2.1 p hp
  exact ⟨this.1, this.2.1⟩
theorem from_le {k : Nat} {V : Vw} (hW : Wf k V) {d c : Nat} (hd : d < vN V) (h : fromB V d c = true) : c ≤ d := by
  rcases from_iff.mp h with q | ⟨p, h1, h2⟩
  · omega
  · have h3 := (hW.pp hd h1).1
    rcases h2 with q | q
    · omega
    · have := (hW.pp (show p < vN V by omega) q).1
      omega
theorem from_conv {k : Nat} {V : Vw} (hW : Wf k V) {d c : Nat} (hd : d < vN V) (h : fromB V d c = true) : ∀ e, c ≤ e → e ≤ d → fromB V e c = true := by
  intro e h1 h2
  by_cases e1 : e = c
  · exact from_iff.mpr (Or.inl e1)
  by_cases e2 : e = d
  · subst e2; exact h
  rcases from_iff.mp h with q | ⟨p, q1, q2⟩
  · omega
  · have pre := hW.2.2.2.2.2
    have p1 := hW.pp hd q1
    rcases q2 with rfl | q2
    · obtain ⟨q, z1, z2⟩ := pre d p hd q1 e (by omega) (by omega)
      exact from_iff.mpr (Or.inr ⟨q, z1, z2⟩)
    · have hp : p < vN V := by omega
      have p2 := hW.pp hp q2
      by_cases e3 : e = p
      · subst e3; exact from_iff.mpr (Or.inr ⟨c, q2, Or.inl rfl⟩)
      by_cases e4 : e < p
      · obtain ⟨q, z1, z2⟩ := pre p c hp q2 e (by omega) e4
        exact from_iff.mpr (Or.inr ⟨q, z1, z2⟩)
      · obtain ⟨q, z1, z2⟩ := pre d p hd q1 e (by omega) (by omega)
        rcases z2 with rfl | z2
        · exact from_iff.mpr (Or.inr ⟨q, z1, Or.inr q2⟩)
        · have he : e < vN V := by omega
          have a1 := hW.pp he z1
          have a2 := hW.pp (show q < vN V by omega) z2
          have a3 := (hW.c he).2.2.2.1
          omega
theorem sz_int {k : Nat} {V : Vw} (hW : Wf k V) {c : Nat} (hc : c < vN V) : c + szF V c ≤ vN V ∧ ∀ d, d < vN V → (fromB V d c = true ↔ c ≤ d ∧ d < c + szF V c) :=
  convex (P := fun d => fromB V d c) (vN V) hc from_self (fun d hd q => from_le hW hd q) (fun d hd q => from_conv hW hd q)
theorem sz_pos {k : Nat} {V : Vw} (hW : Wf k V) {c : Nat} (hc : c < vN V) : 0 < szF V c := by
  have := ((sz_int hW hc).2 c hc).mp from_self
  omega
/-- the children of x, one behind the other, fill what is beneath x -/
def Tiles (V : Vw) (e : Nat) : Nat → List Nat → Prop
  | s, [] => s = e
  | s, c :: cs => c = s ∧ Tiles V e (s + szF V c) cs
theorem tiles_aux {k : Nat} {V : Vw} (hW : Wf k V) {x : Nat} (hx : x < vN V) : ∀ (m s : Nat), s + m = x + szF V x → x < s → (s < x + szF V x → vPar V s = some x) → Tiles V (x + szF V x) s ((List.range' s m).filter (fun d => vPar V d == some x)) := by
  intro m
  induction m using Nat.strongRecOn with
  | _ m ih =>
    intro s hs hxs hb
    have hX := sz_int hW hx
    match m, hs, ih with
    | 0, hs, ih => exact hs
    | m + 1, hs, ih =>
      have hsn : s < vN V := by omega
      have hps := hb (by omega)
      have hS := sz_int hW hsn
      have hsp := sz_pos hW hsn
      have hle : s + szF V s ≤ x + szF V x := by
        rcases Nat.lt_or_ge (x + szF V x) (s + szF V s) with q | q
        · exfalso
          have h1 : x + szF V x < vN V := by omega
          have h2 := (hS.2 _ h1).mpr ⟨by omega, q⟩
          have h3 : fromB V (x + szF V x) x = true := by
            rcases from_iff.mp h2 with z | ⟨p, z1, z2⟩
            · omega
            · rcases z2 with rfl | z2
              · exact from_iff.mpr (Or.inr ⟨p, z1, Or.inr hps⟩)
              · have a1 := hW.pp h1 z1
                have a2 := hW.pp (show p < vN V by omega) z2
                have a3 := hW.pp hsn hps
                have a4 := (hW.c h1).2.2.2.1
                omega
          have := (hX.2 _ h1).mp h3
          omega
        · exact q
      rw [List.range'_succ, List.filter_cons_of_pos (p := fun d => vPar V d == some x) (a := s) (by simp [hps])]
      refine ⟨rfl, ?_⟩
      have hsplit : List.range' (s + 1) m = List.range' (s + 1) (szF V s - 1) ++ List.range' (s + szF V s) (m - (szF V s - 1)) := by
        rw [show s + szF V s = (s + 1) + 1 * (szF V s - 1) by omega, List.range'_append, show szF V s - 1 + (m - (szF V s - 1)) = m by omega]
      have hnil : (List.range' (s + 1) (szF V s - 1)).filter (fun d => vPar V d == some x) = [] := List.filter_eq_nil_iff.mpr (fun d hd q => by
        rw [List.mem_range'_1] at hd
        have hdn : d < vN V := by omega
        have h1 := (hS.2 d hdn).mpr (by omega)
        have h2 : vPar V d = some x := by simpa using q
        rcases from_iff.mp h1 with z | ⟨p, z1, z2⟩
        · omega
        · rw [h2] at z1
          injection z1 with z1
          subst z1
          rcases z2 with rfl | z2
          · omega
          · have := (hW.pp hx z2).1
            omega)
      rw [hsplit, List.filter_append, hnil, List.nil_append]
      refine ih (m - (szF V s - 1)) (by omega) (s + szF V s) (by omega) (by omega) (fun hlt => ?_)
      have hen : s + szF V s < vN V := by omega
      have h1 := (hX.2 _ hen).mpr ⟨by omega, hlt⟩
      rcases from_iff.mp h1 with z | ⟨q, z1, z2⟩
      · omega
      · rcases z2 with rfl | z2
        · exact z1
        · exfalso
          have q1 := hW.pp hen z1
          have hq : q < vN V := by omega
          have q2 := hW.pp hq z2
          have hQ := sz_int hW hq
          rcases Nat.lt_trichotomy q s with w | w | w
          · have w1 := (hQ.2 _ hen).mp (from_iff.mpr (Or.inr ⟨q, z1, Or.inl rfl⟩))
            have w2 := (hQ.2 s hsn).mpr (by omega)
            rcases from_iff.mp w2 with y | ⟨p, y1, y2⟩
            · omega
            · rw [hps] at y1
              injection y1 with y1
              subst y1
              rcases y2 with y | y
              · omega
              · have := (hW.pp hx y).1; omega
          · subst w
            have := (hS.2 _ hen).mp (from_iff.mpr (Or.inr ⟨q, z1, Or.inl rfl⟩))
            omega
          · have w2 := (hS.2 q hq).mpr (by omega)
            rcases from_iff.mp w2 with y | ⟨p, y1, y2⟩
            · omega
            · rw [z2] at y1
              injection y1 with y1
              subst y1
              rcases y2 with y | y
              · omega
              · have := (hW.pp hx y).1; omega
theorem chs_eq {k : Nat} {V : Vw} (hW : Wf k V) {x : Nat} (hx : x < vN V) : chs V x = (List.range' (x + 1) (szF V x - 1)).filter (fun d => vPar V d == some x) := by
  have hX := sz_int hW hx
  have hp := sz_pos hW hx
  unfold chs
  have e1 : List.range (vN V) = List.range' 0 (x + 1) ++ (List.range' (x + 1) (szF V x - 1) ++ List.range' (x + szF V x) (vN V - (x + szF V x))) := by
    rw [List.range_eq_range', show x + szF V x = (x + 1) + 1 * (szF V x - 1) by omega, List.range'_append]
    have := List.range'_append (s := 0) (m := x + 1) (n := szF V x - 1 + (vN V - (x + 1 + 1 * (szF V x - 1)))) (step := 1)
    rw [show 0 + 1 * (x + 1) = x + 1 by omega] at this
    rw [this]
    congr 1
    omega
  have none1 : ∀ d, d < vN V → vPar V d = some x → x + 1 ≤ d ∧ d < x + szF V x := fun d hd q => by
    have h1 := (hX.2 d hd).mp (from_iff.mpr (Or.inr ⟨x, q, Or.inl rfl⟩))
    have := (hW.pp hd q).1
    omega
  have n1 : (List.range' 0 (x + 1)).filter (fun d => vPar V d == some x) = [] := List.filter_eq_nil_iff.mpr (fun d hd q => by
    rw [List.mem_range'_1] at hd
    have := none1 d (by omega) (by simpa using q)
    omega)
  have n2 : (List.range' (x + szF V x) (vN V - (x + szF V x))).filter (fun d => vPar V d == some x) = [] := List.filter_eq_nil_iff.mpr (fun d hd q => by
    rw [List.mem_range'_1] at hd
    have := none1 d (by omega) (by simpa using q)
    omega)
  rw [e1, List.filter_append, List.filter_append, n1, n2, List.nil_append, List.append_nil]
theorem tiles {k : Nat} {V : Vw} (hW : Wf k V) {x : Nat} (hx : x < vN V) : Tiles V (x + szF V x) (x + 1) (chs V x) := by
  have hX := sz_int hW hx
  have hp := sz_pos hW hx
  rw [chs_eq hW hx]
  refine tiles_aux hW hx (szF V x - 1) (x + 1) (by omega) (by omega) (fun hlt => ?_)
  have hn : x + 1 < vN V := by omega
  rcases from_iff.mp ((hX.2 _ hn).mpr ⟨by omega, hlt⟩) with z | ⟨q, z1, z2⟩
  · omega
  · rcases z2 with rfl | z2
    · exact z1
    · have q1 := (hW.pp hn z1).1
      have q2 := (hW.pp (show q < vN V by omega) z2).1
      omega
/-! looking alike -/
def lookB (V : Vw) (x y : Nat) : Bool := (vCol V x == vCol V y) && (vSiz V x == vSiz V y) && (List.range (vSiz V x)).all (fun j => vCod V x j == vCod V y j)
def alkB (V : Vw) (x y : Nat) : Bool := lookB V x y && (hangS V x == hangS V y)
def corr (V : Vw) (A B x y : Nat) : Prop := lookB V x y = true ∧ vDep V y + vDep V A = vDep V x + vDep V B
def FF (V : Vw) (A B x y : Nat) : Prop := szF V x = szF V y ∧ ∀ i, i < szF V x → corr V A B (x + i) (y + i)
theorem chs_len {V : Vw} {x : Nat} : (chs V x).length = hangS V x := rfl
theorem chs_mem {k : Nat} {V : Vw} (hW : Wf k V) {x c : Nat} (h : c ∈ chs V x) : c < vN V ∧ vPar V c = some x ∧ x < c ∧ vDep V c = vDep V x + 1 := by
  unfold chs at h
  rw [List.mem_filter, List.mem_range] at h
  have h2 : vPar V c = some x := by simpa using h.2
  exact ⟨h.1, h2, hW.pp h.1 h2⟩
theorem ff_lists {V : Vw} {A B ex ey : Nat} : ∀ (cs ds : List Nat) (s t : Nat), Tiles V ex s cs → Tiles V ey t ds → cs.length = ds.length → (∀ (k c d : Nat), cs[k]? = some c → ds[k]? = some d → FF V A B c d) → s ≤ ex ∧ t ≤ ey ∧ ex - s = ey - t ∧ ∀ i, s + i < ex → corr V A B (s + i) (t + i)
  | [], [], s, t, h1, h2, _, _ => by
    have h1' : s = ex := h1
    have h2' : t = ey := h2
    exact ⟨by omega, by omega, by omega, fun i hi => by omega⟩
  | [], d :: ds, s, t, h1, h2, hl, _ => by simp at hl
  | c :: cs, [], s, t, h1, h2, hl, _ => by simp at hl
  | c :: cs, d :: ds, s, t, h1, h2, hl, hF => by
    obtain ⟨rfl, h1⟩ := h1
    obtain ⟨rfl, h2⟩ := h2
    have f0 := hF 0 c d (by rw [List.getElem?_cons_zero]) (by rw [List.getElem?_cons_zero])
    obtain ⟨i1, i2, i3, i4⟩ := ff_lists cs ds (c + szF V c) (d + szF V d) h1 h2 (by simpa using hl) (fun k c' d' hc hd => hF (k + 1) c' d' (by rw [List.getElem?_cons_succ]; exact hc) (by rw [List.getElem?_cons_succ]; exact hd))
    have e := f0.1
    refine ⟨by omega, by omega, by omega, fun i hi => ?_⟩
    by_cases h : i < szF V c
    · exact f0.2 i h
    · have := i4 (i - szF V c) (by omega)
      rw [show c + szF V c + (i - szF V c) = c + i by omega, show d + szF V d + (i - szF V c) = d + i by omega] at this
      exact this
theorem ff_up {k : Nat} {V : Vw} (hW : Wf k V) {A B x y : Nat} (hx : x < vN V) (hy : y < vN V) (h1 : alkB V x y = true) (h2 : vDep V y + vDep V A = vDep V x + vDep V B) (h3 : ∀ (k c d : Nat), (chs V x)[k]? = some c → (chs V y)[k]? = some d → FF V A B c d) : FF V A B x y := by
  unfold alkB at h1
  rw [Bool.and_eq_true, beq_iff_eq] at h1
  obtain ⟨i1, i2, i3, i4⟩ := ff_lists (chs V x) (chs V y) _ _ (tiles hW hx) (tiles hW hy) h1.2 h3
  refine ⟨by omega, fun i hi => ?_⟩
  cases i with
  | zero => exact ⟨h1.1, h2⟩
  | succ i =>
    have := i4 i (by omega)
    rw [show x + 1 + i = x + (i + 1) by omega, show y + 1 + i = y + (i + 1) by omega] at this
    exact this
theorem tiles_same {V : Vw} {x y n : Nat} : ∀ (js : List Nat) (a b : Nat), Tiles V (x + n) (x + a) (js.map (fun j => x + j)) → Tiles V (y + n) (y + b) (js.map (fun j => y + j)) → a = b ∧ a ≤ n ∧ ∀ j, j ∈ js → szF V (x + j) = szF V (y + j) ∧ j + szF V (x + j) ≤ n
  | [], a, b, h1, h2 => by
    have h1' : x + a = x + n := h1
    have h2' : y + b = y + n := h2
    exact ⟨by omega, by omega, fun j hj => by simp at hj⟩
  | j :: js, a, b, h1, h2 => by
    rw [List.map_cons] at h1 h2
    obtain ⟨e1, h1⟩ := h1
    obtain ⟨e2, h2⟩ := h2
    have ea : a = j := by omega
    have eb : b = j := by omega
    subst ea
    subst eb
    rw [Nat.add_assoc] at h1 h2
    obtain ⟨i1, i2, i3⟩ := tiles_same js (b + szF V (x + b)) (b + szF V (y + b)) h1 h2
    refine ⟨rfl, by omega, fun j hj => ?_⟩
    rw [List.mem_cons] at hj
    rcases hj with rfl | hj
    · exact ⟨by omega, i2⟩
    · exact i3 j hj
theorem chs_shift {k : Nat} {V : Vw} (hW : Wf k V) {x : Nat} (hx : x < vN V) : chs V x = ((List.range' 1 (szF V x - 1)).filter (fun i => vPar V (x + i) == some x)).map (fun j => x + j) := by
  rw [chs_eq hW hx, ← List.map_add_range', List.filter_map]
  rfl
theorem par_dep {k : Nat} {V : Vw} (hW : Wf k V) {x i : Nat} (hx : x < vN V) (h1 : 1 ≤ i) (h2 : i < szF V x) : vPar V (x + i) = some x ↔ vDep V (x + i) = vDep V x + 1 := by
  have hX := sz_int hW hx
  have hn : x + i < vN V := by omega
  rcases from_iff.mp ((hX.2 _ hn).mpr ⟨by omega, by omega⟩) with z | ⟨q, z1, z2⟩
  · omega
  · have q1 := hW.pp hn z1
    rcases z2 with rfl | z2
    · exact ⟨fun _ => q1.2, fun _ => z1⟩
    · have q2 := hW.pp (show q < vN V by omega) z2
      constructor
      · intro e
        rw [z1] at e
        injection e with e
        omega
      · intro e; omega
theorem ff_down {k : Nat} {V : Vw} (hW : Wf k V) {A B x y : Nat} (hx : x < vN V) (hy : y < vN V) (hF : FF V A B x y) : alkB V x y = true ∧ ∀ (k c d : Nat), (chs V x)[k]? = some c → (chs V y)[k]? = some d → FF V A B c d := by
  obtain ⟨hsz, hco⟩ := hF
  have hp := sz_pos hW hx
  have c0 := hco 0 hp
  obtain ⟨js, hjs⟩ : ∃ js, js = (List.range' 1 (szF V x - 1)).filter (fun i => vPar V (x + i) == some x) := ⟨_, rfl⟩
  have ex : chs V x = js.map (fun j => x + j) := by rw [chs_shift hW hx, hjs]
  have ey : chs V y = js.map (fun j => y + j) := by
    rw [chs_shift hW hy, hjs, ← hsz]
    congr 1
    refine filter_congrL (fun i hi => ?_)
    rw [List.mem_range'_1] at hi
    have ci := hco i (by omega)
    have d1 := par_dep hW hx (i := i) (by omega) (by omega)
    have d2 := par_dep hW hy (i := i) (by omega) (by omega)
    have ci2 := ci.2
    have c02 := c0.2
    rw [Nat.add_zero, Nat.add_zero] at c02
    rw [Bool.eq_iff_iff, beq_iff_eq, beq_iff_eq, d1, d2]
    constructor
    · intro q; omega
    · intro q; omega
  have tx := tiles hW hx
  have ty := tiles hW hy
  rw [ex] at tx
  rw [ey, ← hsz] at ty
  obtain ⟨t1, t2, t3⟩ := tiles_same js 1 1 tx ty
  refine ⟨?_, fun k c d hc hd => ?_⟩
  · unfold alkB
    rw [Bool.and_eq_true, beq_iff_eq]
    refine ⟨by have := c0.1; rw [Nat.add_zero, Nat.add_zero] at this; exact this, ?_⟩
    rw [← chs_len, ← chs_len, ex, ey, List.length_map, List.length_map]
  · rw [ex, List.getElem?_map] at hc
    rw [ey, List.getElem?_map] at hd
    cases hj : js[k]? with
    | none => rw [hj] at hc; cases hc
    | some j =>
      rw [hj] at hc hd
      have e1 : x + j = c := by injection hc
      have e2 : y + j = d := by injection hd
      subst e1
      subst e2
      obtain ⟨u1, u2⟩ := t3 j (List.mem_of_getElem? hj)
      refine ⟨u1, fun i hi => ?_⟩
      rw [Nat.add_assoc, Nat.add_assoc]
      exact hco (j + i) (by omega)
def cB (V : Vw) (A B i : Nat) : Bool := lookB V (A + i) (B + i) && (vDep V (B + i) + vDep V A == vDep V (A + i) + vDep V B)
def clsB (V : Vw) (A B : Nat) : Bool := (szF V A == szF V B) && (List.range (szF V A)).all (cB V A B)
def blwB (V : Vw) (c d : Nat) : Bool := alkB V c d && (List.range (hangS V c)).all (fun m => alkB V ((chs V c).getD m 0) ((chs V d).getD m 0))
def refB (V : Vw) (A B : Nat) : Bool := alkB V A B && (List.range (hangS V A)).all (fun k => blwB V ((chs V A).getD k 0) ((chs V B).getD k 0))
theorem all_ch {V : Vw} {x y : Nat} {Q : Nat → Nat → Bool} (hl : hangS V x = hangS V y) : (List.range (hangS V x)).all (fun k => Q ((chs V x).getD k 0) ((chs V y).getD k 0)) = true ↔ ∀ (k c d : Nat), (chs V x)[k]? = some c → (chs V y)[k]? = some d → Q c d = true := by
  rw [List.all_eq_true]
  constructor
  · intro h k c d hc hd
    have hk : k < (chs V x).length := by
      rcases Nat.lt_or_ge k (chs V x).length with q | q
      · exact q
      · rw [List.getElem?_eq_none q] at hc; cases hc
    have := h k (List.mem_range.mpr hk)
    rw [List.getD_eq_getElem?_getD, List.getD_eq_getElem?_getD, hc, hd] at this
    exact this
  · intro h k hk
    have hk1 : k < (chs V x).length := List.mem_range.mp hk
    have hk2 : k < (chs V y).length := by rw [chs_len, ← hl]; exact hk1
    rw [List.getD_eq_getElem?_getD, List.getD_eq_getElem?_getD, List.getElem?_eq_getElem hk1, List.getElem?_eq_getElem hk2]
    exact h k _ _ (List.getElem?_eq_getElem hk1) (List.getElem?_eq_getElem hk2)
theorem alk_len {V : Vw} {x y : Nat} (h : alkB V x y = true) : hangS V x = hangS V y := by
  unfold alkB at h
  rw [Bool.and_eq_true, beq_iff_eq] at h
  exact h.2
theorem same_eq {k : Nat} {V : Vw} (hW : Wf k V) {A B : Nat} (hA : A < vN V) (hB : B < vN V) : clsB V A B = refB V A B := by
  have c1 : clsB V A B = true ↔ FF V A B A B := by
    unfold clsB FF corr cB
    rw [Bool.and_eq_true, beq_iff_eq, List.all_eq_true]
    constructor
    · rintro ⟨q1, q2⟩
      refine ⟨q1, fun i hi => ?_⟩
      have := q2 i (List.mem_range.mpr hi)
      rw [Bool.and_eq_true, beq_iff_eq] at this
      exact this
    · rintro ⟨q1, q2⟩
      refine ⟨q1, fun i hi => ?_⟩
      rw [Bool.and_eq_true, beq_iff_eq]
      exact q2 i (List.mem_range.mp hi)
  have c2 : refB V A B = true ↔ FF V A B A B := by
    unfold refB
    rw [Bool.and_eq_true]
    constructor
    · rintro ⟨q1, q2⟩
      have q3 := (all_ch (Q := blwB V) (alk_len q1)).mp q2
      refine ff_up hW hA hB q1 (by omega) (fun k c d hc hd => ?_)
      have mc := chs_mem hW (List.mem_of_getElem? hc)
      have md := chs_mem hW (List.mem_of_getElem? hd)
      have q4 := q3 k c d hc hd
      unfold blwB at q4
      rw [Bool.and_eq_true] at q4
      have q5 := (all_ch (Q := alkB V) (alk_len q4.1)).mp q4.2
      refine ff_up hW mc.1 md.1 q4.1 (by omega) (fun k c2 d2 hc2 hd2 => ?_)
      have mc2 := chs_mem hW (List.mem_of_getElem? hc2)
      have md2 := chs_mem hW (List.mem_of_getElem? hd2)
      refine ff_up hW mc2.1 md2.1 (q5 k c2 d2 hc2 hd2) (by omega) (fun k c3 d3 hc3 hd3 => ?_)
      have mc3 := chs_mem hW (List.mem_of_getElem? hc3)
      have := (hW.c mc3.1).2.2.2.1
      omega
    · intro hF
      obtain ⟨f1, f2⟩ := ff_down hW hA hB hF
      refine ⟨f1, (all_ch (Q := blwB V) (alk_len f1)).mpr (fun k c d hc hd => ?_)⟩
      have mc := chs_mem hW (List.mem_of_getElem? hc)
      have md := chs_mem hW (List.mem_of_getElem? hd)
      obtain ⟨g1, g2⟩ := ff_down hW mc.1 md.1 (f2 k c d hc hd)
      unfold blwB
      rw [Bool.and_eq_true]
      refine ⟨g1, (all_ch (Q := alkB V) (alk_len g1)).mpr (fun k c2 d2 hc2 hd2 => ?_)⟩
      have mc2 := chs_mem hW (List.mem_of_getElem? hc2)
      have md2 := chs_mem hW (List.mem_of_getElem? hd2)
      exact (ff_down hW mc2.1 md2.1 (g2 k c2 d2 hc2 hd2)).1
  rw [Bool.eq_iff_iff, c1, c2]
/-! the two programs -/
theorem b2_if {p : Prop} [Decidable p] {b : Bool} (h : p ↔ b = true) : (if p then (1 : Int32) else 0) = b2 b := by
  cases b with
  | false => rw [if_neg (fun q => by have := h.mp q; cases this)]; rfl
  | true => rw [if_pos (h.mpr rfl)]; rfl
theorem b2_ok {α : Type} (b : Bool) (x y : α) : (if b2 b = 0 ∨ b2 b = 1 then x else y) = x := by cases b <;> rfl
theorem b2_01 {α : Type} (b : Bool) (x y : α) : (if b2 b = 0 then x else y) = if b = true then y else x := by cases b <;> rfl
section SA
variable {h : Hp} {r k N : Nat} {V : Vw}
theorem q_look_L (hV : RowV (h r) V) (hW : Wf k V) {x y : Nat} (hx : x < vN V) (hy : y < vN V) : ∀ (m j fuel : Nat) (b : Bool), j + m = vSiz V x → m < fuel → (b = true → vSiz V x = vSiz V y) → fX0_looksLike_L35 N h r (nI x) (nI y) fuel (b2 b) (nI j) = some (b2 (b && (List.range' j m).all (fun j => vCod V x j == vCod V y j))) := by
  intro m
  have hs := hW.siz hx
  induction m with
  | zero =>
    intro j fuel b hj hf hb
    obtain ⟨fuel, rfl⟩ : ∃ f, fuel = f + 1 := ⟨fuel - 1, by omega⟩
    rw [fX0_looksLike_L35, q_size hV hW hx, if_neg (nI_nlt (by omega) (by omega)), b2_ok]
    rw [show (List.range' j 0).all (fun j => vCod V x j == vCod V y j) = true from rfl, Bool.and_true]
    split <;> rfl
  | succ m ih =>
    intro j fuel b hj hf hb
    obtain ⟨fuel, rfl⟩ : ∃ f, fuel = f + 1 := ⟨fuel - 1, by omega⟩
    rw [fX0_looksLike_L35, b2_ok]
    cases b with
    | false => rfl
    | true =>
      have hsy := hb rfl
      have k1 := codOK_lt (hW.cod hx (j := j) (by omega))
      have k2 := codOK_lt (hW.cod hy (j := j) (by omega))
      rw [show b2 true = (1 : Int32) from rfl, if_neg n10, q_size hV hW hx, if_pos (nI_lt (by omega) (by omega)), q_code hV hW hx (by omega), q_code hV hW hy (by omega), if_nI (by omega) (by omega), b2_if (b := vCod V x j == vCod V y j) (by rw [beq_iff_eq]), nI_1, ih (j + 1) fuel _ (by omega) (by omega) (fun _ => hsy), List.range'_succ, List.all_cons, Bool.true_and]
theorem q_look (hV : RowV (h r) V) (hW : Wf k V) (hN : 10 ≤ N) {x y : Nat} (hx : x < vN V) (hy : y < vN V) : fX0_looksLike N h r (nI x) (nI y) = some (b2 (lookB V x y)) := by
  have hs := hW.siz hx
  have hs2 := hW.siz hy
  have w1 := (hW.c hx).1
  have w2 := (hW.c hy).1
  unfold fX0_looksLike
  rw [q_colour hV hW hx, q_colour hV hW hy, q_size hV hW hx, q_size hV hW hy, if_nI (by omega) (by omega), if_nI (by omega) (by omega)]
  have e : (if vCol V x = vCol V y then (if vSiz V x = vSiz V y then (1 : Int32) else 0) else 0) = b2 ((vCol V x == vCol V y) && (vSiz V x == vSiz V y)) := by
    by_cases h1 : vCol V x = vCol V y
    · rw [if_pos h1]
      by_cases h2 : vSiz V x = vSiz V y
      · rw [if_pos h2]; simp [h1, h2, b2]
      · rw [if_neg h2]; simp [h2, b2]
    · rw [if_neg h1]; simp [h1, b2]
  rw [e]
  have := q_look_L (N := N) hV hW hx hy (vSiz V x) 0 N ((vCol V x == vCol V y) && (vSiz V x == vSiz V y)) (by omega) (by omega) (fun q => by rw [Bool.and_eq_true, beq_iff_eq, beq_iff_eq] at q; exact q.2)
  rw [← List.range_eq_range'] at this
  exact this
theorem q_from_L (hV : RowV (h r) V) (hW : Wf k V) {c : Nat} (hc : c < vN V) : ∀ (m j acc fuel : Nat), j + m = vN V → m < fuel → fX0_cordsFrom_L4 N h r (nI c) fuel (nI acc) (nI j) = some (nI (acc + ((List.range' j m).filter (fun d => fromB V d c)).length)) := by
  intro m
  have hn := hW.n
  induction m with
  | zero =>
    intro j acc fuel hj hf
    obtain ⟨fuel, rfl⟩ : ∃ f, fuel = f + 1 := ⟨fuel - 1, by omega⟩
    rw [fX0_cordsFrom_L4, q_cords hV, if_neg (nI_nlt (by omega) (by omega))]
    rfl
  | succ m ih =>
    intro j acc fuel hj hf
    obtain ⟨fuel, rfl⟩ : ∃ f, fuel = f + 1 := ⟨fuel - 1, by omega⟩
    have hlt : j < vN V := by omega
    rw [fX0_cordsFrom_L4, q_cords hV, if_pos (nI_lt hlt (by omega)), q_from hV hW hlt hc, nI_1 j, List.range'_succ]
    by_cases hb : fromB V j c = true
    · rw [if_pos hb, if_neg n10, nI_1, ih (j + 1) (acc + 1) fuel (by omega) (by omega), List.filter_cons_of_pos (p := fun d => fromB V d c) (a := j) hb, List.length_cons]
      congr 2; omega
    · rw [if_neg hb, if_pos rfl, add0, ih (j + 1) acc fuel (by omega) (by omega), List.filter_cons_of_neg (p := fun d => fromB V d c) (a := j) hb]
theorem q_fromN (hV : RowV (h r) V) (hW : Wf k V) (hN : 20 ≤ N) {c : Nat} (hc : c < vN V) : fX0_cordsFrom N h r (nI c) = some (nI (szF V c)) := by
  have hn := hW.n
  have := q_from_L (N := N) hV hW hc (vN V) 0 0 N (by omega) (by omega)
  rw [Nat.zero_add, ← List.range_eq_range'] at this
  exact this
theorem dif_dec : ∀ a, a < 3 → ∀ b, b < 3 → ∀ c, c < 3 → ∀ d, d < 3 → ((nI a - nI b = nI c - nI d) ↔ a + d = b + c) := by decide +kernel
theorem q_same_L (hV : RowV (h 7) V) (hW : Wf k V) (hN : 20 ≤ N) {A B : Nat} (hA : A < vN V) (hB : B < vN V) : ∀ (m i fuel : Nat) (b : Bool), i + m = szF V A → m < fuel → (b = true → szF V A = szF V B) → fX4_same_L79 N h (nI A) (nI B) fuel (nI (szF V A)) (b2 b) (nI (vDep V B) - nI (vDep V A)) (nI i) = some (b2 (b && (List.range' i m).all (cB V A B))) := by
  intro m
  have hn := hW.n
  have sA := sz_int hW hA
  have sB := sz_int hW hB
  have dA := (hW.c hA).2.2.2.1
  have dB := (hW.c hB).2.2.2.1
  have fin : ∀ b, fX4_same_J149 N h (nI A) (nI B) (b2 b) = some (b2 b) := fun b => by
    unfold fX4_same_J149
    cases b <;> rfl
  induction m with
  | zero =>
    intro i fuel b hj hf hb
    obtain ⟨fuel, rfl⟩ : ∃ f, fuel = f + 1 := ⟨fuel - 1, by omega⟩
    rw [fX4_same_L79, fin, if_neg (nI_nlt (by omega) (by omega))]
    rw [show (List.range' i 0).all (cB V A B) = true from rfl, Bool.and_true]
    split <;> rfl
  | succ m ih =>
    intro i fuel b hj hf hb
    obtain ⟨fuel, rfl⟩ : ∃ f, fuel = f + 1 := ⟨fuel - 1, by omega⟩
    rw [fX4_same_L79, fin]
    cases b with
    | false => rfl
    | true =>
      have hsz := hb rfl
      have hAi : A + i < vN V := by omega
      have hBi : B + i < vN V := by omega
      have d1 := (hW.c hAi).2.2.2.1
      have d2 := (hW.c hBi).2.2.2.1
      rw [show b2 true = (1 : Int32) from rfl, if_neg n10, if_pos (nI_lt (by omega) (by omega)), nI_add, nI_add, q_look hV hW (by omega) hAi hBi, Option.bind_some, q_depth hV hW hAi, q_depth hV hW hBi, nI_1]
      have e : (if b2 (lookB V (A + i) (B + i)) = 0 then (0 : Int32) else (if nI (vDep V (B + i)) - nI (vDep V (A + i)) = nI (vDep V B) - nI (vDep V A) then 1 else 0)) = b2 (cB V A B i) := by
        rw [b2_01, b2_if (b := vDep V (B + i) + vDep V A == vDep V (A + i) + vDep V B) (by rw [beq_iff_eq]; exact dif_dec _ (by omega) _ (by omega) _ (by omega) _ (by omega))]
        unfold cB
        cases lookB V (A + i) (B + i) <;> rfl
      rw [e, ih (i + 1) fuel _ (by omega) (by omega) (fun _ => hsz), List.range'_succ, List.all_cons, Bool.true_and]
theorem m_alk_L (hV : ModV (h 23) V) (hW : Wf k V) {x y : Nat} (hx : x < vN V) (hy : y < vN V) : ∀ (m j fuel : Nat) (b : Bool), j + m = vSiz V x → m < fuel → (b = true → vSiz V x = vSiz V y) → fX5_areAlike_L62 N h (nI x) (nI y) fuel (b2 b) (nI j) = some (b2 (b && (List.range' j m).all (fun j => vCod V x j == vCod V y j))) := by
  intro m
  have hs := hW.siz hx
  induction m with
  | zero =>
    intro j fuel b hj hf hb
    obtain ⟨fuel, rfl⟩ : ∃ f, fuel = f + 1 := ⟨fuel - 1, by omega⟩
    rw [fX5_areAlike_L62, r_siz hV hW hx, Option.bind_some, if_neg (nI_nlt (by omega) (by omega)), b2_ok]
    rw [show (List.range' j 0).all (fun j => vCod V x j == vCod V y j) = true from rfl, Bool.and_true]
  | succ m ih =>
    intro j fuel b hj hf hb
    obtain ⟨fuel, rfl⟩ : ∃ f, fuel = f + 1 := ⟨fuel - 1, by omega⟩
    rw [fX5_areAlike_L62, r_siz hV hW hx, Option.bind_some, if_pos (nI_lt (by omega) (by omega)), nI_1]
    cases b with
    | false =>
      rw [show b2 false = (0 : Int32) from rfl, if_pos rfl]
      have := ih (j + 1) fuel false (by omega) (by omega) (fun q => by cases q)
      rw [Bool.false_and] at this ⊢
      exact this
    | true =>
      have hsy := hb rfl
      have k1 := codOK_lt (hW.cod hx (j := j) (by omega))
      have k2 := codOK_lt (hW.cod hy (j := j) (by omega))
      rw [show b2 true = (1 : Int32) from rfl, if_neg n10, m_knot0 hV hW hx (by omega), m_knot0 hV hW hy (by omega), Option.bind_some, Option.bind_some, if_nI (by omega) (by omega), b2_if (b := vCod V x j == vCod V y j) (by rw [beq_iff_eq]), ih (j + 1) fuel _ (by omega) (by omega) (fun _ => hsy), List.range'_succ, List.all_cons, Bool.true_and]
theorem m_alk (hV : ModV (h 23) V) (hW : Wf k V) (hN : 20 ≤ N) {x y : Nat} (hx : x < vN V) (hy : y < vN V) : fX5_areAlike N h (nI x) (nI y) = some (b2 (alkB V x y)) := by
  have hs := hW.siz hx
  have hs2 := hW.siz hy
  have hn := hW.n
  have w1 := (hW.c hx).1
  have w2 := (hW.c hy).1
  have l1 : hangS V x ≤ 16 := by have := List.length_filter_le (fun d => vPar V d == some x) (List.range (vN V)); rw [List.length_range] at this; unfold hangS; omega
  have l2 : hangS V y ≤ 16 := by have := List.length_filter_le (fun d => vPar V d == some y) (List.range (vN V)); rw [List.length_range] at this; unfold hangS; omega
  have L := fun b => m_alk_L (N := N) hV hW hx hy (vSiz V x) 0 N b (by omega) (by omega)
  have L0 := L false (fun q => by cases q)
  rw [Bool.false_and] at L0
  unfold fX5_areAlike
  rw [r_col hV hW hx, r_col hV hW hy, r_siz hV hW hx, r_siz hV hW hy, m_hang hV hW hN hx, m_hang hV hW hN hy]
  simp only [Option.bind_some]
  rw [if_nI (by omega) (by omega), if_nI (by omega) (by omega), if_nI (by omega) (by omega), show fX5_areAlike_L62 N h (nI x) (nI y) N 0 0 = some (b2 false) from L0]
  by_cases h1 : vCol V x = vCol V y
  · rw [if_pos h1]
    by_cases h2 : vSiz V x = vSiz V y
    · have L1 := L (hangS V x == hangS V y) (fun _ => h2)
      rw [if_pos h2, b2_if (b := hangS V x == hangS V y) (by rw [beq_iff_eq]), show fX5_areAlike_L62 N h (nI x) (nI y) N (b2 (hangS V x == hangS V y)) 0 = _ from L1, ← List.range_eq_range']
      congr 2
      unfold alkB lookB
      simp [h1, h2, Bool.and_comm]
    · rw [if_neg h2]; unfold alkB lookB; rw [show (vSiz V x == vSiz V y) = false from beq_eq_false_iff_ne.mpr h2, Bool.and_false, Bool.false_and, Bool.false_and]
  · rw [if_neg h1]; unfold alkB lookB; rw [show (vCol V x == vCol V y) = false from beq_eq_false_iff_ne.mpr h1, Bool.false_and, Bool.false_and, Bool.false_and]
theorem m_hat_L (hV : ModV (h 23) V) (hW : Wf k V) {x i : Nat} (hx : x < vN V) (hi : i < 2 ^ 30) : ∀ (m j cnt fuel : Nat) (cur : Int32), j + m = vN V → m < fuel → cnt ≤ j → fX5_hangingAt_L8 N h (nI x) (nI i) fuel cur (nI cnt) (nI j) = some (if i < cnt then cur else match ((List.range' j m).filter (fun d => vPar V d == some x))[i - cnt]? with | some c => nI c | none => cur) := by
  intro m
  have hn := hW.n
  induction m with
  | zero =>
    intro j cnt fuel cur hj hf hcj
    obtain ⟨fuel, rfl⟩ : ∃ f, fuel = f + 1 := ⟨fuel - 1, by omega⟩
    rw [fX5_hangingAt_L8, hV.1, if_neg (nI_nlt (by omega) (by omega))]
    congr 1
    split <;> rfl
  | succ m ih =>
    intro j cnt fuel cur hj hf hcj
    obtain ⟨fuel, rfl⟩ : ∃ f, fuel = f + 1 := ⟨fuel - 1, by omega⟩
    have hlt : j < vN V := by omega
    rw [fX5_hangingAt_L8, hV.1, if_pos (nI_lt hlt (by omega)), r_par hV hW hlt, Option.bind_some, nI_1 j, nI_1 cnt, List.range'_succ]
    by_cases hb : vPar V j = some x
    · rw [if_pos ((encM_eq (hW.par31 hlt) (by omega)).mpr hb), ih (j + 1) (cnt + 1) fuel _ (by omega) (by omega) (by omega), List.filter_cons_of_pos (p := fun d => vPar V d == some x) (a := j) (by simp [hb]), if_nI (by omega) (by omega)]
      congr 1
      by_cases h1 : i < cnt
      · rw [if_pos (by omega), if_neg (by omega), if_pos h1]
      · rw [if_neg h1]
        by_cases h2 : cnt = i
        · subst h2
          rw [if_pos (by omega), if_pos rfl, Nat.sub_self, List.getElem?_cons_zero]
        · rw [if_neg (by omega), if_neg h2, show i - cnt = (i - (cnt + 1)) + 1 by omega, List.getElem?_cons_succ]
    · rw [if_neg (fun q => hb ((encM_eq (hW.par31 hlt) (by omega)).mp q)), ih (j + 1) cnt fuel _ (by omega) (by omega) (by omega), List.filter_cons_of_neg (p := fun d => vPar V d == some x) (a := j) (by simp [hb])]
theorem m_hat (hV : ModV (h 23) V) (hW : Wf k V) (hN : 20 ≤ N) {x i : Nat} (hx : x < vN V) (hi : i < (chs V x).length) : fX5_hangingAt N h (nI x) (nI i) = some (nI ((chs V x).getD i 0)) := by
  have hn := hW.n
  have l1 : (chs V x).length ≤ 16 := by have := List.length_filter_le (fun d => vPar V d == some x) (List.range (vN V)); rw [List.length_range] at this; unfold chs; omega
  have := m_hat_L (N := N) hV hW hx (i := i) (by omega) (vN V) 0 0 N (-1) (by omega) (by omega) (by omega)
  rw [if_neg (by omega), ← List.range_eq_range', Nat.sub_zero] at this
  unfold fX5_hangingAt
  rw [show fX5_hangingAt_L8 N h (nI x) (nI i) N (-1) 0 0 = _ from this]
  show some (match (chs V x)[i]? with | some c => nI c | none => -1) = _
  rw [List.getD_eq_getElem?_getD, List.getElem?_eq_getElem hi]
  rfl
theorem ch_lt (hW : Wf k V) {x i : Nat} (hi : i < (chs V x).length) : (chs V x).getD i 0 < vN V := by
  rw [List.getD_eq_getElem?_getD, List.getElem?_eq_getElem hi]
  exact (chs_mem hW (List.getElem_mem hi)).1
theorem m_blw_L (hV : ModV (h 23) V) (hW : Wf k V) (hN : 20 ≤ N) {x y : Nat} (hx : x < vN V) (hy : y < vN V) : ∀ (m i fuel : Nat) (b : Bool), i + m = hangS V x → m < fuel → (b = true → hangS V x = hangS V y ∨ 0 < i) → (0 < i → hangS V x = hangS V y) → fX5_areAlikeBelow_L10 N h (nI x) (nI y) fuel (b2 b) (nI i) = some (b2 (b && (List.range' i m).all (fun m => alkB V ((chs V x).getD m 0) ((chs V y).getD m 0)))) := by
  intro m
  have hn := hW.n
  have l1 : hangS V x ≤ 16 := by have := List.length_filter_le (fun d => vPar V d == some x) (List.range (vN V)); rw [List.length_range] at this; unfold hangS; omega
  induction m with
  | zero =>
    intro i fuel b hj hf hb hi0
    obtain ⟨fuel, rfl⟩ : ∃ f, fuel = f + 1 := ⟨fuel - 1, by omega⟩
    rw [fX5_areAlikeBelow_L10, b2_ok, m_hang hV hW hN hx, Option.bind_some, if_neg (nI_nlt (by omega) (by omega))]
    rw [show (List.range' i 0).all (fun m => alkB V ((chs V x).getD m 0) ((chs V y).getD m 0)) = true from rfl, Bool.and_true]
    split <;> rfl
  | succ m ih =>
    intro i fuel b hj hf hb hi0
    obtain ⟨fuel, rfl⟩ : ∃ f, fuel = f + 1 := ⟨fuel - 1, by omega⟩
    rw [fX5_areAlikeBelow_L10, b2_ok]
    cases b with
    | false => rfl
    | true =>
      have he : hangS V x = hangS V y := (hb rfl).elim id hi0
      have hi1 : i < (chs V x).length := by rw [chs_len]; omega
      have hi2 : i < (chs V y).length := by rw [chs_len]; omega
      rw [show b2 true = (1 : Int32) from rfl, if_neg n10, m_hang hV hW hN hx, Option.bind_some, if_pos (nI_lt (by omega) (by omega)), m_hat hV hW hN hx hi1, m_hat hV hW hN hy hi2, Option.bind_some, Option.bind_some, m_alk hV hW hN (ch_lt hW hi1) (ch_lt hW hi2), Option.bind_some, nI_1, ih (i + 1) fuel _ (by omega) (by omega) (fun _ => Or.inl he) (fun _ => he), List.range'_succ, List.all_cons, Bool.true_and]
theorem m_blw (hV : ModV (h 23) V) (hW : Wf k V) (hN : 20 ≤ N) {x y : Nat} (hx : x < vN V) (hy : y < vN V) : fX5_areAlikeBelow N h (nI x) (nI y) = some (b2 (blwB V x y)) := by
  have hn := hW.n
  have l1 : hangS V x ≤ 16 := by have := List.length_filter_le (fun d => vPar V d == some x) (List.range (vN V)); rw [List.length_range] at this; unfold hangS; omega
  have := m_blw_L (N := N) hV hW hN hx hy (hangS V x) 0 N (alkB V x y) (by omega) (by omega) (fun q => Or.inl (alk_len q)) (fun q => by omega)
  rw [← List.range_eq_range'] at this
  unfold fX5_areAlikeBelow
  rw [m_alk hV hW hN hx hy, Option.bind_some]
  exact this
theorem m_same_L (hV : ModV (h 23) V) (hW : Wf k V) (hN : 20 ≤ N) {x y : Nat} (hx : x < vN V) (hy : y < vN V) : ∀ (m i fuel : Nat) (b : Bool), i + m = hangS V x → m < fuel → (b = true → hangS V x = hangS V y ∨ 0 < i) → (0 < i → hangS V x = hangS V y) → fX5_same_L33 N h (nI x) (nI y) fuel (b2 b) (nI i) = some (b2 (b && (List.range' i m).all (fun m => blwB V ((chs V x).getD m 0) ((chs V y).getD m 0)))) := by
  intro m
  have hn := hW.n
  have l1 : hangS V x ≤ 16 := by have := List.length_filter_le (fun d => vPar V d == some x) (List.range (vN V)); rw [List.length_range] at this; unfold hangS; omega
  have fin : ∀ b, fX5_same_J72 N h (nI x) (nI y) (b2 b) = some (b2 b) := fun b => by
    unfold fX5_same_J72
    cases b <;> rfl
  induction m with
  | zero =>
    intro i fuel b hj hf hb hi0
    obtain ⟨fuel, rfl⟩ : ∃ f, fuel = f + 1 := ⟨fuel - 1, by omega⟩
    rw [fX5_same_L33, fin, m_hang hV hW hN hx, Option.bind_some, if_neg (nI_nlt (by omega) (by omega))]
    rw [show (List.range' i 0).all (fun m => blwB V ((chs V x).getD m 0) ((chs V y).getD m 0)) = true from rfl, Bool.and_true]
    split <;> rfl
  | succ m ih =>
    intro i fuel b hj hf hb hi0
    obtain ⟨fuel, rfl⟩ : ∃ f, fuel = f + 1 := ⟨fuel - 1, by omega⟩
    rw [fX5_same_L33, fin]
    cases b with
    | false => rfl
    | true =>
      have he : hangS V x = hangS V y := (hb rfl).elim id hi0
      have hi1 : i < (chs V x).length := by rw [chs_len]; omega
      have hi2 : i < (chs V y).length := by rw [chs_len]; omega
      rw [show b2 true = (1 : Int32) from rfl, if_neg n10, m_hang hV hW hN hx, Option.bind_some, if_pos (nI_lt (by omega) (by omega)), m_hat hV hW hN hx hi1, m_hat hV hW hN hy hi2, Option.bind_some, Option.bind_some, m_blw hV hW hN (ch_lt hW hi1) (ch_lt hW hi2), Option.bind_some, nI_1, ih (i + 1) fuel _ (by omega) (by omega) (fun _ => Or.inl he) (fun _ => he), List.range'_succ, List.all_cons, Bool.true_and]
end SA
theorem st_same (N : Nat) (hN : 70000 ≤ N) : SF_same N RR := by
  intro k h hk hR a1 a2
  obtain ⟨V, hW, hC, hM⟩ := hR.2.2.1
  have hn := hW.n
  have key : ∃ v, fX4_same N h a1 a2 = some v ∧ fX5_same N h a1 a2 = some v := by
    unfold fX4_same fX5_same
    rcases cord_case hC hM hW a1 with ⟨h1, h2⟩ | ⟨h1, h2, A, hA, rfl⟩
    · exact ⟨-1, by rw [h1, if_pos rfl], by rw [h2, if_pos rfl]⟩
    rcases cord_case hC hM hW a2 with ⟨h3, h4⟩ | ⟨h3, h4, B, hB, rfl⟩
    · exact ⟨-1, by rw [h1, if_neg n10, h3, if_pos rfl], by rw [h2, if_neg n10, h4, if_pos rfl]⟩
    have sA := sz_int hW hA
    have sB := sz_int hW hB
    have l1 : hangS V A ≤ 16 := by have := List.length_filter_le (fun d => vPar V d == some A) (List.range (vN V)); rw [List.length_range] at this; unfold hangS; omega
    rw [h1, if_neg n10, h3, if_neg n10, h2, if_neg n10, h4, if_neg n10, if_nI (by omega) (by omega), if_nI (by omega) (by omega)]
    by_cases hAB : A = B
    · exact ⟨-1, by rw [if_pos hAB], by rw [if_pos hAB]⟩
    refine ⟨b2 (refB V A B), ?_, ?_⟩
    · rw [if_neg hAB, q_fromN hC hW (by omega) hA, q_fromN hC hW (by omega) hB, Option.bind_some, Option.bind_some, if_nI (by omega) (by omega), b2_if (b := szF V A == szF V B) (by rw [beq_iff_eq])]
      unfold fX4_same_J55
      rw [q_depth hC hW hA, q_depth hC hW hB, Option.bind_some]
      have := q_same_L (N := N) hC hW (by omega) hA hB (szF V A) 0 N (szF V A == szF V B) (by omega) (by omega) (fun q => by rw [beq_iff_eq] at q; exact q)
      rw [← List.range_eq_range'] at this
      rw [← same_eq hW hA hB]
      exact this
    · rw [if_neg hAB, m_alk hM hW (by omega) hA hB, Option.bind_some]
      have := m_same_L (N := N) hM hW (by omega) hA hB (hangS V A) 0 N (alkB V A B) (by omega) (by omega) (fun q => Or.inl (alk_len q)) (fun q => by omega)
      rw [← List.range_eq_range'] at this
      exact this
  obtain ⟨v, e4, e5⟩ := key
  exact ⟨v, h, h, by rw [e4]; rfl, by rw [e5]; rfl, RR_mono k h hR⟩
