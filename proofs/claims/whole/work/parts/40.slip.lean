/-! slip: one cluster that may count another number -/
def dlt (V : Vw) (c k u : Nat) : Int32 := if vTop V c = true then -((nI u - nI (vCod V c k % 10)) * nI (10 ^ k)) else (nI u - nI (vCod V c k % 10)) * nI (10 ^ k)
def hitB (V : Vw) (e : Int32) (c k u : Nat) : Bool := !(u == vCod V c k % 10) && decide (e + dlt V c k u = 0)
theorem dl_inj : ∀ k, k < 4 → ∀ d, d < 10 → ∀ u, u < 10 → ∀ v, v < 10 → (nI u - nI d) * nI (10 ^ k) = (nI v - nI d) * nI (10 ^ k) → u = v := by decide +kernel
theorem dl_zero : ∀ k, k < 4 → ∀ d, d < 10 → ∀ u, u < 10 → ((nI u - nI d) * nI (10 ^ k) = 0 ↔ u = d) := by decide +kernel
theorem dl_far : ∀ k, k < 4 → ∀ d, d < 10 → ∀ u, u < 10 → ¬ (-100004 : Int32) + (nI u - nI d) * nI (10 ^ k) = 0 ∧ ¬ (-100004 : Int32) + -((nI u - nI d) * nI (10 ^ k)) = 0 := by decide +kernel
theorem neg_inj' {a b : Int32} (h : -a = -b) : a = b := by
  have := congrArg (fun x : Int32 => -x) h
  simpa using this
theorem add_cancel {e a b : Int32} (h1 : e + a = 0) (h2 : e + b = 0) : a = b := by
  have : e + a = e + b := by rw [h1, h2]
  have h3 : -e + (e + a) = -e + (e + b) := by rw [this]
  rwa [← Int32.add_assoc, ← Int32.add_assoc, Int32.add_left_neg, Int32.zero_add, Int32.zero_add] at h3
theorem hit_uniq {V : Vw} {e : Int32} {c k u v : Nat} (hk : k < 4) (hu : u < 10) (hv : v < 10) (h1 : hitB V e c k u = true) (h2 : hitB V e c k v = true) : u = v := by
  unfold hitB at h1 h2
  rw [Bool.and_eq_true, decide_eq_true_eq] at h1 h2
  have := add_cancel h1.2 h2.2
  unfold dlt at this
  split at this
  · exact dl_inj k hk _ (by omega) u hu v hv (neg_inj' this)
  · exact dl_inj k hk _ (by omega) u hu v hv this
/-- the number that this cluster may count, among those below n -/
def hitN (V : Vw) (e : Int32) (c k : Nat) : Nat → Option Nat
  | 0 => none
  | n + 1 => if hitB V e c k n = true then some n else hitN V e c k n
theorem hitN_some {V : Vw} {e : Int32} {c k : Nat} : ∀ n v, hitN V e c k n = some v → v < n ∧ hitB V e c k v = true
  | 0, v, h => by cases h
  | n + 1, v, h => by
    rw [hitN] at h
    by_cases h1 : hitB V e c k n = true
    · rw [if_pos h1] at h
      injection h with h
      subst h
      exact ⟨by omega, h1⟩
    · rw [if_neg h1] at h
      have := hitN_some n v h
      exact ⟨by omega, this.2⟩
theorem hitN_none {V : Vw} {e : Int32} {c k : Nat} : ∀ n, hitN V e c k n = none → ∀ v, v < n → ¬ hitB V e c k v = true
  | 0, _, v, hv => by omega
  | n + 1, h, v, hv => by
    rw [hitN] at h
    by_cases h1 : hitB V e c k n = true
    · rw [if_pos h1] at h; cases h
    · rw [if_neg h1] at h
      by_cases h2 : v = n
      · subst h2; exact h1
      · exact hitN_none n h v (by omega)
def gD (V : Vw) (g c : Nat) : Bool := (vPar V c).isNone && vGrp V c == g
def hk1 (V : Vw) (e : Int32) (c k : Nat) : List Nat := match hitN V e c k 10 with
  | none => []
  | some u => [100 * c + 10 * k + u]
def hkL (V : Vw) (e : Int32) (g c : Nat) (ks : List Nat) : List Nat := if gD V g c = true then ks.flatMap (hk1 V e c) else []
def hdE (l : List Nat) (x : Int32) : Int32 := match l with
  | [] => x
  | a :: _ => nI a
theorem hk1_b {V : Vw} {e : Int32} {c k x : Nat} (hx : x ∈ hk1 V e c k) : x < 100 * c + 10 * k + 10 := by
  unfold hk1 at hx
  cases h : hitN V e c k 10 with
  | none => rw [h] at hx; cases hx
  | some u =>
    rw [h] at hx
    have := (hitN_some 10 u h).1
    have hx' : x = 100 * c + 10 * k + u := by simpa using hx
    omega
section SL
variable {h : Hp} {k0 N : Nat} {V : Vw}
theorem q_isIn (hV : RowV (h 7) V) (hW : Wf k0 V) {c g : Nat} (hc : c < vN V) (hg : g < 5) : fX0_isIn h 7 (nI c) (nI g) = b2 (gD V g c) := by
  have hgl := grp_lt hW hc
  have hd := (hW.c hc).2.2.2.1
  have d0 := dep0 hW hc
  unfold fX0_isIn gD
  rw [q_depth hV hW hc, q_group hV hW hc]
  cases hp : vPar V c with
  | none =>
    rw [if_pos (show nI (vDep V c) = (0 : Int32) from by rw [d0.mpr hp]; rfl), if_nI (by omega) (by omega), b2_if (b := vGrp V c == g) (by rw [beq_iff_eq])]
    simp
  | some p => rw [if_neg (show ¬ nI (vDep V c) = (0 : Int32) from ne_lit (b := 0) (by omega) (by omega) (fun q => by have := d0.mp q; rw [hp] at this; cases this))]; rfl
theorem q_slipAt_L (hV : RowV (h 7) V) (hW : Wf k0 V) {c k : Nat} (hc : c < vN V) (hk : k < vSiz V c) (e : Int32) (a2 : Int32) : ∀ (m u fuel : Nat), u + m = 10 → m < fuel → (∀ v, v < u → ¬ hitB V e c k v = true) → fX4_slipAt_L23 N h (nI c) a2 e fuel (nI (10 ^ k)) (nI (vCod V c k % 10)) (nI u) = some (encP (hitN V e c k 10)) := by
  intro m
  have hs := hW.siz hc
  have ht := q_top hV hW hc
  induction m with
  | zero =>
    intro u fuel hu hf hno
    obtain ⟨fuel, rfl⟩ : ∃ f, fuel = f + 1 := ⟨fuel - 1, by omega⟩
    have : u = 10 := by omega
    subst this
    rw [fX4_slipAt_L23, if_pos (by decide)]
    cases h1 : hitN V e c k 10 with
    | none => rfl
    | some v => exact absurd (hitN_some 10 v h1).2 (hno v (hitN_some 10 v h1).1)
  | succ m ih =>
    intro u fuel hu hf hno
    obtain ⟨fuel, rfl⟩ : ∃ f, fuel = f + 1 := ⟨fuel - 1, by omega⟩
    have nxt : ¬ hitB V e c k u = true → fX4_slipAt_L23 N h (nI c) a2 e fuel (nI (10 ^ k)) (nI (vCod V c k % 10)) (nI (u + 1)) = some (encP (hitN V e c k 10)) := fun hb => ih (u + 1) fuel (by omega) (by omega) (fun v hv => by
      by_cases h1 : v = u
      · subst h1; exact hb
      · exact hno v (by omega))
    rw [fX4_slipAt_L23, if_neg (show ¬ (9 : Int32) < nI u from nlt_lit (a := 9) (by omega) (by omega) (by omega)), if_nI (by omega) (by omega), nI_1]
    by_cases h1 : u = vCod V c k % 10
    · rw [if_pos h1]
      exact nxt (by simp [hitB, h1])
    · rw [if_neg h1]
      unfold fX4_slipAt_J67
      rw [ht, b2_01, nI_1]
      have ed : (if vTop V c = true then -((nI u - nI (vCod V c k % 10)) * nI (10 ^ k)) else (nI u - nI (vCod V c k % 10)) * nI (10 ^ k)) = dlt V c k u := rfl
      rw [ed]
      by_cases h2 : e + dlt V c k u = 0
      · have hb : hitB V e c k u = true := by simp [hitB, h1, h2]
        rw [if_pos h2]
        cases h3 : hitN V e c k 10 with
        | none => exact absurd hb (hitN_none 10 h3 u (by omega))
        | some v =>
          have h4 := hitN_some 10 v h3
          rw [hit_uniq (by omega) (by omega) h4.1 hb h4.2]; rfl
      · rw [if_neg h2]
        exact nxt (by simp [hitB, h2])
theorem q_slipAt (hV : RowV (h 7) V) (hW : Wf k0 V) (hN : 20 ≤ N) {c k : Nat} (hc : c < vN V) (hk : k < vSiz V c) (e : Int32) : fX4_slipAt N h (nI c) (nI k) e = some (encP (hitN V e c k 10)) := by
  have hs := hW.siz hc
  unfold fX4_slipAt
  rw [q_code hV hW hc hk, q_count h (codOK_lt (hW.cod hc hk)), Option.bind_some, tens_dec k (by omega)]
  exact q_slipAt_L hV hW hc hk e (nI k) 10 0 N (by omega) (by omega) (fun v hv => by omega)
theorem q_slip_K (hV : RowV (h 7) V) (hW : Wf k0 V) (hN : 20 ≤ N) {c g : Nat} (hc : c < vN V) (hg : g < 5) (a2 e : Int32) (k52 : Int32 → Int32 → Int32 → Int32 → Option Int32) : ∀ (m k fuel a : Nat) (u4 : Int32), k + m = vSiz V c → m < fuel → fX4_slip_L67 N h (nI g) a2 k52 fuel (nI a) u4 e (nI c) (nI k) = k52 (nI (a + (hkL V e g c (List.range' k m)).length)) (if u4 = -4 then hdE (hkL V e g c (List.range' k m)) (-4) else u4) e (nI (c + 1)) := by
  intro m
  have hs := hW.siz hc
  have hn := hW.n
  induction m with
  | zero =>
    intro k fuel a u4 hk hf
    obtain ⟨fuel, rfl⟩ : ∃ f, fuel = f + 1 := ⟨fuel - 1, by omega⟩
    have e0 : hkL V e g c (List.range' k 0) = [] := by unfold hkL; split <;> rfl
    rw [fX4_slip_L67, q_size hV hW hc, if_neg (nI_nlt (by omega) (by omega)), e0, nI_1]
    by_cases h1 : u4 = -4
    · rw [if_pos h1, h1]; rfl
    · rw [if_neg h1]; rfl
  | succ m ih =>
    intro k fuel a u4 hk hf
    obtain ⟨fuel, rfl⟩ : ∃ f, fuel = f + 1 := ⟨fuel - 1, by omega⟩
    have hkl : k < vSiz V c := by omega
    rw [fX4_slip_L67, q_size hV hW hc, if_pos (nI_lt hkl (by omega)), q_isIn hV hW hc hg, List.range'_succ]
    unfold fX4_slip_J109
    cases hgd : gD V g c with
    | false =>
      have e0 : ∀ l, hkL V e g c l = [] := fun l => by unfold hkL; rw [hgd]; rfl
      have := ih (k + 1) fuel a u4 (by omega) (by omega)
      rw [e0] at this
      rw [show b2 false = (0 : Int32) from rfl, if_pos rfl, if_pos rfl, nI_1, e0]
      exact this
    | true =>
      have e0 : ∀ l, hkL V e g c l = l.flatMap (hk1 V e c) := fun l => by unfold hkL; rw [hgd]; rfl
      have ih' := ih (k + 1) fuel
      simp only [e0] at ih'
      rw [show b2 true = (1 : Int32) from rfl, if_neg n10, q_slipAt hV hW hN hc hkl e, Option.bind_some, e0, List.flatMap_cons, nI_1, nI_1]
      unfold hk1
      cases h1 : hitN V e c k 10 with
      | none =>
        rw [show encP none = (-4 : Int32) from rfl, if_pos rfl, List.nil_append]
        exact ih' a u4 (by omega) (by omega)
      | some u =>
        have hu := (hitN_some 10 u h1).1
        have e1 : (100 * nI c + 10 * nI k + nI u : Int32) = nI (100 * c + 10 * k + u) := by rw [show (100 : Int32) = nI 100 from rfl, show (10 : Int32) = nI 10 from rfl, pk_mul, pk_mul, nI_add, nI_add]
        rw [show encP (some u) = nI u from rfl, if_neg (encP_ne (by omega)), e1, List.length_append, List.length_singleton]
        by_cases h2 : u4 = -4
        · rw [if_pos h2, if_pos h2, Option.bind_some, ih' (a + 1) _ (by omega) (by omega), if_neg (encP_ne (by omega))]
          show k52 _ _ _ _ = k52 _ (nI (100 * c + 10 * k + u)) _ _
          congr 2
          unfold hk1
          omega
        · rw [if_neg h2, if_neg h2, ih' (a + 1) _ (by omega) (by omega), if_neg h2]
          congr 2
          unfold hk1
          omega
def allH (V : Vw) (e : Int32) (g : Nat) (cs : List Nat) : List Nat := cs.flatMap (fun c => hkL V e g c (List.range (vSiz V c)))
theorem hd_app (l1 l2 : List Nat) (x : Int32) : hdE (l1 ++ l2) x = hdE l1 (hdE l2 x) := by cases l1 <;> rfl
theorem q_slip_C (hV : RowV (h 7) V) (hW : Wf k0 V) (hN : 20 ≤ N) {g : Nat} (hg : g < 5) (a2 e : Int32) : ∀ (m c fuel a : Nat) (l : List Nat), c + m = vN V → m < fuel → (∀ x, x ∈ l → x < 10000) → fX4_slip_L52 N h (nI g) a2 fuel (nI a) (hdE l (-4)) e (nI c) = some (if a2 = 0 then nI (a + (allH V e g (List.range' c m)).length) else hdE (l ++ allH V e g (List.range' c m)) (-4)) := by
  intro m
  have hn := hW.n
  induction m with
  | zero =>
    intro c fuel a l hc hf hl
    obtain ⟨fuel, rfl⟩ : ∃ f, fuel = f + 1 := ⟨fuel - 1, by omega⟩
    rw [fX4_slip_L52, q_cords hV, if_neg (nI_nlt (by omega) (by omega))]
    unfold fX4_slip_J161
    rw [show allH V e g (List.range' c 0) = [] from rfl, List.append_nil]
    by_cases h1 : a2 = 0
    · rw [if_pos h1, if_pos h1]; rfl
    · rw [if_neg h1, if_neg h1]
  | succ m ih =>
    intro c fuel a l hc hf hl
    obtain ⟨fuel, rfl⟩ : ∃ f, fuel = f + 1 := ⟨fuel - 1, by omega⟩
    have hlt : c < vN V := by omega
    have hs := hW.siz hlt
    have e1 := q_slip_K (N := N) hV hW hN hlt hg a2 e (fX4_slip_L52 N h (nI g) a2 fuel) (vSiz V c) 0 N a (hdE l (-4)) (by omega) (by omega)
    rw [← List.range_eq_range'] at e1
    rw [fX4_slip_L52, q_cords hV, if_pos (nI_lt hlt (by omega)), show fX4_slip_L67 N h (nI g) a2 (fX4_slip_L52 N h (nI g) a2 fuel) N (nI a) (hdE l (-4)) e (nI c) 0 = _ from e1]
    have e2 : (if hdE l (-4) = -4 then hdE (hkL V e g c (List.range (vSiz V c))) (-4) else hdE l (-4)) = hdE (l ++ hkL V e g c (List.range (vSiz V c))) (-4) := by
      cases l with
      | nil => rw [if_pos (show hdE [] (-4) = -4 from rfl)]; rfl
      | cons x l => rw [if_neg (show ¬ hdE (x :: l) (-4) = -4 from encP_ne (by have := hl x List.mem_cons_self; omega))]; rfl
    rw [e2, ih (c + 1) fuel _ _ (by omega) (by omega) (fun x hx => by
      rcases List.mem_append.mp hx with q | q
      · exact hl x q
      · unfold hkL at q
        split at q
        · obtain ⟨kk, q1, q2⟩ := List.mem_flatMap.mp q
          have := List.mem_range.mp q1
          have := hk1_b q2
          omega
        · cases q), List.range'_succ]
    rw [show allH V e g (c :: List.range' (c + 1) m) = hkL V e g c (List.range (vSiz V c)) ++ allH V e g (List.range' (c + 1) m) from List.flatMap_cons, List.length_append, List.append_assoc]
    congr 2
    congr 1
    omega
/-! the reference goes from the last to the first -/
theorem m_slip_U (hV : ModV (h 23) V) (hW : Wf k0 V) (hN : 20 ≤ N) {c k g : Nat} (hc : c < vN V) (hk : k < vSiz V c) (a2 e u7 : Int32) (hu7 : u7 = b2 (vTop V c)) (k40 : Int32 → Int32 → Int32 → Int32 → Option Int32) (k101 : Int32 → Int32 → Int32 → Int32 → Int32 → Int32 → Option Int32) : ∀ (n fuel a : Nat) (u5 : Int32), n ≤ 10 → n < fuel → fX5_slip_L125 N h (nI g) a2 k40 k101 fuel (e + 100000) (nI a) u5 (nI c) u7 (nI k) (nI n - 1) = (match hitN V e c k n with | none => k101 (e + 100000) (nI a) u5 (nI c) u7 (nI k - 1) | some u => k101 (e + 100000) (nI (a + 1)) (nI (100 * c + 10 * k + u)) (nI c) u7 (nI k - 1)) := by
  intro n
  have hs := hW.siz hc
  have hn := hW.n
  have m1 : ∀ x : Int32, x + (-1) = x - 1 := fun x => by rw [Int32.sub_eq_add_neg]
  induction n with
  | zero =>
    intro fuel a u5 hn10 hf
    obtain ⟨fuel, rfl⟩ : ∃ f, fuel = f + 1 := ⟨fuel - 1, by omega⟩
    rw [fX5_slip_L125, if_pos (by decide), m1]
    rfl
  | succ n ih =>
    intro fuel a u5 hn10 hf
    obtain ⟨fuel, rfl⟩ : ∃ f, fuel = f + 1 := ⟨fuel - 1, by omega⟩
    have e9 : (nI (n + 1) - 1 : Int32) = nI n := by rw [show (1 : Int32) = nI 1 from rfl, pk_sub (by omega)]; congr 1
    have hcl := codOK_lt (hW.cod hc hk)
    have hrem : (nI (vCod V c k) - nI (vCod V c k) / 10 * 10 : Int32) = nI (vCod V c k % 10) := pk_rem (d := 10) (by omega) (by omega) (by omega)
    rw [e9, fX5_slip_L125, if_neg (nI_pos (by omega)), m_knot0 hV hW hc hk, Option.bind_some, m_pow (by omega) (by omega), Option.bind_some, Option.bind_some, hrem, m1, hitN]
    have z := dl_zero k (by omega) (vCod V c k % 10) (by omega) n (by omega)
    by_cases h1 : (nI n - nI (vCod V c k % 10)) * nI (10 ^ k) = 0
    · have hb : ¬ hitB V e c k n = true := by simp [hitB, z.mp h1]
      rw [if_pos h1, if_neg hb]
      exact ih fuel a u5 (by omega) (by omega)
    · rw [if_neg h1]
      unfold fX5_slip_J171
      have ed : (if u7 = 0 then (nI n - nI (vCod V c k % 10)) * nI (10 ^ k) else -((nI n - nI (vCod V c k % 10)) * nI (10 ^ k))) = dlt V c k n := by
        rw [hu7, b2_01]; rfl
      rw [ed, m1]
      have eq0 : (e + 100000 + dlt V c k n = 100000) ↔ e + dlt V c k n = 0 := by
        rw [Int32.add_assoc, Int32.add_comm 100000, ← Int32.add_assoc]
        constructor
        · intro q
          have : e + dlt V c k n + 100000 - 100000 = 100000 - 100000 := by rw [q]
          simpa using this
        · intro q; rw [q]; rfl
      have e1 : (100 * nI c + 10 * nI k + nI n : Int32) = nI (100 * c + 10 * k + n) := by rw [show (100 : Int32) = nI 100 from rfl, show (10 : Int32) = nI 10 from rfl, pk_mul, pk_mul, nI_add, nI_add]
      by_cases h2 : e + dlt V c k n = 0
      · have hb : hitB V e c k n = true := by
          unfold hitB
          rw [Bool.and_eq_true, decide_eq_true_eq]
          exact ⟨by have : ¬ n = vCod V c k % 10 := fun q => h1 (z.mpr q); simp [this], h2⟩
        rw [if_pos (eq0.mpr h2), if_pos hb, Option.bind_some, nI_1, e1, ih fuel (a + 1) _ (by omega) (by omega)]
        cases h3 : hitN V e c k n with
        | none => rfl
        | some v =>
          have h4 := hitN_some n v h3
          have := hit_uniq (by omega) (by omega) (by omega) hb h4.2
          omega
      · have hb : ¬ hitB V e c k n = true := by
          unfold hitB
          rw [Bool.and_eq_true, decide_eq_true_eq]
          exact fun q => h2 q.2
        rw [if_neg (fun q => h2 (eq0.mp q)), if_neg hb]
        exact ih fuel a u5 (by omega) (by omega)
theorem m_slip_K (hV : ModV (h 23) V) (hW : Wf k0 V) (hN : 20 ≤ N) {c g : Nat} (hc : c < vN V) (hg : g < 5) (a2 e u7 : Int32) (hu7 : u7 = b2 (vTop V c && vGrp V c == g)) (k40 : Int32 → Int32 → Int32 → Int32 → Option Int32) : ∀ (n fuel a : Nat) (u5 : Int32), n ≤ vSiz V c → n < fuel → fX5_slip_L101 N h (nI g) a2 k40 fuel (e + 100000) (nI a) u5 (nI c) u7 (nI n - 1) = k40 (e + 100000) (nI (a + (hkL V e g c (List.range n)).length)) (hdE (hkL V e g c (List.range n)) u5) (nI c - 1) := by
  intro n
  have hs := hW.siz hc
  have hn := hW.n
  have m1 : ∀ x : Int32, x + (-1) = x - 1 := fun x => by rw [Int32.sub_eq_add_neg]
  have htp : vTop V c = true → vPar V c = none := fun ht => by
    cases hp : vPar V c with
    | none => rfl
    | some p => have := ((hW.c hc).2.2.2.2.2.1 p hp).2.2.2; rw [ht] at this; cases this
  induction n with
  | zero =>
    intro fuel a u5 hn10 hf
    obtain ⟨fuel, rfl⟩ : ∃ f, fuel = f + 1 := ⟨fuel - 1, by omega⟩
    have e0 : hkL V e g c (List.range 0) = [] := by unfold hkL; split <;> rfl
    rw [fX5_slip_L101, if_pos (by decide), m1, e0]
    rfl
  | succ n ih =>
    intro fuel a u5 hn10 hf
    obtain ⟨fuel, rfl⟩ : ∃ f, fuel = f + 1 := ⟨fuel - 1, by omega⟩
    have e9 : (nI (n + 1) - 1 : Int32) = nI n := by rw [show (1 : Int32) = nI 1 from rfl, pk_sub (by omega)]; congr 1
    rw [e9, fX5_slip_L101, if_neg (nI_pos (by omega)), m_isOf hV hW hc (by omega), Option.bind_some, m1, List.range_succ]
    have go : gD V g c = true → u7 = b2 (vTop V c) → fX5_slip_L125 N h (nI g) a2 k40 (fX5_slip_L101 N h (nI g) a2 k40 fuel) N (e + 100000) (nI a) u5 (nI c) u7 (nI n) 9 = k40 (e + 100000) (nI (a + (hkL V e g c (List.range n ++ [n])).length)) (hdE (hkL V e g c (List.range n ++ [n])) u5) (nI c - 1) := fun hgd h7 => by
      have e0 : ∀ l, hkL V e g c l = l.flatMap (hk1 V e c) := fun l => by unfold hkL; rw [hgd]; rfl
      have eU := m_slip_U (N := N) (k := n) (g := g) hV hW hN hc (by omega) a2 e u7 h7 k40 (fX5_slip_L101 N h (nI g) a2 k40 fuel) 10 N a u5 (by omega) (by omega)
      rw [show (nI 10 - 1 : Int32) = 9 from by decide] at eU
      rw [eU, e0, List.flatMap_append, show [n].flatMap (hk1 V e c) = hk1 V e c n from by simp, List.length_append, hd_app]
      have ih' := fun a u5 => ih fuel a u5 (by omega) (by omega)
      simp only [e0] at ih'
      unfold hk1
      cases h1 : hitN V e c n 10 with
      | none =>
        show fX5_slip_L101 N h (nI g) a2 k40 fuel (e + 100000) (nI a) u5 (nI c) u7 (nI n - 1) = _
        rw [ih']
        rfl
      | some u =>
        show fX5_slip_L101 N h (nI g) a2 k40 fuel (e + 100000) (nI (a + 1)) (nI (100 * c + 10 * n + u)) (nI c) u7 (nI n - 1) = _
        rw [ih', List.length_singleton]
        show k40 _ (nI (a + 1 + _)) (hdE _ (nI (100 * c + 10 * n + u))) _ = k40 _ _ (hdE _ (nI (100 * c + 10 * n + u))) _
        rw [show a + 1 + (List.flatMap (hk1 V e c) (List.range n)).length = a + ((List.flatMap (hk1 V e c) (List.range n)).length + 1) by omega]
        rfl
    by_cases h7 : vTop V c = true ∧ vGrp V c = g
    · have hgd : gD V g c = true := by unfold gD; rw [htp h7.1]; simp [h7.2]
      have e7 : u7 = 1 := by rw [hu7]; simp [h7.1, h7.2, b2]
      rw [if_neg (show ¬ u7 = 0 by rw [e7]; exact n10)]
      exact go hgd (by rw [e7, h7.1]; rfl)
    · have e7 : u7 = 0 := by
        rw [hu7, b2_eq0]
        cases ht : vTop V c with
        | false => rfl
        | true => have : ¬ vGrp V c = g := fun q => h7 ⟨ht, q⟩; simp [this]
      rw [if_pos e7]
      by_cases h8 : inG V g c = true
      · have h9 : isPl V c = true := by unfold inG at h8; rw [Bool.and_eq_true] at h8; exact h8.1
        have h10 := (inG_pl hg h9).mp h8
        have hgd : gD V g c = true := by unfold gD; unfold isPl at h9; rw [Bool.and_eq_true] at h9; rw [h9.1]; simp [h10]
        have htf : vTop V c = false := by unfold isPl at h9; rw [Bool.and_eq_true] at h9; simpa using h9.2
        rw [h8, show b2 true = (1 : Int32) from rfl, if_neg n10]
        exact go hgd (by rw [e7, htf]; rfl)
      · have h8' : inG V g c = false := by simpa using h8
        have hgd : ∀ l, hkL V e g c l = [] := fun l => by
          unfold hkL
          rw [if_neg]
          intro q
          unfold gD at q
          rw [Bool.and_eq_true, beq_iff_eq] at q
          cases ht : vTop V c with
          | true => exact h7 ⟨ht, q.2⟩
          | false =>
            refine h8 ?_
            unfold inG isPl
            rw [q.1, ht]
            simp [q.2]
        rw [h8', show b2 false = (0 : Int32) from rfl, if_pos rfl, hgd]
        rfl
theorem m_slip_C (hV : ModV (h 23) V) (hW : Wf k0 V) (hN : 20 ≤ N) {g : Nat} (hg : g < 5) (a2 e : Int32) (hne : ¬ e + 100000 = -4) : ∀ (n fuel a : Nat) (u5 : Int32), n ≤ vN V → n < fuel → fX5_slip_L40 N h (nI g) a2 fuel (e + 100000) (nI a) u5 (nI n - 1) = some (if a2 = 0 then nI (a + (allH V e g (List.range n)).length) else hdE (allH V e g (List.range n)) u5) := by
  intro n
  have hn := hW.n
  induction n with
  | zero =>
    intro fuel a u5 hn10 hf
    obtain ⟨fuel, rfl⟩ : ∃ f, fuel = f + 1 := ⟨fuel - 1, by omega⟩
    rw [fX5_slip_L40, if_pos (by decide)]
    unfold fX5_slip_J214
    by_cases h1 : a2 = 0
    · rw [if_pos h1, if_pos h1]; rfl
    · rw [if_neg h1, if_neg h1]; rfl
  | succ n ih =>
    intro fuel a u5 hn10 hf
    obtain ⟨fuel, rfl⟩ : ∃ f, fuel = f + 1 := ⟨fuel - 1, by omega⟩
    have e9 : (nI (n + 1) - 1 : Int32) = nI n := by rw [show (1 : Int32) = nI 1 from rfl, pk_sub (by omega)]; congr 1
    have hc : n < vN V := by omega
    have hs := hW.siz hc
    have hgl := grp_lt hW hc
    have go : ∀ u7, u7 = b2 (vTop V n && vGrp V n == g) → fX5_slip_J85 N h (nI g) a2 (fX5_slip_L40 N h (nI g) a2 fuel) (e + 100000) (nI a) u5 (nI n) u7 = some (if a2 = 0 then nI (a + (allH V e g (List.range (n + 1))).length) else hdE (allH V e g (List.range (n + 1))) u5) := fun u7 h7 => by
      unfold fX5_slip_J85
      rw [r_siz hV hW hc, Option.bind_some, m_slip_K hV hW hN hc hg a2 e u7 h7 (fX5_slip_L40 N h (nI g) a2 fuel) (vSiz V n) N a u5 (by omega) (by omega), ih fuel _ _ (by omega) (by omega), List.range_succ]
      rw [show allH V e g (List.range n ++ [n]) = allH V e g (List.range n) ++ hkL V e g n (List.range (vSiz V n)) from by unfold allH; rw [List.flatMap_append]; simp, List.length_append, hd_app]
      congr 3
      omega
    rw [e9, fX5_slip_L40, if_neg (nI_pos (by omega)), if_neg hne, r_top hV hW hc, Option.bind_some]
    cases ht : vTop V n with
    | false =>
      rw [show b2 false = (0 : Int32) from rfl, if_neg (by decide)]
      exact go 0 (by rw [ht]; rfl)
    | true =>
      rw [show b2 true = (1 : Int32) from rfl, if_pos rfl, r_grp hV hW hc, Option.bind_some, if_nI (by omega) (by omega)]
      exact go _ (by rw [ht, Bool.true_and, b2_if (b := vGrp V n == g) (by rw [beq_iff_eq])])
theorem allH_far (hW : Wf k0 V) {g : Nat} {e : Int32} (he : e = -100004) : ∀ cs : List Nat, (∀ c, c ∈ cs → c < vN V) → allH V e g cs = [] := fun cs hcs => by
  unfold allH
  rw [List.flatMap_eq_nil_iff]
  intro c hc
  unfold hkL
  split
  · rw [List.flatMap_eq_nil_iff]
    intro k hk
    have hs := hW.siz (hcs c hc)
    have hk' := List.mem_range.mp hk
    unfold hk1
    cases h1 : hitN V e c k 10 with
    | none => rfl
    | some u =>
      exfalso
      have h2 := hitN_some 10 u h1
      have h3 := h2.2
      unfold hitB at h3
      rw [Bool.and_eq_true, decide_eq_true_eq, he] at h3
      have h4 := dl_far k (by omega) (vCod V c k % 10) (by omega) u h2.1
      have h5 := h3.2
      unfold dlt at h5
      split at h5
      · exact h4.2 h5
      · exact h4.1 h5
  · rfl
end SL
theorem st_slip (N : Nat) (hN : 70000 ≤ N) : SF_slip N RR := by
  intro k h hk hR a1 a2
  obtain ⟨V, hW, hC, hM⟩ := hR.2.2.1
  have hn := hW.n
  have key : ∃ v, fX4_slip N h a1 a2 = some v ∧ fX5_slip N h a1 a2 = some v := by
    unfold fX4_slip fX5_slip
    rcases grp_case hC hM hW a1 with ⟨h1, h2⟩ | ⟨h1, h2, g, hg, rfl⟩
    · exact ⟨-1, by rw [h1, if_pos rfl], by rw [h2, if_pos rfl]⟩
    have hg5 : g < 5 := by have := hW.1.2; omega
    rw [h1, if_neg n10, h2, if_neg n10]
    rcases two_case2 h a2 with ⟨t1, t2 | ⟨t2, t3⟩⟩ | ⟨t1, t2, t3⟩
    · exact ⟨-1, by rw [if_pos t2], by rw [t1, if_pos rfl]⟩
    · exact ⟨-1, by rw [if_neg t2, if_pos t3], by rw [t1, if_pos rfl]⟩
    rw [if_neg t2, if_neg t3, t1, if_neg n10, q_can hC hW (by omega) hg5, m_wrongBy hM hW (by omega) (by omega), Option.bind_some, Option.bind_some]
    have stop : ∀ u3 : Int32, u3 = -4 → fX5_slip_L40 N h (nI g) a2 N u3 0 (-4) (h 23 0 - 1) = some (if a2 = 0 then 0 else -4) := fun u3 h3 => by
      obtain ⟨f, rfl⟩ : ∃ f, N = f + 1 := ⟨N - 1, by omega⟩
      rw [fX5_slip_L40]
      unfold fX5_slip_J214
      by_cases h4 : h 23 0 - 1 < 0
      · rw [if_pos h4]; split <;> rfl
      · rw [if_neg h4, if_pos h3]; split <;> rfl
    cases hc : cmpS V g with
    | none =>
      refine ⟨if a2 = 0 then 0 else -4, ?_, stop _ rfl⟩
      rw [show (if (none : Option (Nat × Nat)).isSome = true then (1 : Int32) else 0) = 0 from rfl, if_pos rfl]
      unfold fX4_slip_J161
      split <;> rfl
    | some q =>
      obtain ⟨y, w⟩ := q
      rw [show (if (some (y, w)).isSome = true then (1 : Int32) else 0) = 1 from rfl, if_neg n10, q_excess hC hW (by omega) hg5 hc, Option.bind_some]
      have eC := q_slip_C (N := N) hC hW (by omega) hg5 a2 (nI y - nI w) (vN V) 0 N 0 [] (by omega) (by omega) (fun x hx => by cases hx)
      rw [← List.range_eq_range', Nat.zero_add, List.nil_append] at eC
      refine ⟨_, eC, ?_⟩
      show fX5_slip_L40 N h (nI g) a2 N (nI y - nI w + 100000) 0 (-4) (h 23 0 - 1) = _
      by_cases h4 : (nI y - nI w + 100000 : Int32) = -4
      · have he : (nI y - nI w : Int32) = -100004 := by
          have e1 : (nI y - nI w : Int32) = (nI y - nI w + 100000) - 100000 := by simp
          rw [e1, h4]; rfl
        rw [stop _ h4, allH_far hW he _ (fun c hc => List.mem_range.mp hc)]
        rfl
      · rw [hM.1]
        have eM := m_slip_C (N := N) hM hW (by omega) hg5 a2 (nI y - nI w) h4 (vN V) N 0 (-4) (by omega) (by omega)
        rw [Nat.zero_add] at eM
        exact eM
  obtain ⟨v, e4, e5⟩ := key
  exact ⟨v, h, h, by rw [e4]; rfl, by rw [e5]; rfl, RR_mono k h hR⟩
