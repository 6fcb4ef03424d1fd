/-! year and lost -/
theorem l_ran {x : Int64} {a : Nat} (h : x.toInt = a) : (a : Int) < 2 ^ 63 := by
  have := Int64.toInt_lt x
  omega
theorem l_mul {x y : Int64} {a b : Nat} (hx : x.toInt = a) (hy : y.toInt = b) (h : a * b < 2 ^ 63) : (x * y).toInt = (a * b : Nat) := by
  rw [Int64.toInt_mul, hx, hy, ← Int.natCast_mul]
  exact Int.bmod_eq_of_le (by omega) (by omega)
theorem l_add {x y : Int64} {a b : Nat} (hx : x.toInt = a) (hy : y.toInt = b) (h : a + b < 2 ^ 63) : (x + y).toInt = (a + b : Nat) := by
  rw [Int64.toInt_add, hx, hy, ← Int.natCast_add]
  exact Int.bmod_eq_of_le (by omega) (by omega)
theorem l_sub {x y : Int64} {a b : Nat} (hx : x.toInt = a) (hy : y.toInt = b) (h : b ≤ a) : (x - y).toInt = (a - b : Nat) := by
  have := l_ran hx
  rw [Int64.toInt_sub, hx, hy, Int.ofNat_sub h]
  exact Int.bmod_eq_of_le (by omega) (by omega)
theorem l_div {x y : Int64} {a b : Nat} (hx : x.toInt = a) (hy : y.toInt = b) : (x / y).toInt = (a / b : Nat) := by
  have := l_ran hx
  have h2 : a / b ≤ a := Nat.div_le_self _ _
  rw [Int64.toInt_div, hx, hy, Int.tdiv_eq_ediv_of_nonneg (by omega), ← Int.natCast_ediv]
  obtain ⟨q, hq⟩ : ∃ q, q = a / b := ⟨_, rfl⟩
  rw [← hq] at h2 ⊢
  exact Int.bmod_eq_of_le (by omega) (by omega)
theorem l_mod {x y : Int64} {a b : Nat} (hx : x.toInt = a) (hy : y.toInt = b) : (x - x / y * y).toInt = (a % b : Nat) := by
  have := l_ran hx
  have h2 : a / b * b ≤ a := Nat.div_mul_le_self _ _
  rw [l_sub hx (l_mul (l_div hx hy) hy (by omega)) h2]
  congr 1
  have := Nat.div_add_mod a b
  rw [Nat.mul_comm] at this
  omega
theorem l_32 {x : Int64} {a : Nat} (hx : x.toInt = a) (h : a < 2 ^ 31) : x.toInt32 = nI a := by
  apply Int32.toInt_inj.mp
  rw [Int64.toInt_toInt32, hx, nI_toInt h]
  exact Int.bmod_eq_of_le (by omega) (by omega)
theorem l_of {a : Nat} (h : a < 2 ^ 31) : (nI a).toInt64.toInt = a := by rw [Int32.toInt_toInt64, nI_toInt h]
def drz (x u : Nat) : Nat := (7919 * x + 6151 * u + 1) * (7919 * x + 6151 * u + 1) % 65521
theorem dr_w {x u : Nat} (hx : x < 10000) (hu : u < 16) : ((7919 : Int64) * (nI x).toInt64 + 6151 * (nI u).toInt64 + 1).toInt = (7919 * x + 6151 * u + 1 : Nat) := by
  have e1 : (7919 : Int64).toInt = (7919 : Nat) := rfl
  have e2 : (6151 : Int64).toInt = (6151 : Nat) := rfl
  have e3 : (1 : Int64).toInt = (1 : Nat) := rfl
  exact l_add (l_add (l_mul e1 (l_of (by omega)) (by omega)) (l_mul e2 (l_of (by omega)) (by omega)) (by omega)) e3 (by omega)
theorem dr_z {W : Int64} {x u : Nat} (hx : x < 10000) (hu : u < 16) (hw : W.toInt = (7919 * x + 6151 * u + 1 : Nat)) : (W * W - W * W / 65521 * 65521).toInt = (drz x u : Nat) := by
  have e4 : (65521 : Int64).toInt = (65521 : Nat) := rfl
  have hb : 7919 * x + 6151 * u + 1 < 100000000 := by omega
  have hm : (7919 * x + 6151 * u + 1) * (7919 * x + 6151 * u + 1) < 2 ^ 63 := Nat.lt_of_le_of_lt (Nat.mul_le_mul (Nat.le_of_lt hb) (Nat.le_of_lt hb)) (by decide)
  exact l_mod (l_mul hw hw hm) e4
theorem drz_lt (x u : Nat) : drz x u < 65521 := Nat.mod_lt _ (by decide)
theorem q_drawn (h : Hp) {x u : Nat} (hx : x < 10000) (hu : u < 16) : fX4_drawn h (nI x) (nI u) = nI (drz x u / 8 % 21) - 10 := by
  unfold fX4_drawn
  obtain ⟨W, hW⟩ : ∃ W : Int64, W = (7919 : Int64) * (nI x).toInt64 + 6151 * (nI u).toInt64 + 1 := ⟨_, rfl⟩
  rw [← hW]
  have hw : W.toInt = (7919 * x + 6151 * u + 1 : Nat) := by rw [hW]; exact dr_w hx hu
  obtain ⟨Z, hZ⟩ : ∃ Z : Int64, Z = W * W - W * W / 65521 * 65521 := ⟨_, rfl⟩
  rw [← hZ]
  have hz : Z.toInt = (drz x u : Nat) := by rw [hZ]; exact dr_z hx hu hw
  have hlt := drz_lt x u
  have e8 : (8 : Int64).toInt = (8 : Nat) := rfl
  have e21 : (21 : Int64).toInt = (21 : Nat) := rfl
  rw [l_32 (l_mod (l_div hz e8) e21) (by omega)]
theorem m_drawn {x u : Nat} (hx : x < 10000) (hu : u < 16) : ((((((7919 * (nI x).toInt64) + (6151 * (nI u).toInt64)) + 1) * (((7919 * (nI x).toInt64) + (6151 * (nI u).toInt64)) + 1)) - ((((7919 * (nI x).toInt64) + (6151 * (nI u).toInt64)) + 1) * (((7919 * (nI x).toInt64) + (6151 * (nI u).toInt64)) + 1)) / 65521 * 65521)).toInt32 / 8 = nI (drz x u / 8) := by
  obtain ⟨W, hW⟩ : ∃ W : Int64, W = (7919 : Int64) * (nI x).toInt64 + 6151 * (nI u).toInt64 + 1 := ⟨_, rfl⟩
  rw [← hW]
  have hw : W.toInt = (7919 * x + 6151 * u + 1 : Nat) := by rw [hW]; exact dr_w hx hu
  have hlt := drz_lt x u
  rw [l_32 (dr_z hx hu hw) (by omega), show (8 : Int32) = nI 8 from rfl, pk_div (by omega) (by omega) (by omega)]
theorem q_workT {N k n : Nat} {h : Hp} {V : Vw} (hN : 10 ≤ N) (hC : RowV (h 7) V) (hW : Wf k V) (hn : n < 2 ^ 31) {c : Nat} (hc : c < vN V) : fX0_workToTell N h 7 (nI c) (nI n) = some (nI (wk (vCod V c) (digs n) (vSiz V c))) := by
  have hs := hW.siz hc
  have := q_work (N := N) (h := h) (n := n) hC hW hn hc (a2 := nI n) (vSiz V c) 0 N (by omega) (by omega)
  rw [Nat.pow_zero, Nat.div_one] at this
  exact this
theorem m_workT {N k n : Nat} {h : Hp} {V : Vw} (hN : 10 ≤ N) (hM : ModV (h 23) V) (hW : Wf k V) (hn : n < 2 ^ 31) {c : Nat} (hc : c < vN V) : fX5_workFor N h (nI c) (nI n) = some (nI (wk (vCod V c) (digs n) (vSiz V c))) := by
  have hs := hW.siz hc
  have := m_work (N := N) (h := h) (n := n) hM hW hn hc (a2 := nI n) (vSiz V c) 0 N (by omega) (by omega)
  rw [Nat.pow_zero, Nat.div_one] at this
  exact this
theorem year_L {N k x : Nat} {h : Hp} {V : Vw} (hN : 70000 ≤ N) (hC : RowV (h 7) V) (hM : ModV (h 23) V) (hW : Wf k V) (hx : x < 10000) (a2 : Int32) : ∀ (m j fuel : Nat) (u3 u4 : Int32), j + m = vN V → m < fuel → ∃ v, fX4_year_L30 N h (nI x) a2 fuel u3 u4 (nI j) = some v ∧ fX5_year_L29 N h (nI x) a2 fuel u3 u4 (nI j) = some v := by
  intro m
  have hn := hW.n
  induction m with
  | zero =>
    intro j fuel u3 u4 hj hf
    obtain ⟨fuel, rfl⟩ : ∃ f, fuel = f + 1 := ⟨fuel - 1, by omega⟩
    rw [fX4_year_L30, q_cords hC, if_neg (nI_nlt (by omega) (by omega)), fX5_year_L29, hM.1, if_neg (nI_nlt (by omega) (by omega))]
    by_cases h2 : a2 = 0
    · exact ⟨_, by rw [if_pos h2], by rw [if_pos h2]⟩
    · exact ⟨_, by rw [if_neg h2], by rw [if_neg h2]⟩
  | succ m ih =>
    intro j fuel u3 u4 hj hf
    obtain ⟨fuel, rfl⟩ : ∃ f, fuel = f + 1 := ⟨fuel - 1, by omega⟩
    have hlt : j < vN V := by omega
    have hs := hW.siz hlt
    rw [fX4_year_L30, q_cords hC, if_pos (nI_lt hlt (by omega)), fX5_year_L29, hM.1, if_pos (nI_lt hlt (by omega)), q_plain hC hW hlt, m_isPlain hM hW hlt, Option.bind_some, nI_1 j]
    cases hp : isPl V j with
    | false =>
      rw [show b2 false = (0 : Int32) from rfl, if_pos rfl, if_pos rfl]
      unfold fX4_year_J68
      rw [if_pos rfl, nI_1 j]
      exact ih (j + 1) fuel u3 u4 (by omega) (by omega)
    | true =>
      rw [show b2 true = (1 : Int32) from rfl, if_neg n10, if_neg n10, q_value hC hW (by omega) hlt, m_value hM hW (by omega) hlt, Option.bind_some, Option.bind_some]
      unfold fX4_year_J68
      cases hv : vVal V j with
      | none =>
        rw [show encP none = (-4 : Int32) from rfl, if_pos rfl, if_pos rfl, nI_1 j]
        exact ih (j + 1) fuel u3 u4 (by omega) (by omega)
      | some y =>
        have hy := vVal_lt hW hlt hv
        have ht := ten_lt hW hlt
        have hz := drz_lt x j
        rw [show encP (some y) = nI y from rfl, if_neg (encP_ne (by omega)), if_neg (encP_ne (by omega)), q_drawn h hx (by omega), q_most hC hW hlt, r_siz hM hW hlt, m_drawn hx (by omega)]
        simp only [Option.bind_some]
        rw [m_pow (by omega) (by omega), show (nI (drz x j / 8) - nI (drz x j / 8) / 21 * 21 : Int32) = nI (drz x j / 8 % 21) from pk_rem (d := 21) (by omega) (by omega) (by omega), nI_1 j]
        simp only [Option.bind_some]
        have ea : (nI y + (nI (drz x j / 8 % 21) - 10) : Int32) = nI y + nI (drz x j / 8 % 21) - 10 := by
          rw [Int32.sub_eq_add_neg, Int32.sub_eq_add_neg, Int32.add_assoc]
        rw [ea]
        obtain ⟨T, hT⟩ : ∃ T : Int32, T = nI y + nI (drz x j / 8 % 21) - 10 := ⟨_, rfl⟩
        rw [← hT]
        have fin : ∀ n, n < 2 ^ 31 → ∃ v, ((fX0_workToTell N h 7 (nI j) (nI n)).bind fun v3 => (fX4_year_L30 N h (nI x) a2 fuel (u3 + v3) (u4 + nI n) (nI (j + 1)))) = some v ∧ fX5_year_J150 N h (nI x) a2 (fX5_year_L29 N h (nI x) a2 fuel) u3 u4 (nI j) (nI n) = some v := fun n hn2 => by
          unfold fX5_year_J150
          rw [q_workT (by omega) hC hW hn2 hlt, m_workT (by omega) hM hW hn2 hlt, Option.bind_some, Option.bind_some, nI_1 j]
          exact ih (j + 1) fuel _ _ (by omega) (by omega)
        have m1 : (nI (10 ^ vSiz V j) - 1 : Int32) = nI (10 ^ vSiz V j - 1) := by rw [show (1 : Int32) = nI 1 from rfl, pk_sub (by omega)]
        rcases bd_case ht.1 (by omega) T with ⟨n, hlt2, e, b1, b2, b3⟩ | b1 | ⟨b1, b2, b3⟩
        · rw [if_neg b1, if_neg b2, if_neg b1, e]
          exact fin n (by omega)
        · rw [if_pos b1, if_neg (by rw [m1]; exact nlt_lit (b := 0) (by omega) (by omega) (by omega)), if_pos b1]
          exact fin 0 (by omega)
        · rw [if_neg b1, if_pos b2, if_neg b1, m1]
          exact fin _ (by omega)
theorem two_case2 (h : Hp) (x : Int32) : (fX5_isTwo h x = 0 ∧ (x < 0 ∨ (¬ x < 0 ∧ 1 < x))) ∨ (fX5_isTwo h x = 1 ∧ ¬ x < 0 ∧ ¬ 1 < x) := by
  unfold fX5_isTwo
  have e : (1 : Int64) = (nI 2 - 1 : Int32).toInt64 := by decide
  rw [e]
  rcases bd_case (n := 2) (by omega) (by omega) x with ⟨n, hlt, rfl, b1, b2, b3⟩ | b1 | ⟨b1, b2, b3⟩
  · exact Or.inr ⟨in_bd1 (by omega) hlt, b1, b2⟩
  · exact Or.inl ⟨in_bd (by omega) (Or.inl b1), Or.inl b1⟩
  · exact Or.inl ⟨in_bd (by omega) (Or.inr ⟨b1, b2, b3⟩), Or.inr ⟨b1, b2⟩⟩
theorem st_year (N : Nat) (hN : 70000 ≤ N) : SF_year N RR := by
  intro k h hk hR a1 a2
  obtain ⟨V, hW, hC, hM⟩ := hR.2.2.1
  have hn := hW.n
  have e9 : (9999 : Int64) = (nI 10000 - 1 : Int32).toInt64 := by decide
  have key : ∃ v, fX4_year N h a1 a2 = some v ∧ fX5_year N h a1 a2 = some v := by
    unfold fX4_year fX5_year
    rw [e9]
    rcases bd_case (n := 10000) (by omega) (by omega) a1 with ⟨x, hlt, rfl, b1, b2, b3⟩ | b1 | ⟨b1, b2, b3⟩
    · rw [if_neg b1, if_neg (show ¬ (9999 : Int32) < nI x from b2), in_bd1 (by omega) hlt, if_neg n10]
      rcases two_case2 h a2 with ⟨t1, t2 | ⟨t2, t3⟩⟩ | ⟨t1, t2, t3⟩
      · exact ⟨-1, by rw [if_pos t2], by rw [t1, if_pos rfl]⟩
      · exact ⟨-1, by rw [if_neg t2, if_pos t3], by rw [t1, if_pos rfl]⟩
      · obtain ⟨v, v1, v2⟩ := year_L hN hC hM hW hlt a2 (vN V) 0 N 0 0 (by omega) (by omega)
        exact ⟨v, by rw [if_neg t2, if_neg t3]; exact v1, by rw [t1, if_neg n10]; exact v2⟩
    · exact ⟨-1, by rw [if_pos b1], by rw [in_bd (by omega) (Or.inl b1), if_pos rfl]⟩
    · exact ⟨-1, by rw [if_neg b1, if_pos (show (9999 : Int32) < a1 from b2)], by rw [in_bd (by omega) (Or.inr ⟨b1, b2, b3⟩), if_pos rfl]⟩
  obtain ⟨v, e4, e5⟩ := key
  exact ⟨v, h, h, by rw [e4]; rfl, by rw [e5]; rfl, RR_mono k h hR⟩
/-- the pendant that a cord hangs from in the end -/
def rt (V : Vw) (d : Nat) : Nat := match vPar V d with
  | none => d
  | some p => match vPar V p with
    | none => p
    | some q => q
theorem rt_lt {k : Nat} {V : Vw} (hW : Wf k V) {d : Nat} (hd : d < vN V) : rt V d < vN V := by
  unfold rt
  cases hp : vPar V d with
  | none => exact hd
  | some p =>
    have h1 := hW.par hd hp
    have h2 : p < vN V := by omega
    show (match vPar V p with | none => p | some q => q) < vN V
    cases hq : vPar V p with
    | none => exact h2
    | some q =>
      have := hW.par h2 hq
      show q < vN V
      omega
theorem rt_none {k : Nat} {V : Vw} (hW : Wf k V) {d : Nat} (hd : d < vN V) : vPar V (rt V d) = none := by
  unfold rt
  cases hp : vPar V d with
  | none => exact hp
  | some p =>
    have h1 := (hW.c hd).2.2.2.2.2.1 p hp
    have h2 : p < vN V := by omega
    show vPar V (match vPar V p with | none => p | some q => q) = none
    cases hq : vPar V p with
    | none => exact hq
    | some q =>
      have h3 := (hW.c h2).2.2.2.2.2.1 q hq
      have h4 : q < vN V := by omega
      have h5 := (hW.c hd).2.2.2.1
      exact (dep0 hW h4).mp (by omega)
theorem rt_grp {k : Nat} {V : Vw} (hW : Wf k V) {d : Nat} (hd : d < vN V) : vGrp V (rt V d) = vGrp V d := by
  unfold rt
  cases hp : vPar V d with
  | none => rfl
  | some p =>
    have h1 := (hW.c hd).2.2.2.2.2.1 p hp
    have h2 : p < vN V := by omega
    show vGrp V (match vPar V p with | none => p | some q => q) = vGrp V d
    cases hq : vPar V p with
    | none => exact h1.2.2.1.symm
    | some q =>
      have h3 := (hW.c h2).2.2.2.2.2.1 q hq
      show vGrp V q = _
      rw [h1.2.2.1, h3.2.2.1]
theorem rt_from {k : Nat} {V : Vw} (hW : Wf k V) {d p : Nat} (hd : d < vN V) (hp : vPar V p = none) : fromB V d p = true ↔ rt V d = p := by
  unfold fromB under rt
  cases h1 : vPar V d with
  | none => simp
  | some q =>
    have hdq : ¬ d = p := fun e => by rw [e, hp] at h1; cases h1
    have hq := hW.par hd h1
    show (d == p || (q == p || vPar V q == some p)) = true ↔ (match vPar V q with | none => q | some z => z) = p
    cases h2 : vPar V q with
    | none => simp [hdq]
    | some z =>
      have hqp : ¬ q = p := fun e => by rw [e, hp] at h2; cases h2
      simp [hdq, hqp]
theorem q_above {h : Hp} {r k N : Nat} {V : Vw} (hV : RowV (h r) V) (hW : Wf k V) (hN : 5 ≤ N) {d : Nat} (hd : d < vN V) : fX0_pendantAbove N h r (nI d) = some (nI (rt V d)) := by
  obtain ⟨N, rfl⟩ : ∃ f, N = f + 3 := ⟨N - 3, by omega⟩
  have hn := hW.n
  unfold fX0_pendantAbove rt
  rw [fX0_pendantAbove_L4, if_pos (by decide), q_holder hV hW hd]
  cases h1 : vPar V d with
  | none => rw [show encP none = (-4 : Int32) from rfl, if_pos rfl]
  | some p =>
    have h2 := hW.par hd h1
    have h3 : p < vN V := by omega
    rw [show encP (some p) = nI p from rfl, if_neg (encP_ne (by omega)), fX0_pendantAbove_L4, if_pos (by decide), q_holder hV hW h3]
    show _ = some (nI (match vPar V p with | none => p | some z => z))
    cases h4 : vPar V p with
    | none => rw [show encP none = (-4 : Int32) from rfl, if_pos rfl]
    | some q =>
      have h5 := hW.par h3 h4
      rw [show encP (some q) = nI q from rfl, if_neg (encP_ne (by omega)), fX0_pendantAbove_L4, if_neg (by decide)]
theorem filter_or {p q : Nat → Bool} : ∀ (l : List Nat), (∀ x, x ∈ l → p x = true → q x = true → False) → (l.filter (fun x => p x || q x)).Perm (l.filter p ++ l.filter q)
  | [], _ => List.Perm.refl _
  | a :: l, h => by
    have ih := filter_or (p := p) (q := q) l (fun x hx => h x (List.mem_cons_of_mem _ hx))
    cases hp : p a with
    | true =>
      have hq : q a = false := by
        cases hq : q a with
        | false => rfl
        | true => exact (h a List.mem_cons_self hp hq).elim
      rw [List.filter_cons_of_pos (p := fun x => p x || q x) (a := a) (by simp [hp]), List.filter_cons_of_pos (p := p) (a := a) hp, List.filter_cons_of_neg (p := q) (a := a) (by simp [hq]), List.cons_append]
      exact ih.cons a
    | false =>
      cases hq : q a with
      | false =>
        rw [List.filter_cons_of_neg (p := fun x => p x || q x) (a := a) (by simp [hp, hq]), List.filter_cons_of_neg (p := p) (a := a) (by simp [hp]), List.filter_cons_of_neg (p := q) (a := a) (by simp [hq])]
        exact ih
      | true =>
        rw [List.filter_cons_of_pos (p := fun x => p x || q x) (a := a) (by simp [hq]), List.filter_cons_of_neg (p := p) (a := a) (by simp [hp]), List.filter_cons_of_pos (p := q) (a := a) hq]
        exact (ih.cons a).trans List.perm_middle.symm
theorem osum_app (l1 l2 : List (Option Nat)) : osum (l1 ++ l2) = (osum l1).bind fun x => (osum l2).map (fun y => x + y) := by
  induction l1 with
  | nil =>
    show osum l2 = (osum l2).map _
    cases osum l2 with
    | none => rfl
    | some y => simp
  | cons o l ih =>
    show (o.bind fun x => (osum (l ++ l2)).map (fun y => x + y)) = _
    rw [ih]
    cases o with
    | none => rfl
    | some a =>
      simp only [osum, Option.bind_some]
      cases osum l with
      | none => rfl
      | some b =>
        cases osum l2 with
        | none => rfl
        | some c => simp only [Option.bind_some, Option.map_some]; congr 1; omega
theorem filter_congrL {p q : Nat → Bool} {l : List Nat} (h : ∀ x, x ∈ l → p x = q x) : l.filter p = l.filter q := List.filter_congr h
theorem wholes {k : Nat} {V : Vw} (hW : Wf k V) : ∀ (ps : List Nat), ps.Nodup → (∀ p, p ∈ ps → p < vN V ∧ vPar V p = none) → osum (ps.map (vWhole V)) = osum (((List.range (vN V)).filter (fun d => ps.contains (rt V d))).map (vVal V))
  | [], _, _ => by
    rw [List.filter_eq_nil_iff.mpr (fun d hd => by simp)]
    rfl
  | p :: ps, hnd, hp => by
    rw [List.nodup_cons] at hnd
    have h1 := hp p List.mem_cons_self
    rw [List.map_cons]
    show ((vWhole V p).bind fun x => (osum (ps.map (vWhole V))).map (fun y => x + y)) = _
    rw [wholes hW ps hnd.2 (fun q hq => hp q (List.mem_cons_of_mem _ hq)), ← whole_from hW h1.1, ← osum_app, ← List.map_append]
    refine (osum_perm (List.Perm.map _ ?_)).symm
    rw [show (List.range (vN V)).filter (fun d => (p :: ps).contains (rt V d)) = (List.range (vN V)).filter (fun d => fromB V d p || ps.contains (rt V d)) from filter_congrL (fun d hd => by
      have hd' := List.mem_range.mp hd
      have h2 := rt_from hW hd' h1.2
      rw [List.contains_cons]
      congr 1
      by_cases h3 : rt V d = p
      · rw [h2.mpr h3]; simp [h3]
      · have : ¬ fromB V d p = true := fun q => h3 (h2.mp q)
        rw [show fromB V d p = false by simpa using this]; simp [h3])]
    exact filter_or _ (fun d hd h3 h4 => by
      rw [(rt_from hW (List.mem_range.mp hd) h1.2).mp h3] at h4
      exact hnd.1 (by simpa using h4))
def lostP (V : Vw) (g a d : Nat) : Bool := isPl V (rt V d) && (vGrp V d == g) && !(d == a)
def othP (V : Vw) (g a d : Nat) : Bool := inG V g d && !(d == a)
theorem lost_sum {k : Nat} {V : Vw} (hW : Wf k V) {g a : Nat} (hg : g < 5) (ha : a < vN V) (hpa : isPl V a = true) (hga : vGrp V a = g) : osum (((List.range (vN V)).filter (lostP V g a)).map (vVal V)) = (vBen V a).bind fun b => (osum (((List.range (vN V)).filter (othP V g a)).map (vWhole V))).map (fun y => b + y) := by
  have hna : vPar V a = none := by unfold isPl at hpa; cases h : vPar V a with
    | none => rfl
    | some p => rw [h] at hpa; simp at hpa
  rw [wholes hW _ (List.nodup_range.filter _) (fun p hp => by
    rw [List.mem_filter, List.mem_range] at hp
    refine ⟨hp.1, ?_⟩
    have := hp.2
    unfold othP inG isPl at this
    cases h : vPar V p with
    | none => rfl
    | some p => rw [h] at this; simp at this)]
  show _ = (osum _).bind _
  rw [← osum_app, ← List.map_append]
  refine osum_perm (List.Perm.map _ ?_)
  rw [show (List.range (vN V)).filter (lostP V g a) = (List.range (vN V)).filter (fun d => under V d a || ((List.range (vN V)).filter (othP V g a)).contains (rt V d)) from filter_congrL (fun d hd => ?_)]
  · refine filter_or _ (fun d hd h3 h4 => ?_)
    have hd' := List.mem_range.mp hd
    have h5 := (rt_from hW hd' hna).mp (by unfold fromB; rw [h3]; simp)
    rw [h5] at h4
    have h6 : a ∈ (List.range (vN V)).filter (othP V g a) := by simpa using h4
    have := (List.mem_filter.mp h6).2
    unfold othP at this
    simp at this
  · have hd' := List.mem_range.mp hd
    have hrl := rt_lt hW hd'
    have hrn := rt_none hW hd'
    have hrg := rt_grp hW hd'
    have hf := rt_from hW hd' hna
    rw [Bool.eq_iff_iff]
    have hc : ((List.range (vN V)).filter (othP V g a)).contains (rt V d) = true ↔ (isPl V (rt V d) = true ∧ vGrp V d = g) ∧ ¬ rt V d = a := by
      rw [List.contains_iff_mem, List.mem_filter, List.mem_range]
      unfold othP
      rw [Bool.and_eq_true]
      constructor
      · rintro ⟨-, q1, q2⟩
        have q3 : isPl V (rt V d) = true := by unfold inG at q1; rw [Bool.and_eq_true] at q1; exact q1.1
        refine ⟨⟨q3, ?_⟩, by simpa using q2⟩
        rw [← hrg]
        exact (inG_pl hg q3).mp q1
      · rintro ⟨⟨q1, q2⟩, q3⟩
        exact ⟨hrl, (inG_pl hg q1).mpr (by rw [hrg]; exact q2), by simpa using q3⟩
    rw [Bool.or_eq_true, hc]
    unfold lostP
    rw [Bool.and_eq_true, Bool.and_eq_true, beq_iff_eq]
    have hself := under_self hW ha
    constructor
    · rintro ⟨⟨q1, q2⟩, q3⟩
      by_cases h1 : rt V d = a
      · left
        have := hf.mpr h1
        unfold fromB at this
        rw [Bool.or_eq_true] at this
        rcases this with z | z
        · rw [z] at q3; simp at q3
        · exact z
      · exact Or.inr ⟨⟨q1, q2⟩, h1⟩
    · rintro (q | ⟨⟨q1, q2⟩, q3⟩)
      · have h1 := hf.mp (by unfold fromB; rw [q]; simp)
        refine ⟨⟨by rw [h1]; exact hpa, by rw [← hrg, h1]; exact hga⟩, ?_⟩
        by_cases h2 : d = a
        · subst h2; rw [hself] at q; cases q
        · simp [h2]
      · refine ⟨⟨q1, q2⟩, ?_⟩
        by_cases h2 : d = a
        · subst h2
          refine absurd ?_ q3
          unfold rt
          rw [hna]
        · simp [h2]
def lfin (x : Int32) : Int32 := if x < 0 then -4 else if 9999 < x then -4 else x
def lres (w : Int32) (o : Option Nat) : Int32 := match o with
  | none => -4
  | some s => lfin (w - nI s)
theorem sub_sub' (a b c : Int32) : a - b - c = a - (b + c) := by
  rw [Int32.sub_eq_add_neg, Int32.sub_eq_add_neg, Int32.sub_eq_add_neg, Int32.neg_add, Int32.add_assoc]
  simp [Int32.sub_eq_add_neg]
theorem lres_step (w : Int32) (x : Nat) (o : Option Nat) : lres (w - nI x) o = lres w (o.map (fun y => x + y)) := by
  cases o with
  | none => rfl
  | some y => show lfin _ = lfin _; rw [sub_sub', nI_add]
theorem q_lost_L {N k g a : Nat} {h : Hp} {V : Vw} (hN : 70000 ≤ N) (hC : RowV (h 7) V) (hW : Wf k V) (hg : g < 5) (ha : a < vN V) : ∀ (m j fuel : Nat) (w : Int32), j + m = vN V → m < fuel → fX4_lost_L82 N h (nI a) fuel (nI g) w (nI j) = some (lres w (osum (((List.range' j m).filter (lostP V g a)).map (vVal V)))) := by
  intro m
  have hn := hW.n
  induction m with
  | zero =>
    intro j fuel w hj hf
    obtain ⟨fuel, rfl⟩ : ∃ f, fuel = f + 1 := ⟨fuel - 1, by omega⟩
    rw [fX4_lost_L82, q_cords hC, if_neg (nI_nlt (by omega) (by omega))]
    show _ = some (lfin (w - nI 0))
    rw [show (w - nI 0 : Int32) = w from Int32.sub_zero w]
    unfold lfin
    split
    · rfl
    · split <;> rfl
  | succ m ih =>
    intro j fuel w hj hf
    obtain ⟨fuel, rfl⟩ : ∃ f, fuel = f + 1 := ⟨fuel - 1, by omega⟩
    have hlt : j < vN V := by omega
    have hgl := grp_lt hW hlt
    rw [fX4_lost_L82, q_cords hC, if_pos (nI_lt hlt (by omega)), q_above hC hW (by omega) hlt, Option.bind_some, q_plain hC hW (rt_lt hW hlt), q_group hC hW hlt, if_nI (by omega) (by omega), List.range'_succ]
    unfold fX4_lost_J131
    rw [nI_1 j, if_nI (by omega) (by omega)]
    have skip : lostP V g a j = false → fX4_lost_L82 N h (nI a) fuel (nI g) w (nI (j + 1)) = some (lres w (osum (((j :: List.range' (j + 1) m).filter (lostP V g a)).map (vVal V)))) := fun hb => by
      rw [List.filter_cons_of_neg (p := lostP V g a) (a := j) (by simp [hb])]
      exact ih (j + 1) fuel w (by omega) (by omega)
    cases hp : isPl V (rt V j) with
    | false =>
      rw [show b2 false = (0 : Int32) from rfl, if_pos rfl, if_pos rfl]
      exact skip (by simp [lostP, hp])
    | true =>
      rw [show b2 true = (1 : Int32) from rfl, if_neg n10]
      by_cases h1 : vGrp V j = g
      · rw [if_pos h1, if_neg n10]
        by_cases h2 : j = a
        · rw [if_pos h2]
          exact skip (by simp [lostP, h2])
        · have hb : lostP V g a j = true := by simp [lostP, hp, h1, h2]
          rw [if_neg h2, q_value hC hW (by omega) hlt, Option.bind_some, List.filter_cons_of_pos (p := lostP V g a) (a := j) hb, List.map_cons]
          cases hv : vVal V j with
          | none => rw [show encP none = (-4 : Int32) from rfl, if_pos rfl]; rfl
          | some x =>
            have := vVal_lt hW hlt hv
            rw [show encP (some x) = nI x from rfl, if_neg (encP_ne (by omega)), ih (j + 1) fuel _ (by omega) (by omega), lres_step]
            rfl
      · rw [if_neg h1, if_pos rfl]
        exact skip (by simp [lostP, h1])
theorem m_lost_L {N k g a : Nat} {h : Hp} {V : Vw} (hN : 70000 ≤ N) (hM : ModV (h 23) V) (hW : Wf k V) (hg : g < 5) (ha : a < vN V) : ∀ (m j fuel : Nat) (w : Int32), j + m = vN V → m < fuel → fX5_lost_L82 N h (nI a) fuel (nI g) w (nI j) = some (lres w (osum (((List.range' j m).filter (othP V g a)).map (vWhole V)))) := by
  intro m
  have hn := hW.n
  induction m with
  | zero =>
    intro j fuel w hj hf
    obtain ⟨fuel, rfl⟩ : ∃ f, fuel = f + 1 := ⟨fuel - 1, by omega⟩
    have e9 : (9999 : Int64) = (nI 10000 - 1 : Int32).toInt64 := by decide
    rw [fX5_lost_L82, hM.1, if_neg (nI_nlt (by omega) (by omega)), e9]
    show _ = some (lfin (w - nI 0))
    rw [show (w - nI 0 : Int32) = w from Int32.sub_zero w]
    unfold lfin
    rcases bd_case (n := 10000) (by omega) (by omega) w with ⟨x, hlt, rfl, b1, b2, b3⟩ | b1 | ⟨b1, b2, b3⟩
    · rw [in_bd1 (by omega) hlt, if_neg n10, if_neg b1, if_neg (show ¬ (9999 : Int32) < nI x from b2)]
    · rw [in_bd (by omega) (Or.inl b1), if_pos rfl, if_pos b1]
    · rw [in_bd (by omega) (Or.inr ⟨b1, b2, b3⟩), if_pos rfl, if_neg b1, if_pos (show (9999 : Int32) < w from b2)]
  | succ m ih =>
    intro j fuel w hj hf
    obtain ⟨fuel, rfl⟩ : ∃ f, fuel = f + 1 := ⟨fuel - 1, by omega⟩
    have hlt : j < vN V := by omega
    rw [fX5_lost_L82, hM.1, if_pos (nI_lt hlt (by omega)), nI_1 j, if_nI (by omega) (by omega), List.range'_succ]
    by_cases h2 : j = a
    · rw [if_pos h2, List.filter_cons_of_neg (p := othP V g a) (a := j) (by simp [othP, h2])]
      exact ih (j + 1) fuel w (by omega) (by omega)
    · rw [if_neg h2, m_isOf hM hW hlt (by omega), Option.bind_some]
      cases hb : inG V g j with
      | false =>
        rw [show b2 false = (0 : Int32) from rfl, if_pos rfl, List.filter_cons_of_neg (p := othP V g a) (a := j) (by simp [othP, hb])]
        exact ih (j + 1) fuel w (by omega) (by omega)
      | true =>
        rw [show b2 true = (1 : Int32) from rfl, if_neg n10, m_whole hM hW (by omega) hlt, Option.bind_some, Option.bind_some, List.filter_cons_of_pos (p := othP V g a) (a := j) (by simp [othP, hb, h2]), List.map_cons]
        cases hv : vWhole V j with
        | none => rw [show encP none = (-4 : Int32) from rfl, if_pos rfl]; rfl
        | some x =>
          have := vWhole_lt hW hlt hv
          rw [show encP (some x) = nI x from rfl, if_neg (encP_ne (by omega)), ih (j + 1) fuel _ (by omega) (by omega), lres_step]
          rfl
theorem st_lost (N : Nat) (hN : 70000 ≤ N) : SF_lost N RR := by
  intro k h hk hR a1
  obtain ⟨V, hW, hC, hM⟩ := hR.2.2.1
  have hn := hW.n
  have key : ∃ v, fX4_lost N h a1 = some v ∧ fX5_lost N h a1 = some v := by
    unfold fX4_lost fX5_lost
    rcases cord_case hC hM hW a1 with ⟨h1, h2⟩ | ⟨h1, h2, c, hc, rfl⟩
    · exact ⟨-1, by rw [h1, if_pos rfl], by rw [h2, if_pos rfl]⟩
    rw [h1, if_neg n10, h2, if_neg n10, q_plain hC hW hc, m_isPlain hM hW hc, Option.bind_some]
    cases hp : isPl V c with
    | false => exact ⟨-2, rfl, rfl⟩
    | true =>
      have hg := grp_lt hW hc
      rw [show b2 true = (1 : Int32) from rfl, if_neg n10, if_neg n10, r_grp hM hW hc, Option.bind_some, q_group hC hW hc, q_topOf hC hW (by omega) (by omega), m_topOf hM hW (by omega) (by omega), Option.bind_some, Option.bind_some]
      unfold fX4_lost_J69
      cases ht : topS V (vGrp V c) with
      | none => exact ⟨-4, rfl, rfl⟩
      | some t =>
        have htl := topS_lt ht
        rw [show encP (some t) = nI t from rfl]
        simp only [Option.bind_some]
        rw [if_neg (encP_ne (by omega)), if_neg (encP_ne (by omega)), q_whole hC hW (by omega) htl, m_whole hM hW (by omega) htl]
        simp only [Option.bind_some]
        cases hw : vWhole V t with
        | none => exact ⟨-4, rfl, rfl⟩
        | some w =>
          have := vWhole_lt hW htl hw
          have hs := lost_sum hW hg hc hp rfl
          have q1 := q_lost_L hN hC hW hg hc (vN V) 0 N (nI w) (by omega) (by omega)
          rw [← List.range_eq_range', hs] at q1
          have q2 : ∀ b, fX5_lost_L82 N h (nI c) N (nI (vGrp V c)) (nI w - nI b) 0 = some (lres (nI w - nI b) (osum (((List.range (vN V)).filter (othP V (vGrp V c) c)).map (vWhole V)))) := fun b => by
            rw [List.range_eq_range']
            exact m_lost_L hN hM hW hg hc (vN V) 0 N (nI w - nI b) (by omega) (by omega)
          rw [show encP (some w) = nI w from rfl, if_neg (encP_ne (by omega)), if_neg (encP_ne (by omega)), m_ben hM hW (by omega) hc]
          simp only [Option.bind_some]
          refine ⟨_, q1, ?_⟩
          cases hb : vBen V c with
          | none => rfl
          | some b =>
            have := vBen_lt hW hb
            rw [show encP (some b) = nI b from rfl, if_neg (encP_ne (by omega)), q2, lres_step]
            rfl
  obtain ⟨v, e4, e5⟩ := key
  exact ⟨v, h, h, by rw [e4]; rfl, by rw [e5]; rfl, RR_mono k h hR⟩
