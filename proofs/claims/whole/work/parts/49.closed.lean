/-! closed: the ways to read a cord whose gaps have closed -/
def sg (c : Nat) : Bool := c / 10 == 1
def bi : Nat → Nat → Nat
  | _, 0 => 1
  | 0, _ + 1 => 0
  | n + 1, k + 1 => bi n k + bi n (k + 1)
def ch_n (k : Nat) : Nat → Nat → Nat
  | _, 0 => 0
  | j, m + 1 => (if sI one j 8 = k then 1 else 0) + ch_n k (j + 1) m
theorem ch_bi : ∀ x, x < 6 → ∀ k, k < 6 → ch_n k 0 (2 ^ x) = bi x k := by decide +kernel
theorem ch_pow : ∀ x, x < 6 → 2 ^ x ≤ 32 := by decide
theorem ch_sh : ∀ x, x < 6 → (1 : Int32) <<< (nI x &&& 31) = nI (2 ^ x) := by decide +kernel
theorem bi_lt : ∀ x, x < 6 → ∀ i, i < 7 → bi x i < 100 := by decide +kernel
theorem choices_L {N x k P : Nat} {h : Hp} (hP : P ≤ 32) (he : (1 : Int32) <<< (nI x &&& 31) = nI P) (hk : k < 6) : ∀ (m j u fuel : Nat), j + m = P → m < fuel → u ≤ j → fX4_choices_L4 N h (nI x) (nI k) fuel (nI u) (nI j) = some (nI (u + ch_n k j m)) := by
  intro m
  induction m with
  | zero =>
    intro j u fuel hj hf hu
    obtain ⟨fuel, rfl⟩ : ∃ f, fuel = f + 1 := ⟨fuel - 1, by omega⟩
    rw [fX4_choices_L4, he, if_neg (nI_nlt (by omega) (by omega))]
    rfl
  | succ m ih =>
    intro j u fuel hj hf hu
    obtain ⟨fuel, rfl⟩ : ∃ f, fuel = f + 1 := ⟨fuel - 1, by omega⟩
    have hs := pc_le j 8
    rw [fX4_choices_L4, he, if_pos (nI_lt (by omega) (by omega)), q_bc h (n := j) (by omega), Option.bind_some, if_nI (by omega) (by omega), nI_1 j, nI_1 u, Int32.add_zero, ch_n]
    by_cases hc : sI one j 8 = k
    · rw [if_pos hc, if_pos hc, ih (j + 1) (u + 1) fuel (by omega) (by omega) (by omega), Nat.add_assoc]
    · rw [if_neg hc, if_neg hc, ih (j + 1) u fuel (by omega) (by omega) (by omega), Nat.zero_add]
theorem choices_q {N x k : Nat} {h : Hp} (hN : 70000 ≤ N) (hx : x < 6) (hk : k < 6) : fX4_choices N h (nI x) (nI k) = some (nI (bi x k)) := by
  have h32 := ch_pow x hx
  have := choices_L (N := N) (x := x) (k := k) (P := 2 ^ x) (h := h) h32 (ch_sh x hx) hk (2 ^ x) 0 0 N (Nat.zero_add _) (Nat.lt_of_le_of_lt h32 (by omega)) (Nat.le_refl _)
  rw [Nat.zero_add, ch_bi x hx k hk] at this
  exact this
def lst (p : Nat) : List Nat → Nat
  | [] => 0
  | c :: cs => c % 10 * 10 ^ p + lst (p + 1) cs
def okZ : List Nat → Bool
  | [] => true
  | _ :: cs => cs.all sg
def kZ (zs : List Nat) : Nat := (zs.filter sg).length
def accZ : List Nat → Nat
  | [] => 0
  | c :: cs => if sg c = true then lst 1 (c :: cs) else c % 10 + lst 1 cs
theorem accZ_c (c : Nat) (cs : List Nat) : accZ (c :: cs) = if sg c = true then lst 1 (c :: cs) else c % 10 + lst 1 cs := rfl
def Rc (a3 : Int32) (x : Nat) (ok : Bool) (acc k : Nat) : Int32 := if ok = true then (if a3 = 0 then nI (bi x k) else if bi x k = 0 then -4 else nI acc) else (if a3 = 0 then 0 else -4)
def nzL (V : Vw) (c j m : Nat) : List Nat := ((List.range' j m).map (vCod V c)).filter (fun v => !(v == 0))
theorem nz_s (V : Vw) (c j m : Nat) : nzL V c j (m + 1) = if vCod V c j = 0 then nzL V c (j + 1) m else vCod V c j :: nzL V c (j + 1) m := by
  unfold nzL
  rw [List.range'_succ, List.map_cons]
  by_cases h : vCod V c j = 0
  · rw [if_pos h, List.filter_cons_of_neg (by simp [h])]
  · rw [if_neg h, List.filter_cons_of_pos (by simp [h])]
theorem nz_len (V : Vw) (c j m : Nat) : (nzL V c j m).length ≤ m := by
  unfold nzL
  have := List.length_filter_le (fun v => !(v == 0)) ((List.range' j m).map (vCod V c))
  rw [List.length_map, List.length_range'] at this
  exact this
section CL
variable {k0 N : Nat} {V : Vw} {h : Hp}
theorem J159_R {a1 a2 a3 : Int32} {x acc k : Nat} (hx : x < 6) (hk : k < 6) : fX4_closed_J159 N h a1 a2 a3 (nI acc) (nI (bi x k)) = some (Rc a3 x true acc k) := by
  have := bi_lt x hx k (by omega)
  unfold fX4_closed_J159 Rc
  rw [if_pos rfl]
  by_cases h0 : a3 = 0
  · rw [if_pos h0, if_pos h0]
  · rw [if_neg h0, if_neg h0]
    by_cases h1 : bi x k = 0
    · rw [if_pos (show nI (bi x k) = (0 : Int32) by rw [h1]; rfl), if_pos h1]
    · rw [if_neg (show ¬ nI (bi x k) = (0 : Int32) from ne_lit (b := 0) (by omega) (by omega) h1), if_neg h1]
theorem J159_0 {a1 a2 a3 u4 : Int32} {x acc k : Nat} : fX4_closed_J159 N h a1 a2 a3 u4 0 = some (Rc a3 x false acc k) := by
  unfold fX4_closed_J159 Rc
  rw [if_neg (show ¬ false = true by decide)]
  by_cases h0 : a3 = 0
  · rw [if_pos h0, if_pos h0]
  · rw [if_neg h0, if_neg h0, if_pos rfl]
theorem Rc_f {a3 : Int32} {x acc acc' k k' : Nat} : Rc a3 x false acc k = Rc a3 x false acc' k' := rfl
theorem cod_pos {v : Nat} (hv : codOK v) (h0 : ¬ v = 0) : 0 < v % 10 ∧ v % 10 ≤ 9 := by unfold codOK at hv; omega
theorem q_cl_A (hV : RowV (h 7) V) (hW : Wf k0 V) (hN : 70000 ≤ N) {c x : Nat} (hc : c < vN V) (hx : x < 6) (a2 a3 : Int32) (ha2 : a2 - 1 = nI x) : ∀ (m j k acc fuel : Nat) (ok : Bool), j + m = vSiz V c → m < fuel → k ≤ j → 0 < acc → acc + m * 100000 < 2 ^ 30 → fX4_closed_L45 N h (nI c) a2 a3 fuel (nI acc) (nI k) (b2 ok) (nI j) = some (Rc a3 x (ok && (nzL V c j m).all sg) (acc + lst (k + 1) (nzL V c j m)) (k + (nzL V c j m).length)) := by
  intro m
  have hs := hW.siz hc
  induction m with
  | zero =>
    intro j k acc fuel ok hj hf hk ha hab
    obtain ⟨fuel, rfl⟩ : ∃ f, fuel = f + 1 := ⟨fuel - 1, by omega⟩
    rw [fX4_closed_L45, q_size hV hW hc, if_neg (nI_nlt (by omega) (by omega))]
    show _ = some (Rc a3 x (ok && true) (acc + 0) (k + 0))
    rw [Bool.and_true, b2_01]
    cases ok with
    | false => rw [if_neg (by decide)]; exact J159_0
    | true => rw [if_pos rfl, ha2, choices_q hN hx (by omega), Option.bind_some]; exact J159_R hx (by omega)
  | succ m ih =>
    intro j k acc fuel ok hj hf hk ha hab
    obtain ⟨fuel, rfl⟩ : ∃ f, fuel = f + 1 := ⟨fuel - 1, by omega⟩
    have hlt : j < vSiz V c := by omega
    have hcd := hW.cod hc hlt
    obtain ⟨B, hB⟩ : ∃ B, B = m * 100000 := ⟨_, rfl⟩
    rw [Nat.succ_mul, ← hB] at hab
    rw [← hB] at ih
    have h40 := codOK_lt hcd
    have hkd : fX4_kindOf h (nI (vCod V c j)) = nI (vCod V c j / 10) := by unfold fX4_kindOf; exact pk_div (d := 10) (by omega) (by omega) (by omega)
    rw [fX4_closed_L45, q_size hV hW hc, if_pos (nI_lt hlt (by omega)), q_code hV hW hc hlt, hkd, q_count h h40, nI_1, nI_1, tens_dec (k + 1) (by omega), nz_s]
    by_cases h0 : vCod V c j = 0
    · rw [if_pos h0, h0, if_neg (show ¬ nI (0 / 10) = (1 : Int32) by decide), if_pos (show nI (0 / 10) = (0 : Int32) by decide)]
      exact ih (j + 1) k acc fuel ok (by omega) (by omega) (by omega) ha (by omega)
    · have hpos := cod_pos hcd h0
      have hten : vCod V c j % 10 * 10 ^ (k + 1) ≤ 9 * 10 ^ 4 := Nat.mul_le_mul hpos.2 (Nat.pow_le_pow_right (by decide) (by omega))
      rw [if_neg h0]
      by_cases h1 : vCod V c j / 10 = 1
      · have hsg : sg (vCod V c j) = true := by unfold sg; rw [h1]; rfl
        rw [if_pos (show nI (vCod V c j / 10) = (1 : Int32) by rw [h1]; rfl), pk_mul, nI_add, Option.bind_some, ih (j + 1) (k + 1) (acc + vCod V c j % 10 * 10 ^ (k + 1)) fuel ok (by omega) (by omega) (by omega) (by omega) (by omega), List.all_cons, hsg, Bool.true_and, List.length_cons]
        rw [show lst (k + 1) (vCod V c j :: nzL V c (j + 1) m) = vCod V c j % 10 * 10 ^ (k + 1) + lst (k + 1 + 1) (nzL V c (j + 1) m) from rfl, ← Nat.add_assoc acc, show k + ((nzL V c (j + 1) m).length + 1) = k + 1 + (nzL V c (j + 1) m).length by omega]
      · have hsg : sg (vCod V c j) = false := by unfold sg; rw [beq_eq_false_iff_ne]; exact h1
        have hd0 : ¬ vCod V c j / 10 = 0 := by unfold codOK at hcd; omega
        rw [if_neg (show ¬ nI (vCod V c j / 10) = (1 : Int32) from ne_lit (b := 1) (by omega) (by omega) h1), if_neg (show ¬ nI (vCod V c j / 10) = (0 : Int32) from ne_lit (b := 0) (by omega) (by omega) hd0)]
        have et : (if b2 ok = 0 then (0 : Int32) else (if nI acc = 0 then 1 else 0)) = b2 false := by
          rw [if_neg (show ¬ nI acc = (0 : Int32) from ne_lit (b := 0) (by omega) (by omega) (by omega))]
          split <;> rfl
        unfold fX4_closed_J124
        rw [et, q_count h h40, nI_add, Option.bind_some, nI_1, ih (j + 1) k (acc + vCod V c j % 10) fuel false (by omega) (by omega) (by omega) (by omega) (by omega), List.all_cons, hsg, Bool.false_and, Bool.and_false]
        rfl
theorem q_cl_B (hV : RowV (h 7) V) (hW : Wf k0 V) (hN : 70000 ≤ N) {c x : Nat} (hc : c < vN V) (hx : x < 6) (a2 a3 : Int32) (ha2 : a2 - 1 = nI x) : ∀ (m j fuel : Nat), j + m = vSiz V c → m < fuel → fX4_closed_L45 N h (nI c) a2 a3 fuel 0 0 1 (nI j) = some (Rc a3 x (okZ (nzL V c j m)) (accZ (nzL V c j m)) (kZ (nzL V c j m))) := by
  intro m
  have hs := hW.siz hc
  induction m with
  | zero =>
    intro j fuel hj hf
    obtain ⟨fuel, rfl⟩ : ∃ f, fuel = f + 1 := ⟨fuel - 1, by omega⟩
    rw [fX4_closed_L45, q_size hV hW hc, if_neg (nI_nlt (by omega) (by omega)), if_neg n10, ha2, show (0 : Int32) = nI 0 from rfl, choices_q hN hx (by omega), Option.bind_some]
    exact J159_R hx (by omega)
  | succ m ih =>
    intro j fuel hj hf
    obtain ⟨fuel, rfl⟩ : ∃ f, fuel = f + 1 := ⟨fuel - 1, by omega⟩
    have hlt : j < vSiz V c := by omega
    have hcd := hW.cod hc hlt
    have h40 := codOK_lt hcd
    have hkd : fX4_kindOf h (nI (vCod V c j)) = nI (vCod V c j / 10) := by unfold fX4_kindOf; exact pk_div (d := 10) (by omega) (by omega) (by omega)
    have kall : ∀ l : List Nat, l.all sg = true → (l.filter sg).length = l.length := fun l hl => by
      rw [List.filter_eq_self.mpr (fun a ha => List.all_eq_true.mp hl a ha)]
    rw [fX4_closed_L45, q_size hV hW hc, if_pos (nI_lt hlt (by omega)), q_code hV hW hc hlt, hkd, q_count h h40, nI_1 j, nz_s]
    by_cases h0 : vCod V c j = 0
    · rw [if_pos h0, h0, if_neg (show ¬ nI (0 / 10) = (1 : Int32) by decide), if_pos (show nI (0 / 10) = (0 : Int32) by decide)]
      exact ih (j + 1) fuel (by omega) (by omega)
    · have hpos := cod_pos hcd h0
      rw [if_neg h0]
      by_cases h1 : vCod V c j / 10 = 1
      · have hsg : sg (vCod V c j) = true := by unfold sg; rw [h1]; rfl
        have e1 : (0 + nI (vCod V c j % 10) * tensV (0 + 1) : Int32) = nI (vCod V c j % 10 * 10) := by
          rw [show tensV (0 + 1) = nI 10 by decide, pk_mul, show (0 : Int32) = nI 0 from rfl, nI_add, Nat.zero_add]
        have hA := q_cl_A (N := N) hV hW hN hc hx a2 a3 ha2 m (j + 1) 1 (vCod V c j % 10 * 10) fuel true (by omega) (by omega) (by omega) (by omega) (by omega)
        rw [if_pos (show nI (vCod V c j / 10) = (1 : Int32) by rw [h1]; rfl), e1, Option.bind_some, show (0 + 1 : Int32) = nI 1 by decide, show (1 : Int32) = b2 true from rfl, hA, Bool.true_and]
        show some (Rc a3 x ((nzL V c (j + 1) m).all sg) _ _) = some (Rc a3 x ((nzL V c (j + 1) m).all sg) _ _)
        cases hall : (nzL V c (j + 1) m).all sg with
        | false => rfl
        | true =>
          unfold kZ
          rw [accZ_c, if_pos hsg, List.filter_cons_of_pos hsg, List.length_cons, kall _ hall, Nat.add_comm 1 (nzL V c (j + 1) m).length]
          show some (Rc a3 x true (vCod V c j % 10 * 10 + lst 2 (nzL V c (j + 1) m)) _) = some (Rc a3 x true (vCod V c j % 10 * 10 ^ 1 + lst 2 (nzL V c (j + 1) m)) _)
          rw [Nat.pow_one]
      · have hsg : sg (vCod V c j) = false := by unfold sg; rw [beq_eq_false_iff_ne]; exact h1
        have hd0 : ¬ vCod V c j / 10 = 0 := by unfold codOK at hcd; omega
        rw [if_neg (show ¬ nI (vCod V c j / 10) = (1 : Int32) from ne_lit (b := 1) (by omega) (by omega) h1), if_neg (show ¬ nI (vCod V c j / 10) = (0 : Int32) from ne_lit (b := 0) (by omega) (by omega) hd0), if_neg n10, if_pos rfl]
        unfold fX4_closed_J124
        have hA := q_cl_A (N := N) hV hW hN hc hx a2 a3 ha2 m (j + 1) 0 (vCod V c j % 10) fuel true (by omega) (by omega) (by omega) (by omega) (by omega)
        rw [q_count h h40, show (0 + nI (vCod V c j % 10) : Int32) = nI (vCod V c j % 10) by rw [show (0 : Int32) = nI 0 from rfl, nI_add, Nat.zero_add], Option.bind_some, nI_1 j, show (1 : Int32) = b2 true from rfl]
        refine (show fX4_closed_L45 N h (nI c) a2 a3 fuel (nI (vCod V c j % 10)) 0 (b2 true) (nI (j + 1)) = _ from hA).trans ?_
        rw [Bool.true_and]
        show some (Rc a3 x ((nzL V c (j + 1) m).all sg) _ _) = some (Rc a3 x ((nzL V c (j + 1) m).all sg) _ _)
        cases hall : (nzL V c (j + 1) m).all sg with
        | false => rfl
        | true =>
          unfold kZ
          rw [accZ_c, if_neg (show ¬ sg (vCod V c j) = true by rw [hsg]; decide), List.filter_cons_of_neg (show ¬ sg (vCod V c j) = true by rw [hsg]; decide), kall _ hall, Nat.zero_add, Nat.zero_add]
end CL
/-! a mask of places, the codes set on them in order -/
def evF (M : Nat) : Nat → Nat → List Nat → Nat → Option Nat
  | 0, _, cs, acc => if cs = [] then some acc else none
  | n + 1, p, cs, acc => if M.testBit p = true then (match cs with
    | [] => none
    | c :: cs' => if sg c = decide (0 < p) then evF M n (p + 1) cs' (acc + c % 10 * 10 ^ p) else none) else evF M n (p + 1) cs acc
def vd (M : Nat) : Nat → Nat → List Bool → Bool
  | 0, _, ks => ks.isEmpty
  | n + 1, p, ks => if M.testBit p = true then (match ks with
    | [] => false
    | b :: bs => if b = decide (0 < p) then vd M n (p + 1) bs else false) else vd M n (p + 1) ks
theorem evF_n (M p acc : Nat) : evF M 0 p [] acc = some acc := rfl
theorem evF_c (M p c acc : Nat) (cs : List Nat) : evF M 0 p (c :: cs) acc = none := rfl
theorem evF_1n (M n p acc : Nat) (h : M.testBit p = true) : evF M (n + 1) p [] acc = none := by
  unfold evF
  rw [if_pos h]
theorem evF_1c (M n p acc c : Nat) (cs : List Nat) (h : M.testBit p = true) : evF M (n + 1) p (c :: cs) acc = if sg c = decide (0 < p) then evF M n (p + 1) cs (acc + c % 10 * 10 ^ p) else none := by
  conv => lhs; unfold evF
  rw [if_pos h]
theorem evF_0 (M n p acc : Nat) (cs : List Nat) (h : ¬ M.testBit p = true) : evF M (n + 1) p cs acc = evF M n (p + 1) cs acc := by
  conv => lhs; unfold evF
  rw [if_neg h]
theorem vd_1n (M n p : Nat) (h : M.testBit p = true) : vd M (n + 1) p [] = false := by
  unfold vd
  rw [if_pos h]
theorem vd_1c (M n p : Nat) (b : Bool) (bs : List Bool) (h : M.testBit p = true) : vd M (n + 1) p (b :: bs) = if b = decide (0 < p) then vd M n (p + 1) bs else false := by
  conv => lhs; unfold vd
  rw [if_pos h]
theorem vd_0 (M n p : Nat) (ks : List Bool) (h : ¬ M.testBit p = true) : vd M (n + 1) p ks = vd M n (p + 1) ks := by
  conv => lhs; unfold vd
  rw [if_neg h]
theorem ev_vd (M : Nat) : ∀ (n p : Nat) (cs : List Nat) (acc : Nat), (evF M n p cs acc).isSome = vd M n p (cs.map sg)
  | 0, p, [], acc => rfl
  | 0, p, c :: cs, acc => rfl
  | n + 1, p, cs, acc => by
    by_cases h : M.testBit p = true
    · cases cs with
      | nil => rw [evF_1n M n p acc h, List.map_nil, vd_1n M n p h]; rfl
      | cons c cs =>
        rw [evF_1c M n p acc c cs h, List.map_cons, vd_1c M n p _ _ h]
        by_cases h2 : sg c = decide (0 < p)
        · rw [if_pos h2, if_pos h2]; exact ev_vd M n (p + 1) cs _
        · rw [if_neg h2, if_neg h2]; rfl
    · rw [evF_0 M n p acc cs h, vd_0 M n p _ h]; exact ev_vd M n (p + 1) cs acc
theorem ev_b (M : Nat) : ∀ (n p : Nat) (cs : List Nat) (acc x : Nat), acc < 10 ^ p → evF M n p cs acc = some x → x < 10 ^ (p + n)
  | 0, p, [], acc, x, ha, h => by
    rw [evF_n] at h
    injection h with h
    subst h
    exact ha
  | 0, p, c :: cs, acc, x, ha, h => by rw [evF_c] at h; cases h
  | n + 1, p, cs, acc, x, ha, h => by
    have hp : 10 ^ (p + 1) = 10 * 10 ^ p := by rw [Nat.pow_succ, Nat.mul_comm]
    rw [show p + (n + 1) = p + 1 + n by omega]
    by_cases h1 : M.testBit p = true
    · cases cs with
      | nil => rw [evF_1n M n p acc h1] at h; cases h
      | cons c cs =>
        rw [evF_1c M n p acc c cs h1] at h
        by_cases h2 : sg c = decide (0 < p)
        · rw [if_pos h2] at h
          have : c % 10 * 10 ^ p ≤ 9 * 10 ^ p := Nat.mul_le_mul_right _ (by omega)
          exact ev_b M n (p + 1) cs _ x (by omega) h
        · rw [if_neg h2] at h; cases h
    · rw [evF_0 M n p acc cs h1] at h
      exact ev_b M n (p + 1) cs acc x (by omega) h
theorem lst_up : ∀ (cs : List Nat) (p : Nat), lst p cs ≤ lst (p + 1) cs
  | [], _ => Nat.le_refl _
  | c :: cs, p => by
    have h1 := lst_up cs (p + 1)
    have h2 : c % 10 * 10 ^ p ≤ c % 10 * 10 ^ (p + 1) := Nat.mul_le_mul_left _ (Nat.pow_le_pow_right (by decide) (by omega))
    show c % 10 * 10 ^ p + lst (p + 1) cs ≤ c % 10 * 10 ^ (p + 1) + lst (p + 1 + 1) cs
    omega
theorem ev_ge (M : Nat) : ∀ (n p : Nat) (cs : List Nat) (acc x : Nat), evF M n p cs acc = some x → acc + lst p cs ≤ x
  | 0, p, [], acc, x, h => by
    rw [evF_n] at h
    injection h with h
    subst h
    exact Nat.le_refl _
  | 0, p, c :: cs, acc, x, h => by rw [evF_c] at h; cases h
  | n + 1, p, cs, acc, x, h => by
    by_cases h1 : M.testBit p = true
    · cases cs with
      | nil => rw [evF_1n M n p acc h1] at h; cases h
      | cons c cs =>
        rw [evF_1c M n p acc c cs h1] at h
        by_cases h2 : sg c = decide (0 < p)
        · rw [if_pos h2] at h
          have := ev_ge M n (p + 1) cs _ x h
          show acc + (c % 10 * 10 ^ p + lst (p + 1) cs) ≤ x
          omega
        · rw [if_neg h2] at h; cases h
    · rw [evF_0 M n p acc cs h1] at h
      have := ev_ge M n (p + 1) cs acc x h
      have := lst_up cs p
      omega
theorem ev_off {M : Nat} : ∀ (n p acc : Nat), (∀ i, p ≤ i → M.testBit i = false) → evF M n p [] acc = some acc
  | 0, p, acc, _ => rfl
  | n + 1, p, acc, h => by
    rw [evF_0 M n p acc [] (by rw [h p (Nat.le_refl _)]; decide)]
    exact ev_off n (p + 1) acc (fun i hi => h i (by omega))
theorem ev_on {M : Nat} : ∀ (cs : List Nat) (n p acc : Nat), 0 < p → cs.all sg = true → cs.length ≤ n → (∀ i, i < cs.length → M.testBit (p + i) = true) → (∀ i, p + cs.length ≤ i → M.testBit i = false) → evF M n p cs acc = some (acc + lst p cs)
  | [], n, p, acc, _, _, _, _, h2 => ev_off n p acc (fun i hi => h2 i (by simpa using hi))
  | c :: cs, 0, p, acc, _, _, hl, _, _ => by simp at hl
  | c :: cs, n + 1, p, acc, hp, ha, hl, h1, h2 => by
    rw [List.all_cons, Bool.and_eq_true] at ha
    rw [List.length_cons] at hl h1 h2
    rw [evF_1c M n p acc c cs (h1 0 (by omega)), if_pos (by rw [ha.1, decide_eq_true hp]), ev_on cs n (p + 1) _ (by omega) ha.2 (by omega) (fun i hi => by have := h1 (i + 1) (by omega); rw [show p + 1 + i = p + (i + 1) by omega]; exact this) (fun i hi => h2 i (by omega))]
    show some (acc + c % 10 * 10 ^ p + lst (p + 1) cs) = some (acc + (c % 10 * 10 ^ p + lst (p + 1) cs))
    rw [Nat.add_assoc]
def okB : List Bool → Bool
  | [] => true
  | _ :: bs => bs.all id
def cntB (a : Nat) (ks : List Bool) : Nat := ((List.range (2 ^ a)).filter (fun M => vd M a 0 ks)).length
def goB (a : Nat) (ks : List Bool) : Bool := cntB a ks == (if okB ks = true then bi (a - 1) (ks.filter id).length else 0)
theorem cntb_dec : ∀ a, a < 7 → 0 < a → ∀ b0 b1 b2 b3 : Bool, (goB a [] && goB a [b0] && goB a [b0, b1] && goB a [b0, b1, b2] && goB a [b0, b1, b2, b3]) = true := by decide +kernel
theorem bi_0 : ∀ x, x < 6 → ∀ k, k < 6 → (bi x k = 0 ↔ x < k) := by decide +kernel
