/-! make: the fewest cords that tell a number -/
theorem sI_ext {v : Nat → Nat} {s j : Nat} (h : s < 2 ^ j) : ∀ k, sI v s (j + k) = sI v s j
  | 0 => rfl
  | k + 1 => by
    have h2 : 2 ^ j ≤ 2 ^ (j + k) := Nat.pow_le_pow_right (by decide) (by omega)
    show sI v s (j + k) + (if s.testBit (j + k) = true then v (j + k) else 0) = _
    rw [sI_ext h k, Nat.testBit_lt_two_pow (Nat.lt_of_lt_of_le h h2)]
    rfl
theorem sI_0 (v : Nat → Nat) : ∀ n, sI v 0 n = 0
  | 0 => rfl
  | n + 1 => by rw [sI, sI_0 v n, Nat.zero_testBit]; rfl
theorem sI_top {n x : Nat} (hx : x < 2 ^ n) : sI one (x + 2 ^ n) (n + 1) = sI one x n + 1 := by
  have hb : ∀ b, (x + 2 ^ n).testBit b = if b < n then x.testBit b else if b = n then true else false := fun b => by
    have := tb_add hx true (b := b)
    rw [if_pos rfl] at this
    exact this
  have hbn : (x + 2 ^ n).testBit n = true := by rw [hb, if_neg (by omega), if_pos rfl]
  rw [sI, hbn, if_pos rfl, sI_congr (t := x) n (fun j hj => by rw [hb, if_pos hj])]
  rfl
theorem bit_less : ∀ n M, M < 2 ^ n → 0 < M → sI one (M &&& (M - 1)) n + 1 = sI one M n
  | 0, M, h, h0 => by
    have : M = 0 := by simpa using h
    omega
  | n + 1, M, h, h0 => by
    rw [Nat.pow_succ] at h
    rcases Nat.lt_or_ge M (2 ^ n) with q | q
    · have hle : M &&& (M - 1) ≤ M := Nat.and_le_left
      have e1 := sI_ext (v := one) q 1
      have e2 := sI_ext (v := one) (s := M &&& (M - 1)) (j := n) (by omega) 1
      rw [e1, e2]
      exact bit_less n M q h0
    · obtain ⟨x, rfl⟩ : ∃ x, M = x + 2 ^ n := ⟨M - 2 ^ n, by omega⟩
      have hx : x < 2 ^ n := by omega
      have hb : ∀ y, y < 2 ^ n → ∀ b, (y + 2 ^ n).testBit b = if b < n then y.testBit b else if b = n then true else false := fun y hy b => by
        have := tb_add hy true (b := b)
        rw [if_pos rfl] at this
        exact this
      rw [sI_top hx]
      by_cases hx0 : x = 0
      · subst hx0
        have e : (0 + 2 ^ n) &&& (0 + 2 ^ n - 1) = 0 := by
          apply Nat.eq_of_testBit_eq
          intro b
          rw [Nat.testBit_and, hb 0 hx, Nat.zero_add, Nat.testBit_two_pow_sub_one, Nat.zero_testBit]
          by_cases h1 : b < n
          · rw [if_pos h1]; rfl
          · have : decide (b < n) = false := by simpa using h1
            rw [this, Bool.and_false]
        rw [e, sI_0, sI_0]
      · have e : (x + 2 ^ n) &&& (x + 2 ^ n - 1) = (x &&& (x - 1)) + 2 ^ n := by
          have hle : x &&& (x - 1) ≤ x := Nat.and_le_left
          rw [show x + 2 ^ n - 1 = (x - 1) + 2 ^ n by omega]
          apply Nat.eq_of_testBit_eq
          intro b
          rw [Nat.testBit_and, hb x hx, hb (x - 1) (by omega), hb _ (by omega)]
          by_cases h1 : b < n
          · rw [if_pos h1, if_pos h1, if_pos h1, Nat.testBit_and]
          · rw [if_neg h1, if_neg h1, if_neg h1]
            by_cases h2 : b = n
            · rw [if_pos h2]; rfl
            · rw [if_neg h2]; rfl
        have hle : x &&& (x - 1) ≤ x := Nat.and_le_left
        rw [e, sI_top (by omega), bit_less n x hx (by omega)]
theorem m_bits {N : Nat} (h : Hp) (a0 : Int32) : ∀ (k M cnt fuel : Nat), M < 2 ^ 16 → sI one M 16 = k → k < fuel → fX5_bits_L4 N h a0 fuel (nI cnt) (nI M) = some (nI (cnt + k)) := by
  intro k
  induction k with
  | zero =>
    intro M cnt fuel hM hk hf
    obtain ⟨fuel, rfl⟩ : ∃ f, fuel = f + 1 := ⟨fuel - 1, by omega⟩
    have h0 : M = 0 := by
      rcases Nat.eq_zero_or_pos M with q | q
      · exact q
      · have := bit_less 16 M hM q; omega
    subst h0
    rw [fX5_bits_L4, if_pos (show nI 0 = (0 : Int32) from rfl)]
    rfl
  | succ k ih =>
    intro M cnt fuel hM hk hf
    obtain ⟨fuel, rfl⟩ : ∃ f, fuel = f + 1 := ⟨fuel - 1, by omega⟩
    have h0 : 0 < M := by
      rcases Nat.eq_zero_or_pos M with q | q
      · subst q; rw [sI_0] at hk; omega
      · exact q
    have hb := bit_less 16 M hM h0
    have hle : M &&& (M - 1) ≤ M := Nat.and_le_left
    rw [fX5_bits_L4, if_neg (show ¬ nI M = (0 : Int32) from ne_lit (b := 0) (by omega) (by omega) (by omega)), nI_1, show (1 : Int32) = nI 1 from rfl, pk_sub (by omega), x_and, ih (M &&& (M - 1)) (cnt + 1) fuel (by omega) (by omega) (by omega)]
    congr 2
    omega
theorem m_bitsA {N M : Nat} (h : Hp) (hN : 70000 ≤ N) (hM : M < 2 ^ 16) : fX5_bits N h (nI M) = some (nI (sI one M 16)) := by
  have := pc_le M 16
  have := m_bits (N := N) h (nI M) (sI one M 16) M 0 N hM rfl (by omega)
  rw [Nat.zero_add] at this
  exact this
theorem bc_dec : ∀ n, n < 256 → fJ6_bitCount_0f7a4 (fun _ _ => 0) (nI n) = some (nI (sI one n 8)) := by decide +kernel
theorem q_bc (h : Hp) {n : Nat} (hn : n < 256) : fJ6_bitCount_0f7a4 h (nI n) = some (nI (sI one n 8)) := bc_dec n hn
def Opt (P : Nat → Prop) (f : Nat → Nat) : Option Nat → Prop
  | none => ∀ s, ¬ P s
  | some b => LexMin P f b
theorem Opt.congr {P Q : Nat → Prop} {f : Nat → Nat} {o : Option Nat} (h : Opt P f o) (e : ∀ s, P s ↔ Q s) : Opt Q f o := by
  cases o with
  | none => exact fun s q => h s ((e s).mpr q)
  | some b => exact LexMin.congr h e
theorem Opt.uniq {P : Nat → Prop} {f : Nat → Nat} {o p : Option Nat} (h1 : Opt P f o) (h2 : Opt P f p) : o = p := by
  cases o with
  | none => cases p with
    | none => rfl
    | some b => exact absurd h2.1 (h1 b)
  | some a => cases p with
    | none => exact absurd h1.1 (h2 a)
    | some b => rw [LexMin.uniq h1 h2]
def fw (f : Nat → Nat) : Option Nat → Int32
  | none => 17
  | some b => nI (f b)
section FF
variable {N m : Nat} {cv v : Nat → Nat}
theorem few_L (hN : 70000 ≤ N) (hm : m ≤ 16) (hv : ∀ j, j < m → v j ≤ 9999) {a : Nat} (ha : a < 10000) {K S : Nat} {ks : List Nat} {h : Hp} (hL : LowC h K S ks (min m 8) 1 v) (hH : Hs h v (m - 8)) : ∀ (k t fuel : Nat) (o : Option Nat), t + k = 2 ^ (m - 8) → k < fuel → Opt (fun s => s < 2 ^ m ∧ s / 256 < t ∧ sI v s m = a) (fun s => sI one s m) o → ∃ o', Opt (fun s => s < 2 ^ m ∧ sI v s m = a) (fun s => sI one s m) o' ∧ fX2_findFewest_L20 N (nI a) fuel (nI (2 ^ (m - 8))) (encP o) (fw (fun s => sI one s m) o) (nI t) h = (if encP o' = (-4) then ((some (hset h 12 7 (-4))).bind fun g4 => (some (0, g4))) else ((fX2_asCords N h (encP o')).bind fun v5 => ((some (hset h 12 7 v5)).bind fun g6 => (some (0, g6))))) := by
  intro k
  have h2 : 2 ^ (m - 8) ≤ 2 ^ 8 := Nat.pow_le_pow_right (by decide) (by omega)
  have h2' : 2 ^ min m 8 ≤ 2 ^ 8 := Nat.pow_le_pow_right (by decide) (by omega)
  have hp8 := hL.p8
  induction k with
  | zero =>
    intro t fuel o ht hf ho
    obtain ⟨fuel, rfl⟩ : ∃ f, fuel = f + 1 := ⟨fuel - 1, by omega⟩
    refine ⟨o, ho.congr (fun s => ⟨fun q => ⟨q.1, q.2.2⟩, fun q => ⟨q.1, by have := (pow_split s).mp q.1; omega, q.2⟩⟩), ?_⟩
    rw [fX2_findFewest_L20, if_neg (nI_nlt (by omega) (by omega))]
  | succ k ih =>
    intro t fuel o ht hf ho
    obtain ⟨fuel, rfl⟩ : ∃ f, fuel = f + 1 := ⟨fuel - 1, by omega⟩
    have htl : t < 2 ^ (m - 8) := by omega
    obtain ⟨sH, hsH⟩ : ∃ sH, sH = sI (v8 v) t (m - 8) := ⟨_, rfl⟩
    have hsl : sH ≤ 8 * 9999 := by
      rw [hsH]
      have h1 := sI_le (v := v8 v) (K := 9999) t (m - 8) (fun i hi => hv (8 + i) (by omega))
      exact Nat.le_trans h1 (Nat.mul_le_mul_right _ (by omega))
    have e15 : atF h 15 256 (nI t) = nI sH := by rw [at_nI (by omega) (by omega), hH t htl, hsH]
    have hnew : ∀ s, s < 2 ^ m → s / 256 = t → s % 256 < 2 ^ min m 8 ∧ s = 256 * t + s % 256 ∧ sI v s m = sI v (s % 256) (min m 8) + sH ∧ sI one s m = sI one (s % 256) (min m 8) + sI one t (m - 8) := fun s q1 q2 => by
      have c1 := ((pow_split s).mp q1).1
      have c2 : s = 256 * t + s % 256 := by omega
      have c3 := sI_split (v := v) c1 htl
      have c4 := sI_split (v := one) c1 htl
      rw [← c2] at c3 c4
      exact ⟨c1, c2, by rw [hsH]; exact c3, c4⟩
    have hone : sI one t 8 = sI one t (m - 8) := by
      have := sI_ext (v := one) htl (8 - (m - 8))
      rw [show m - 8 + (8 - (m - 8)) = 8 by omega] at this
      exact this
    have go : ∀ o2, Opt (fun s => s < 2 ^ m ∧ s / 256 < t + 1 ∧ sI v s m = a) (fun s => sI one s m) o2 → ∃ o', Opt (fun s => s < 2 ^ m ∧ sI v s m = a) (fun s => sI one s m) o' ∧ fX2_findFewest_L20 N (nI a) fuel (nI (2 ^ (m - 8))) (encP o2) (fw (fun s => sI one s m) o2) (nI (t + 1)) h = (if encP o' = (-4) then ((some (hset h 12 7 (-4))).bind fun g4 => (some (0, g4))) else ((fX2_asCords N h (encP o')).bind fun v5 => ((some (hset h 12 7 v5)).bind fun g6 => (some (0, g6))))) := fun o2 h2 => ih (t + 1) fuel o2 (by omega) (by omega) h2
    have same : (∀ l, l < 2 ^ min m 8 → ¬ sI v l (min m 8) + sH = a) → Opt (fun s => s < 2 ^ m ∧ s / 256 < t + 1 ∧ sI v s m = a) (fun s => sI one s m) o := fun hno => ho.congr (fun s => ⟨fun q => ⟨q.1, by omega, q.2.2⟩, fun q => ⟨q.1, by
      by_cases e : s / 256 = t
      · obtain ⟨c1, c2, c3, c4⟩ := hnew s q.1 e
        exact absurd (by rw [← c3]; exact q.2.2) (hno _ c1)
      · omega, q.2.2⟩⟩)
    rw [fX2_findFewest_L20, if_pos (nI_lt htl (by omega)), e15]
    by_cases hneg : a < sH
    · obtain ⟨o', w1, w2⟩ := go o (same (fun l _ => by omega))
      refine ⟨o', w1, ?_⟩
      rw [if_pos (show nI a - nI sH < 0 from by rw [z_nI, z_nI, z_sub, show (0 : Int32) = zI 0 by decide]; exact (z_lt (by omega) (by omega) (by omega) (by omega)).mpr (by omega))]
      unfold fX2_findFewest_J57
      rw [hL.h6, if_neg (nI_nlt (by omega) (by omega)), nI_1]
      exact w2
    · obtain ⟨r, hr⟩ : ∃ r, r = a - sH := ⟨_, rfl⟩
      have er : nI a - nI sH = nI r := by rw [pk_sub (by omega), hr]
      obtain ⟨T, t1, t2, t3⟩ := first_from hL hN (x := (r : Int)) (by omega) (by omega)
      rw [er, if_neg (nI_pos (by omega)), z_nI r, t2, Option.bind_some]
      unfold fX2_findFewest_J57
      rw [hL.h6]
      by_cases hT : T < 2 ^ min m 8
      · rw [if_pos (nI_lt hT (by omega)), sum_at hL hT, Option.bind_some, ← z_nI, if_nI (by have := hL.kb hT; omega) (by omega)]
        obtain ⟨lT, l1, l2, l3, l4⟩ := hL.set hT
        by_cases hsum : kj ks T / 4096 = r
        · have hl256 : lT < 256 := by omega
          have hbits := bits_at hL hT
          rw [l3] at hbits
          have hpcl := pc_le lT (min m 8)
          have hpct := pc_le t (m - 8)
          have hone2 : sI one lT 8 = sI one lT (min m 8) := by
            have := sI_ext (v := one) l1 (8 - min m 8)
            rw [show min m 8 + (8 - min m 8) = 8 by omega] at this
            exact this
          obtain ⟨sN, hsN⟩ : ∃ sN, sN = 256 * t + lT := ⟨_, rfl⟩
          have hsNin : sN < 2 ^ m := (pow_split _).mpr ⟨by rw [hsN, show (256 * t + lT) % 256 = lT by omega]; exact l1, by rw [hsN, show (256 * t + lT) / 256 = t by omega]; exact htl⟩
          obtain ⟨n1, n2, n3, n4⟩ := hnew sN hsNin (by omega)
          rw [show sN % 256 = lT by omega] at n3 n4
          have hmany : sI one t 8 + sI one lT 8 = sI one sN m := by rw [hone, hone2, n4]; omega
          -- the best of this t
          have hbest : ∀ s, s < 2 ^ m → s / 256 = t → sI v s m = a → sI one sN m < sI one s m ∨ (sI one sN m = sI one s m ∧ sN ≤ s) := fun s q1 q2 q3 => by
            obtain ⟨c1, c2, c3, c4⟩ := hnew s q1 q2
            obtain ⟨j, j1, j2⟩ := hL.ix c1
            have kp := key_parts (v := v) (cnt := 1) hL.l8 (Nat.le_refl 1) c1
            rw [← j2] at kp
            have hj := t3 j j1
            have hjT : T ≤ j := by
              rcases Nat.lt_or_ge j T with z | z
              · have := hj.mpr z; omega
              · exact z
            have hle := hL.le hjT j1
            rw [l2, j2] at hle
            unfold key at hle
            have e1 : sI v lT (min m 8) = sI v (s % 256) (min m 8) := by omega
            rw [e1] at hle
            have hc4 : sI one s m = sI one (s % 256) (min m 8) + sI one t (m - 8) := c4
            omega
          rw [if_pos hsum, q_bc h (by omega), Option.bind_some, hbits, Option.bind_some, q_bc h hl256, Option.bind_some, nI_add, hmany, Option.bind_some]
          have hor : (nI t <<< ((8 : Int32) &&& 31)) ||| nI lT = nI sN := by
            rw [show (8 : Int32) = nI 8 from rfl, x_shl (by omega) (by omega), x_or]
            congr 1
            have := or_add (a := t) (b := lT) (k := 8) (by omega)
            rw [Nat.mul_comm (2 ^ 8)] at this
            rw [this]
            omega
          rw [hor, Option.bind_some, nI_1]
          have hpcs := pc_le sN m
          cases o with
          | none =>
            obtain ⟨o', w1, w2⟩ := go (some sN) ⟨⟨hsNin, by omega, by omega⟩, fun s q => by
              by_cases e : s / 256 = t
              · exact hbest s q.1 e q.2.2
              · exact absurd ⟨q.1, by omega, q.2.2⟩ (ho s)⟩
            refine ⟨o', w1, ?_⟩
            rw [if_pos (show nI (sI one sN m) < fw (fun s => sI one s m) none from nI_lt (b := 17) (by omega) (by omega))]
            exact w2
          | some b =>
            have hpcb := pc_le b m
            have hb1 := ho.1
            by_cases hless : sI one sN m < sI one b m
            · obtain ⟨o', w1, w2⟩ := go (some sN) ⟨⟨hsNin, by omega, by omega⟩, fun s q => by
                by_cases e : s / 256 = t
                · exact hbest s q.1 e q.2.2
                · have h9 : sI one b m < sI one s m ∨ (sI one b m = sI one s m ∧ b ≤ s) := ho.2 s ⟨q.1, by omega, q.2.2⟩
                  show sI one sN m < sI one s m ∨ (sI one sN m = sI one s m ∧ sN ≤ s)
                  omega⟩
              refine ⟨o', w1, ?_⟩
              rw [if_pos (show nI (sI one sN m) < fw (fun s => sI one s m) (some b) from (nI_lt hless (by omega) : nI (sI one sN m) < nI (sI one b m)))]
              exact w2
            · obtain ⟨o', w1, w2⟩ := go (some b) ⟨⟨hb1.1, by have := hb1.2.1; omega, hb1.2.2⟩, fun s q => by
                by_cases e : s / 256 = t
                · have h9 := hbest s q.1 e q.2.2
                  have h10 := hb1.2.1
                  show sI one b m < sI one s m ∨ (sI one b m = sI one s m ∧ b ≤ s)
                  omega
                · exact ho.2 s ⟨q.1, by omega, q.2.2⟩⟩
              refine ⟨o', w1, ?_⟩
              rw [if_neg (show ¬ nI (sI one sN m) < fw (fun s => sI one s m) (some b) from (nlt_lit (by omega) (by omega) hless : ¬ nI (sI one sN m) < nI (sI one b m)))]
              exact w2
        · obtain ⟨o', w1, w2⟩ := go o (same (fun l hl hsl2 => by
            obtain ⟨j, j1, j2⟩ := hL.ix hl
            have kp := key_parts (v := v) (cnt := 1) hL.l8 (Nat.le_refl 1) hl
            rw [← j2] at kp
            have hj := t3 j j1
            have hTT := t3 T hT
            have hjT : T ≤ j := by
              rcases Nat.lt_or_ge j T with z | z
              · have := hj.mpr z; omega
              · exact z
            have hle := Nat.div_le_div_right (c := 4096) (hL.le hjT j1)
            have hTn : ¬ ((kj ks T / 4096 : Nat) : Int) < (r : Int) := fun z => by have := hTT.mp z; omega
            omega))
          refine ⟨o', w1, ?_⟩
          rw [if_neg hsum, nI_1]
          exact w2
      · obtain ⟨o', w1, w2⟩ := go o (same (fun l hl hsl2 => by
          obtain ⟨j, j1, j2⟩ := hL.ix hl
          have kp := key_parts (v := v) (cnt := 1) hL.l8 (Nat.le_refl 1) hl
          rw [← j2] at kp
          have := (t3 j j1).mpr (by omega)
          omega))
        refine ⟨o', w1, ?_⟩
        rw [if_neg (nI_nlt (by omega) (by omega)), nI_1]
        exact w2
theorem few_all (hN : 70000 ≤ N) (hm : m ≤ 16) (hv : ∀ j, j < m → v j ≤ 9999) (hc : ∀ j k, j < k → k < m → cv j < cv k) (hcb : ∀ j, j < m → cv j < 16) {a : Nat} (ha : a < 10000) {h : Hp} {K S : Nat} (hK : HK h K S) (hM : Mb h m cv v) : ∃ (h' : Hp) (K' S' : Nat) (o : Option Nat), fX2_findFewest N h (nI a) = some (0, h') ∧ HK h' K' S' ∧ Opt (fun s => s < 2 ^ m ∧ sI v s m = a) (fun s => sI one s m) o ∧ h' 12 7 = encP (o.map (fun s => sI (pw cv) s m)) ∧ (∀ q, q ≠ 12 → q ≠ 15 → q ≠ 16 → q ≠ 17 → h' q = h q) := by
  obtain ⟨h1, K1, S1, ks, a1, a2, a3, a4, a5, a6, a7⟩ := low_all (N := N) (cnt := 1) hN hm (by omega) hv hK hM
  have hM1 : Mb h1 m cv v := ⟨by rw [a6 5 (by decide) (by decide) (by decide)]; exact hM.1, fun i hi => by rw [a7 13 (by decide) (by decide) (by decide), a7 14 (by decide) (by decide) (by decide)]; exact hM.2 i hi⟩
  obtain ⟨h2, b1, b2, b3⟩ := high_all (N := N) hN hm hM1
  have hM2 : Mb h2 m cv v := ⟨by rw [b3 12 (by decide)]; exact hM1.1, fun i hi => by rw [b3 13 (by decide), b3 14 (by decide)]; exact hM1.2 i hi⟩
  have hlt := a2.1.lt
  have hL2 : LowC h2 K1 S1 ks (min m 8) 1 v := ⟨⟨a2.1, by rw [b3 12 (by decide)]; exact a2.2.1, by rw [b3 12 (by decide)]; exact a2.2.2⟩, by rw [b3 12 (by decide)]; exact a3, a4, by rw [b3 K1 (by omega)]; exact a5, by omega, by omega, fun j hj => hv j (by omega)⟩
  have hp8 : 2 ^ (m - 8) ≤ 2 ^ 8 := Nat.pow_le_pow_right (by decide) (by omega)
  obtain ⟨o, c1, c2⟩ := few_L (N := N) hN hm hv ha hL2 b2 (2 ^ (m - 8)) 0 N none (by omega) (by omega) (fun s q => by omega)
  have e0 : fX2_findFewest N h (nI a) = fX2_findFewest_L20 N (nI a) N (nI (2 ^ (m - 8))) (encP none) (fw (fun s => sI one s m) none) (nI 0) h2 := by
    unfold fX2_findFewest
    rw [show fX2_spreadLow N h 1 = some (0, h1) from a1, Option.bind_some]
    show (fX2_spreadHigh N h1).bind _ = _
    rw [b1, Option.bind_some]
    rfl
  have fin : ∀ x : Int32, HK (hset h2 12 7 x) K1 S1 ∧ (hset h2 12 7 x) 12 7 = x ∧ ∀ q, q ≠ 12 → q ≠ 15 → q ≠ 16 → q ≠ 17 → (hset h2 12 7 x) q = h q := fun x => ⟨⟨a2.1, by rw [hset_s, pk_un (by decide)]; exact hL2.hk.2.1, by rw [hset_s, pk_un (by decide)]; exact hL2.hk.2.2⟩, by rw [hset_s, pk_us], fun q q1 q2 q3 q4 => by rw [hset_o q1, b3 q q2, a7 q q1 q3 q4]⟩
  cases o with
  | none =>
    obtain ⟨f1, f2, f3⟩ := fin (-4)
    refine ⟨hset h2 12 7 (-4), K1, S1, none, ?_, f1, c1, f2, f3⟩
    rw [e0, c2, if_pos (show encP none = -4 from rfl), Option.bind_some]
  | some s =>
    have hs := c1.1.1
    have h16 : 2 ^ m ≤ 2 ^ 16 := Nat.pow_le_pow_right (by decide) hm
    have hcl := pw_lt (cv := cv) s m 16 hc hcb
    obtain ⟨f1, f2, f3⟩ := fin (nI (sI (pw cv) s m))
    refine ⟨hset h2 12 7 (nI (sI (pw cv) s m)), K1, S1, some s, ?_, f1, c1, f2, f3⟩
    rw [e0, c2, show encP (some s) = nI s from rfl, if_neg (encP_ne (by omega)), cords_all hN (by omega) hm hM2 hc hcb, Option.bind_some, Option.bind_some]
end FF
section MK
variable {k0 N : Nat} {V : Vw}
def mkP (V : Vw) (c : Nat) : Bool := isPl V c && (vVal V c).isSome
theorem q_make_L (hW : Wf k0 V) {a1 : Int32} (hN : 70000 ≤ N) : ∀ (m j fuel : Nat) (h : Hp), j + m = vN V → m < fuel → RowV (h 7) V → Mb h (idx (mkP V) j) (cvF (mkP V) (vN V)) (vI V (mkP V)) → ∃ h' : Hp, (∀ q, q ≠ 12 → q ≠ 13 → q ≠ 14 → h' q = h q) ∧ (∀ i, i ≠ 5 → h' 12 i = h 12 i) ∧ fX4_make_L22 N a1 fuel (nI j) h = ((fX2_findFewest N h' a1).bind fun z5 => (some ((z5.2 12 7), z5.2))) ∧ Mb h' (idx (mkP V) (vN V)) (cvF (mkP V) (vN V)) (vI V (mkP V)) := by
  intro m
  have hn := hW.n
  induction m with
  | zero =>
    intro j fuel h hj hf hC hM
    obtain ⟨fuel, rfl⟩ : ∃ f, fuel = f + 1 := ⟨fuel - 1, by omega⟩
    have e : j = vN V := by omega
    subst e
    refine ⟨h, fun _ _ _ _ => rfl, fun _ _ => rfl, ?_, hM⟩
    rw [fX4_make_L22, q_cords hC, if_neg (nI_nlt (by omega) (by omega))]
  | succ m ih =>
    intro j fuel h hj hf hC hM
    obtain ⟨fuel, rfl⟩ : ∃ f, fuel = f + 1 := ⟨fuel - 1, by omega⟩
    have hlt : j < vN V := by omega
    have hix := idx_s (mkP V) j
    rw [fX4_make_L22, q_cords hC, if_pos (nI_lt hlt (by omega)), q_plain hC hW hlt, b2_01, nI_1]
    have skip : mkP V j = false → ∃ h' : Hp, (∀ q, q ≠ 12 → q ≠ 13 → q ≠ 14 → h' q = h q) ∧ (∀ i, i ≠ 5 → h' 12 i = h 12 i) ∧ fX4_make_L22 N a1 fuel (nI (j + 1)) h = ((fX2_findFewest N h' a1).bind fun z5 => (some ((z5.2 12 7), z5.2))) ∧ Mb h' (idx (mkP V) (vN V)) (cvF (mkP V) (vN V)) (vI V (mkP V)) := fun hm => by
      rw [hm, if_neg (by decide), Nat.add_zero] at hix
      exact ih (j + 1) fuel h (by omega) (by omega) hC (by rw [hix]; exact hM)
    cases hp : isPl V j with
    | false => rw [if_neg (by decide)]; exact skip (by unfold mkP; rw [hp]; rfl)
    | true =>
      rw [if_pos rfl, q_value hC hW (by omega) hlt, Option.bind_some]
      cases hv : vVal V j with
      | none => rw [if_pos (show encP none = -4 from rfl)]; exact skip (by unfold mkP; rw [hv]; simp)
      | some x =>
        have hx := vVal_lt hW hlt hv
        have hm : mkP V j = true := by unfold mkP; rw [hp, hv]; rfl
        rw [hm, if_pos rfl] at hix
        have hi16 := idx_le (mkP V) j
        have ec : cvF (mkP V) (vN V) (idx (mkP V) j) = j := cv_idx _ _ hlt hm
        have ev : vI V (mkP V) (idx (mkP V) j) = x := by unfold vI vl; rw [ec, hv]; rfl
        obtain ⟨h1, a1', a2', a3', a4'⟩ := add_one (k := idx (mkP V) j) (by omega) hM
        rw [ec, ev] at a1'
        obtain ⟨h', w1, w2, w3, w4⟩ := ih (j + 1) fuel h1 (by omega) (by omega) (by rw [a4' 7 (by decide) (by decide) (by decide)]; exact hC) (by rw [hix]; exact a2')
        refine ⟨h', fun q q1 q2 q3 => by rw [w1 q q1 q2 q3, a4' q q1 q2 q3], fun i hi => by rw [w2 i hi, a3' i hi], ?_, w4⟩
        rw [show encP (some x) = nI x from rfl, if_neg (encP_ne (by omega)), Option.bind_some, a1', Option.bind_some]
        exact w3
theorem m_make_L (hW : Wf k0 V) (hN : 70000 ≤ N) {h : Hp} (hM : ModV (h 23) V) (h32 : ∀ c, c < vN V → h 32 c = encP (vVal V c)) {a1 : Int32} : ∀ (m j fuel : Nat), j + m = vN V → m < fuel → fX5_make_L22 N a1 fuel (nI (uN (mkP V) j)) (nI j) h = fX5_make_L73 N a1 N (nI (uN (mkP V) (vN V))) (-4) 0 h := by
  intro m
  have hn := hW.n
  induction m with
  | zero =>
    intro j fuel hj hf
    obtain ⟨fuel, rfl⟩ : ∃ f, fuel = f + 1 := ⟨fuel - 1, by omega⟩
    have e : j = vN V := by omega
    subst e
    rw [fX5_make_L22, hM.1, if_neg (nI_nlt (by omega) (by omega))]
  | succ m ih =>
    intro j fuel hj hf
    obtain ⟨fuel, rfl⟩ : ∃ f, fuel = f + 1 := ⟨fuel - 1, by omega⟩
    have hlt : j < vN V := by omega
    have hnx := ih (j + 1) fuel (by omega) (by omega)
    have or0 : nI (uN (mkP V) j) ||| (0 : Int32) = nI (uN (mkP V) j) := by rw [show (0 : Int32) = nI 0 from rfl, x_or, Nat.or_zero]
    rw [uN] at hnx
    rw [fX5_make_L22, hM.1, if_pos (nI_lt hlt (by omega)), m_isPlain hM hW hlt, Option.bind_some, or0, b2_01, nI_1]
    cases hp : isPl V j with
    | false =>
      rw [show mkP V j = false from by unfold mkP; rw [hp]; rfl, if_neg (by decide), Nat.add_zero] at hnx
      rw [if_neg (by decide)]
      exact hnx
    | true =>
      rw [if_pos rfl, rd_nI (by omega) (by omega), h32 j hlt, Option.bind_some]
      cases hv : vVal V j with
      | none =>
        rw [show mkP V j = false from by unfold mkP; rw [hv]; simp, if_neg (by decide), Nat.add_zero] at hnx
        rw [if_pos (show encP none = -4 from rfl)]
        exact hnx
      | some x =>
        have hx := vVal_lt hW hlt hv
        have hul := uN_lt (mkP V) j
        rw [show mkP V j = true from by unfold mkP; rw [hp, hv]; rfl, if_pos rfl] at hnx
        rw [show encP (some x) = nI x from rfl, if_neg (encP_ne (by omega)), x_shl1 (by omega), x_oradd hul, Option.bind_some]
        exact hnx
theorem m_mk_L (hW : Wf k0 V) (hN : 70000 ≤ N) {h : Hp} (hM : ModV (h 23) V) (h32 : ∀ c, c < vN V → h 32 c = encP (vVal V c)) {U : Nat} (hU : U < 2 ^ 16) (hok : ∀ c, c < vN V → U.testBit c = true → ¬ vVal V c = none) {a : Nat} (ha : a < 10000) : ∀ (m t fuel : Nat) (o : Option Nat), t + m = U + 1 → m < fuel → Opt (fun M => (subm M U ∧ sI (vl V) M (vN V) = a) ∧ M < t) (fun M => sI one M 16) o → ∃ o', Opt (fun M => subm M U ∧ sI (vl V) M (vN V) = a) (fun M => sI one M 16) o' ∧ fX5_make_L73 N (nI a) fuel (nI U) (encP o) (nI t) h = some (encP o', h) := by
  intro m
  induction m with
  | zero =>
    intro t fuel o ht hf ho
    obtain ⟨fuel, rfl⟩ : ∃ f, fuel = f + 1 := ⟨fuel - 1, by omega⟩
    refine ⟨o, ho.congr (fun M => ⟨fun q => q.1, fun q => ⟨q, by have := subm_le q.1; omega⟩⟩), ?_⟩
    rw [fX5_make_L73, if_pos (nI_lt (by omega) (by omega))]
  | succ m ih =>
    intro t fuel o ht hf ho
    obtain ⟨fuel, rfl⟩ : ∃ f, fuel = f + 1 := ⟨fuel - 1, by omega⟩
    have skip : (¬ (subm t U ∧ sI (vl V) t (vN V) = a)) → ∃ o', Opt (fun M => subm M U ∧ sI (vl V) M (vN V) = a) (fun M => sI one M 16) o' ∧ fX5_make_L73 N (nI a) fuel (nI U) (encP o) (nI (t + 1)) h = some (encP o', h) := fun hno => ih (t + 1) fuel o (by omega) (by omega) (ho.congr (fun M => ⟨fun q => ⟨q.1, by omega⟩, fun q => ⟨q.1, by
      by_cases e : M = t
      · subst e; exact absurd q.1 hno
      · omega⟩⟩))
    rw [fX5_make_L73, if_neg (nI_nlt (by omega) (by omega))]
    by_cases hs : subm t U
    · have htl := subm_le hs
      have ht := m_tell hW hN hM h32 (M := t) (by omega) (fun c hc hbit => hok c hc (hs c hbit))
      have hst := sv_le hW t
      rw [if_pos ((x_subm (by omega) (by omega)).mpr hs)]
      have take : (subm t U ∧ sI (vl V) t (vN V) = a → LexMin (fun M => (subm M U ∧ sI (vl V) M (vN V) = a) ∧ M < t + 1) (fun M => sI one M 16) t) → ∃ o', Opt (fun M => subm M U ∧ sI (vl V) M (vN V) = a) (fun M => sI one M 16) o' ∧ fX5_make_J111 N (nI a) (fX5_make_L73 N (nI a) fuel) (nI U) (encP o) (nI t) 1 h = some (encP o', h) := fun hl => by
        unfold fX5_make_J111
        rw [if_neg n10, ht, Option.bind_some, if_nI (by omega) (by omega), nI_1]
        by_cases e : sI (vl V) t (vN V) = a
        · rw [if_pos e]
          exact ih (t + 1) fuel (some t) (by omega) (by omega) (hl ⟨hs, e⟩)
        · rw [if_neg e]
          exact skip (fun q => e q.2)
      cases o with
      | none =>
        rw [if_pos (show encP none = -4 from rfl)]
        exact take (fun q => ⟨⟨q, by omega⟩, fun M q2 => by
          by_cases e : M = t
          · subst e; exact Or.inr ⟨rfl, Nat.le_refl _⟩
          · exact absurd ⟨q2.1, by omega⟩ (ho M)⟩)
      | some b =>
        have hb1 := ho.1
        have hbU := subm_le hb1.1.1
        have p1 := pc_le t 16
        have p2 := pc_le b 16
        rw [show encP (some b) = nI b from rfl, if_neg (encP_ne (by omega)), m_bitsA h hN (by omega), m_bitsA h hN (by omega), Option.bind_some, Option.bind_some]
        by_cases hless : sI one t 16 < sI one b 16
        · rw [if_pos (nI_lt hless (by omega))]
          exact take (fun q => ⟨⟨q, by omega⟩, fun M q2 => by
            by_cases e : M = t
            · subst e; exact Or.inr ⟨rfl, Nat.le_refl _⟩
            · have h9 : sI one b 16 < sI one M 16 ∨ (sI one b 16 = sI one M 16 ∧ b ≤ M) := ho.2 M ⟨q2.1, by omega⟩
              show sI one t 16 < sI one M 16 ∨ (sI one t 16 = sI one M 16 ∧ t ≤ M)
              omega⟩)
        · rw [if_neg (nlt_lit (by omega) (by omega) hless)]
          unfold fX5_make_J111
          rw [if_pos rfl, nI_1]
          exact ih (t + 1) fuel (some b) (by omega) (by omega) ⟨⟨hb1.1, by have := hb1.2; omega⟩, fun M q2 => by
            by_cases e : M = t
            · subst e
              have := hb1.2
              show sI one b 16 < sI one M 16 ∨ (sI one b 16 = sI one M 16 ∧ b ≤ M)
              omega
            · exact ho.2 M ⟨q2.1, by omega⟩⟩
    · rw [if_neg (fun q => hs ((x_subm (by omega) (by omega)).mp q))]
      unfold fX5_make_J111
      rw [if_pos rfl, nI_1]
      exact skip (fun q => hs q.1)
end MK
theorem st_make (N : Nat) (hN : 70000 ≤ N) : SF_make N RR := by
  intro k h hk hR a1
  obtain ⟨hT, hD, ⟨V, hW, hC, hM⟩, hU, hK⟩ := id hR
  have hn := hW.n
  have e9 : (9999 : Int64) = (nI 10000 - 1 : Int32).toInt64 := by decide
  rcases bd_case (n := 10000) (by omega) (by omega) a1 with ⟨a, ha, rfl, b1, b2, b3⟩ | b1 | ⟨b1, b2, b3⟩
  · obtain ⟨K, S, hKS⟩ := hD.hk
    obtain ⟨h0, hh0⟩ : ∃ h0, h0 = hset h 12 5 0 := ⟨_, rfl⟩
    have f0 : ∀ q, q ≠ 12 → h0 q = h q := fun q hq => by rw [hh0, hset_o hq]
    have f012 : ∀ i, i ≠ 5 → h0 12 i = h 12 i := fun i hi => by rw [hh0, hset_s, pk_un hi]
    obtain ⟨h1, w1, w2, w3, w4⟩ := q_make_L (N := N) (a1 := nI a) hW hN (vN V) 0 N h0 (by omega) (by omega) (by rw [f0 7 (by decide)]; exact hC) ⟨by rw [hh0, hset_s, pk_us]; rfl, fun i hi => by have : i < 0 := hi; omega⟩
    have hK1 : HK h1 K S := ⟨hKS.1, by rw [w2 3 (by decide), f012 3 (by decide)]; exact hKS.2.1, by rw [w2 4 (by decide), f012 4 (by decide)]; exact hKS.2.2⟩
    have hm16 : idx (mkP V) (vN V) ≤ 16 := Nat.le_trans (idx_le _ _) hn
    have hvb : ∀ j, j < idx (mkP V) (vN V) → vI V (mkP V) j ≤ 9999 := fun j hj => vl_lt hW (cv_at _ _ hj).1
    obtain ⟨h2, K', S', o, y1, y2, y3, y4, y6⟩ := few_all (N := N) hN hm16 hvb (fun j k q1 q2 => cv_lt _ _ q1 q2) (fun j hj => by have := (cv_at (mkP V) (vN V) hj).1; omega) ha hK1 w4
    have h23 : h2 23 = h 23 := by rw [y6 23 (by decide) (by decide) (by decide) (by decide), w1 23 (by decide) (by decide) (by decide), f0 23 (by decide)]
    have hM2 : ModV (h2 23) V := by rw [h23]; exact hM
    obtain ⟨hm, m1, m2, m3⟩ := m_lay hW hN hM2
    have hMm : ModV (hm 23) V := by rw [m3 23 (by decide)]; exact hM2
    have hul := uN_lt (mkP V) (vN V)
    have hU16 : uN (mkP V) (vN V) < 2 ^ 16 := Nat.lt_of_lt_of_le hul (Nat.pow_le_pow_right (by decide) hn)
    have hokU : ∀ c, c < vN V → (uN (mkP V) (vN V)).testBit c = true → ¬ vVal V c = none := fun c hc hb hv => by
      rw [uN_bit, Bool.and_eq_true] at hb
      have := hb.2
      unfold mkP at this
      rw [hv] at this
      simp at this
    obtain ⟨o2, p1, p2⟩ := m_mk_L (N := N) hW hN hMm m2 hU16 hokU ha (uN (mkP V) (vN V) + 1) 0 N none (by omega) (by omega) (fun M q => by omega)
    have hvi : ∀ b, b < vN V → mkP V b = true → vI V (mkP V) (idx (mkP V) b) = vl V b := fun b hb hmb => by unfold vI; rw [cv_idx _ _ hb hmb]
    have hPQ : ∀ t, t < 2 ^ idx (mkP V) (vN V) → (sI (vI V (mkP V)) t (idx (mkP V) (vN V)) = a ↔ sI (vl V) (asN (mkP V) t (vN V)) (vN V) = a) := fun t ht => by rw [sI_as (mkP V) t (vN V) hvi]
    have hfg : ∀ t, t < 2 ^ idx (mkP V) (vN V) → sI one t (idx (mkP V) (vN V)) = sI one (asN (mkP V) t (vN V)) 16 := fun t ht => by
      have e1 := sI_as (mkP V) (v := one) (val := one) t (vN V) (fun b _ _ => rfl)
      have e2 := sI_ext (v := one) (asN_lt (mkP V) t (vN V)) (16 - vN V)
      rw [show vN V + (16 - vN V) = 16 by omega] at e2
      rw [e2, e1]
    have hoo : encP o2 = encP (o.map (fun s => sI (pw (cvF (mkP V) (vN V))) s (idx (mkP V) (vN V)))) := by
      cases o with
      | none =>
        cases o2 with
        | none => rfl
        | some M =>
          exfalso
          obtain ⟨q1, q2⟩ := p1.1
          have hc := cmpN_lt (mkP V) M (vN V)
          have e := asN_cmp (mkP V) q1
          exact y3 _ ⟨hc, (hPQ _ hc).mpr (by rw [e]; exact q2)⟩
      | some s =>
        have hl := lex_as (mkP V) (P := fun t => sI (vI V (mkP V)) t (idx (mkP V) (vN V)) = a) (Q := fun M => sI (vl V) M (vN V) = a) (f := fun s => sI one s (idx (mkP V) (vN V))) (g := fun M => sI one M 16) (n := vN V) y3 hPQ hfg
        have e : o2 = some (asN (mkP V) s (vN V)) := Opt.uniq p1 (show Opt _ _ (some _) from hl)
        rw [e]
        show nI _ = nI _
        rw [asN_pw]
    refine ⟨encP o2, h2, hm, ?_, ?_, RR_sets hR (K := K') (S := S') ⟨y2.1, by rw [m3 12 (by decide)]; exact y2.2.1, by rw [m3 12 (by decide)]; exact y2.2.2⟩ (fun q q1 q2 q3 q4 q5 q6 q7 => by rw [m3 q q7, y6 q q1 q4 q5 q6, w1 q q1 q2 q3, f0 q q1])⟩
    · unfold fX4_make fX2_clear
      rw [if_neg b1, if_neg (show ¬ (9999 : Int32) < nI a from b2), Option.bind_some, Option.bind_some, ← hh0]
      refine (show fX4_make_L22 N (nI a) N 0 h0 = _ from w3).trans ?_
      rw [y1, Option.bind_some]
      show some (h2 12 7, h2) = _
      rw [y4, hoo]
    · unfold fX5_make
      rw [e9, in_bd1 (by omega) ha, if_neg n10, m1, Option.bind_some]
      have := m_make_L (N := N) (a1 := nI a) hW hN hMm m2 (vN V) 0 N (by omega) (by omega)
      exact (show fX5_make_L22 N (nI a) N 0 0 hm = _ from this).trans p2
  · refine ⟨-1, h, h, ?_, ?_, RR_mono k h hR⟩
    · unfold fX4_make; rw [if_pos b1]
    · unfold fX5_make; rw [e9, in_bd (by omega) (Or.inl b1), if_pos rfl]
  · refine ⟨-1, h, h, ?_, ?_, RR_mono k h hR⟩
    · unfold fX4_make; rw [if_neg b1, if_pos (show (9999 : Int32) < a1 from b2)]
    · unfold fX5_make; rw [e9, in_bd (by omega) (Or.inr ⟨b1, b2, b3⟩), if_pos rfl]
