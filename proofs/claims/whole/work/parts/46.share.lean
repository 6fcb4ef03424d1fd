/-! share: the set found by halves, and the set found among all -/
def tv (v : Nat → Nat) : Nat → Nat
  | 0 => 0
  | i + 1 => tv v i + v i
theorem tv_le {v : Nat → Nat} {K : Nat} : ∀ n, (∀ i, i < n → v i ≤ K) → tv v n ≤ n * K
  | 0, _ => by rw [tv]; omega
  | n + 1, h => by
    have h1 := tv_le n (fun i hi => h i (by omega))
    have h2 := h n (by omega)
    rw [tv, Nat.succ_mul]
    omega
theorem sI_le_tv {v : Nat → Nat} (s : Nat) : ∀ n, sI v s n ≤ tv v n
  | 0 => Nat.le_refl _
  | n + 1 => by
    have := sI_le_tv (v := v) s n
    rw [sI, tv]
    split <;> omega
theorem sI_split {v : Nat → Nat} {m hh l : Nat} (hl : l < 2 ^ min m 8) (hh2 : hh < 2 ^ (m - 8)) : sI v (256 * hh + l) m = sI v l (min m 8) + sI (v8 v) hh (m - 8) := by
  by_cases hm : m ≤ 8
  · have e1 : min m 8 = m := by omega
    have e2 : m - 8 = 0 := by omega
    rw [e2] at hh2 ⊢
    have : hh = 0 := by simpa using hh2
    subst this
    rw [e1, sI, Nat.mul_zero, Nat.zero_add, Nat.add_zero]
  · have e1 : min m 8 = 8 := by omega
    rw [e1] at hl ⊢
    have hb : ∀ j, (256 * hh + l).testBit j = if j < 8 then l.testBit j else hh.testBit (j - 8) := fun j => by
      have := Nat.testBit_two_pow_mul_add hh (b := l) (i := 8) hl j
      exact this
    have key : ∀ j, sI v (256 * hh + l) (8 + j) = sI v l 8 + sI (v8 v) hh j := by
      intro j
      induction j with
      | zero =>
        show sI v (256 * hh + l) 8 = sI v l 8 + 0
        rw [Nat.add_zero]
        exact sI_congr 8 (fun i hi => by rw [hb, if_pos hi])
      | succ j ih =>
        show sI v (256 * hh + l) (8 + j) + (if (256 * hh + l).testBit (8 + j) = true then v (8 + j) else 0) = sI v l 8 + (sI (v8 v) hh j + if hh.testBit j = true then v8 v j else 0)
        have hbj : (256 * hh + l).testBit (8 + j) = hh.testBit j := by rw [hb, if_neg (by omega), show 8 + j - 8 = j by omega]
        rw [ih, hbj]
        unfold v8
        omega
    have := key (m - 8)
    rw [show 8 + (m - 8) = m by omega] at this
    exact this
theorem pow_split {m : Nat} (s : Nat) : s < 2 ^ m ↔ s % 256 < 2 ^ min m 8 ∧ s / 256 < 2 ^ (m - 8) := by
  by_cases hm : m ≤ 8
  · have e1 : min m 8 = m := by omega
    have e2 : m - 8 = 0 := by omega
    have h2 : 2 ^ m ≤ 2 ^ 8 := Nat.pow_le_pow_right (by decide) hm
    rw [e1, e2, Nat.pow_zero]
    omega
  · have e1 : min m 8 = 8 := by omega
    have e3 : 2 ^ m = 256 * 2 ^ (m - 8) := by
      have : m = 8 + (m - 8) := by omega
      rw [this, Nat.pow_add, show 8 + (m - 8) - 8 = m - 8 by omega]
    rw [e1, e3]
    have := Nat.mod_lt s (show 0 < 256 by decide)
    constructor
    · intro h
      exact ⟨by omega, Nat.div_lt_of_lt_mul h⟩
    · rintro ⟨-, h⟩
      have h3 : s / 256 + 1 ≤ 2 ^ (m - 8) := h
      have h4 : 256 * (s / 256 + 1) ≤ 256 * 2 ^ (m - 8) := Nat.mul_le_mul_left _ h3
      omega
/-- how unlike the set and all others are -/
def Fs (v : Nat → Nat) (m : Nat) (s : Nat) : Nat := ((tv v m : Int) - 2 * (sI v s m : Nat)).natAbs
section FE
variable {N m : Nat} {cv v : Nat → Nat}
theorem even_L (hN : 70000 ≤ N) (hm : m ≤ 16) (hv : ∀ j, j < m → v j ≤ 9999) {K S : Nat} {ks : List Nat} : ∀ (k t fuel : Nat) (h : Hp) (best unl : Nat), t + k = 2 ^ (m - 8) → k < fuel → LowC h K S ks (min m 8) 0 v → Hs h v (m - 8) → h 12 8 = nI unl → unl = Fs v m best → LexMin (fun s => s = 0 ∨ (s < 2 ^ m ∧ s / 256 < t)) (Fs v m) best → ∃ (h' : Hp) (best' : Nat), fX2_findEvenest_L49 N fuel (nI (2 ^ (m - 8))) (nI (tv v m)) (nI best) (nI t) h = ((fX2_asCords N h' (nI best')).bind fun v8 => ((some (hset h' 12 7 v8)).bind fun g9 => (some (0, g9)))) ∧ h' 12 8 = nI (Fs v m best') ∧ LexMin (fun s => s < 2 ^ m) (Fs v m) best' ∧ (∀ i, i ≠ 8 → h' 12 i = h 12 i) ∧ (∀ q, q ≠ 12 → h' q = h q) := by
  intro k
  have h2 : 2 ^ (m - 8) ≤ 2 ^ 8 := Nat.pow_le_pow_right (by decide) (by omega)
  have htv := tv_le (v := v) (K := 9999) m hv
  have hm9 : m * 9999 ≤ 16 * 9999 := Nat.mul_le_mul_right _ hm
  induction k with
  | zero =>
    intro t fuel h best unl ht hf hL hH h8 hu hb
    obtain ⟨fuel, rfl⟩ : ∃ f, fuel = f + 1 := ⟨fuel - 1, by omega⟩
    refine ⟨h, best, ?_, by rw [h8, hu], hb.congr (fun s => ⟨?_, ?_⟩), fun _ _ => rfl, fun _ _ => rfl⟩
    · rw [fX2_findEvenest_L49, if_neg (nI_nlt (by omega) (by omega))]
    · rintro (q | q)
      · subst q; exact Nat.pow_pos (by decide)
      · exact q.1
    · intro q
      have := (pow_split s).mp q
      exact Or.inr ⟨q, by omega⟩
  | succ k ih =>
    intro t fuel h best unl ht hf hL hH h8 hu hb
    obtain ⟨fuel, rfl⟩ : ∃ f, fuel = f + 1 := ⟨fuel - 1, by omega⟩
    have htl : t < 2 ^ (m - 8) := by omega
    obtain ⟨w, hw⟩ : ∃ w : Int, w = (tv v m : Int) - 2 * (sI (v8 v) t (m - 8) : Nat) := ⟨_, rfl⟩
    have hsl : sI (v8 v) t (m - 8) ≤ 8 * 9999 := by
      have h1 := sI_le (v := v8 v) (K := 9999) t (m - 8) (fun i hi => hv (8 + i) (by omega))
      exact Nat.le_trans h1 (Nat.mul_le_mul_right _ (by omega))
    have ew : nI (tv v m) - 2 * atF h 15 256 (nI t) = zI w := by
      rw [at_nI (by omega) (by omega), hH t htl, show (2 : Int32) = nI 2 from rfl, pk_mul, z_nI, z_nI, z_sub, hw]
      congr 1
    have hFe : ∀ l, l < 2 ^ min m 8 → Fs v m (256 * t + l) = Fw v (min m 8) w l := fun l hl => by
      unfold Fs Fw
      rw [sI_split hl htl, hw]
      congr 1
      have e1 : ((sI v l (min m 8) + sI (v8 v) t (m - 8) : Nat) : Int) = (sI v l (min m 8) : Nat) + (sI (v8 v) t (m - 8) : Nat) := Int.natCast_add _ _
      rw [e1]
      generalize ((sI v l (min m 8) : Nat) : Int) = a
      generalize ((sI (v8 v) t (m - 8) : Nat) : Int) = b
      omega
    have hFb : Fs v m best < 2 ^ 30 := by
      unfold Fs
      have := sI_le_tv (v := v) best m
      omega
    obtain ⟨T, B, l, b1, b2, b3, b4, b5, b6⟩ := better_spec (N := N) hL hN (w := w) (by omega) (by omega) (hh := t) (best := best) (by omega) (unl := unl) h8 (by omega)
    have hl := b5.1
    have hl256 : l < 256 := by
      have : 2 ^ min m 8 ≤ 2 ^ 8 := Nat.pow_le_pow_right (by decide) (by omega)
      omega
    have hcall : ∀ (X : Option Rs), (fX2_findEvenest_J108 N (fX2_findEvenest_L49 N fuel) (nI (2 ^ (m - 8))) (nI (tv v m)) (nI best) (nI t) (zI w) (nI T) (nI B) h = X) → fX2_findEvenest_L49 N (fuel + 1) (nI (2 ^ (m - 8))) (nI (tv v m)) (nI best) (nI t) h = X := fun X hX => by
      rw [fX2_findEvenest_L49, if_pos (nI_lt htl (by omega)), ew, Option.bind_some, b2, Option.bind_some]
      by_cases hT : 0 < T
      · obtain ⟨s6, c1, c2⟩ := b3 hT
        rw [if_pos (show (0 : Int32) < nI T from nI_lt (a := 0) hT (by have := hL.p8; omega)), c1, Option.bind_some, c2, Option.bind_some]
        exact hX
      · have hT0 : T = 0 := by omega
        rw [if_neg (show ¬ (0 : Int32) < nI T from nlt_lit (a := 0) (by omega) (by omega) hT)]
        have hBT := b4 hT0
        rw [hBT] at hX
        exact hX
    -- the sets of this t
    have hold : ∀ s, (s = 0 ∨ (s < 2 ^ m ∧ s / 256 < t)) → s < 256 * t ∨ s = 0 := fun s q => by
      rcases q with q | q
      · exact Or.inr q
      · left; omega
    have hnew : ∀ s, s < 2 ^ m → s / 256 = t → s % 256 < 2 ^ min m 8 ∧ s = 256 * t + s % 256 := fun s q1 q2 => ⟨((pow_split s).mp q1).1, by omega⟩
    have hin : 256 * t + l < 2 ^ m := (pow_split _).mpr ⟨by rw [show (256 * t + l) % 256 = l by omega]; exact hl, by rw [show (256 * t + l) / 256 = t by omega]; exact htl⟩
    by_cases hF : Fw v (min m 8) w l < unl
    · rw [if_pos hF] at b6
      have hL' : LowC (hset h 12 8 (nI (Fw v (min m 8) w l))) K S ks (min m 8) 0 v := ⟨⟨hL.hk.1, by rw [hset_s, pk_un (by decide)]; exact hL.hk.2.1, by rw [hset_s, pk_un (by decide)]; exact hL.hk.2.2⟩, by rw [hset_s, pk_un (by decide)]; exact hL.h6, hL.ok, by have := hL.hk.1.lt; rw [hset_o (by omega)]; exact hL.sg, hL.l8, hL.c1, hL.vb⟩
      obtain ⟨h', best', y1, y2, y3, y4, y5⟩ := ih (t + 1) fuel (hset h 12 8 (nI (Fw v (min m 8) w l))) (256 * t + l) (Fw v (min m 8) w l) (by omega) (by omega) hL' (fun s hs => by rw [hset_o (by decide)]; exact hH s hs) (by rw [hset_s, pk_us]) (hFe l hl).symm ⟨Or.inr ⟨hin, by omega⟩, fun s q => by
        rcases q with q | ⟨q1, q2⟩
        · have := hb.2 s (Or.inl q)
          have := hFe l hl
          omega
        · by_cases e : s / 256 = t
          · obtain ⟨c1, c2⟩ := hnew s q1 e
            have c3 := b5.2 _ c1
            have c4 := hFe _ c1
            rw [← c2] at c4
            have := hFe l hl
            omega
          · have := hb.2 s (Or.inr ⟨q1, by omega⟩)
            have := hFe l hl
            omega⟩
      refine ⟨h', best', hcall _ ?_, y2, y3, fun i hi => by rw [y4 i hi, hset_s, pk_un hi], fun q hq => by rw [y5 q hq, hset_o hq]⟩
      unfold fX2_findEvenest_J108
      rw [b6, Option.bind_some, nI_1]
      exact y1
    · rw [if_neg hF] at b6
      obtain ⟨h', best', y1, y2, y3, y4, y5⟩ := ih (t + 1) fuel h best unl (by omega) (by omega) hL hH h8 hu ⟨hb.1.elim Or.inl (fun q => Or.inr ⟨q.1, by omega⟩), fun s q => by
        rcases q with q | ⟨q1, q2⟩
        · exact hb.2 s (Or.inl q)
        · by_cases e : s / 256 = t
          · obtain ⟨c1, c2⟩ := hnew s q1 e
            have c3 := b5.2 _ c1
            have c4 := hFe _ c1
            rw [← c2] at c4
            have c5 := hold best hb.1
            omega
          · exact hb.2 s (Or.inr ⟨q1, by omega⟩)⟩
      refine ⟨h', best', hcall _ ?_, y2, y3, y4, y5⟩
      unfold fX2_findEvenest_J108
      rw [b6, Option.bind_some, nI_1]
      exact y1
def pw (cv : Nat → Nat) : Nat → Nat := fun j => 2 ^ cv j
theorem pw_lt {cv : Nat → Nat} (s : Nat) : ∀ (i b : Nat), (∀ j k, j < k → k < i → cv j < cv k) → (∀ j, j < i → cv j < b) → sI (pw cv) s i < 2 ^ b
  | 0, b, _, _ => by rw [sI]; exact Nat.pow_pos (by decide)
  | i + 1, b, hc, hb => by
    have h1 := pw_lt s i (cv i) (fun j k q1 q2 => hc j k q1 (by omega)) (fun j hj => hc j i hj (by omega))
    have h2 : 2 ^ (cv i + 1) ≤ 2 ^ b := Nat.pow_le_pow_right (by decide) (hb i (by omega))
    rw [Nat.pow_succ] at h2
    rw [sI]
    show sI (pw cv) s i + (if s.testBit i = true then 2 ^ cv i else 0) < 2 ^ b
    split <;> omega
theorem cords_L {h : Hp} {s : Nat} (hs : s < 2 ^ 20) (hm : m ≤ 16) (hM : Mb h m cv v) (hc : ∀ j k, j < k → k < m → cv j < cv k) (hcb : ∀ j, j < m → cv j < 16) : ∀ (k i fuel : Nat), i + k = m → k < fuel → fX2_asCords_L4 N h (nI s) fuel (nI (sI (pw cv) s i)) (nI i) = some (nI (sI (pw cv) s m)) := by
  intro k
  induction k with
  | zero =>
    intro i fuel hi hf
    obtain ⟨fuel, rfl⟩ : ∃ f, fuel = f + 1 := ⟨fuel - 1, by omega⟩
    rw [fX2_asCords_L4, hM.1, if_neg (nI_nlt (by omega) (by omega)), show i = m by omega]
  | succ k ih =>
    intro i fuel hi hf
    obtain ⟨fuel, rfl⟩ : ∃ f, fuel = f + 1 := ⟨fuel - 1, by omega⟩
    have him : i < m := by omega
    have hci := hcb i him
    have hp : 2 ^ cv i ≤ 2 ^ 15 := Nat.pow_le_pow_right (by decide) (by omega)
    have hlt := pw_lt (cv := cv) s i (cv i) (fun j k q1 q2 => hc j k q1 (by omega)) (fun j hj => hc j i hj him)
    have e : nI (sI (pw cv) s i) ||| (((nI s >>> (nI i &&& 31)) &&& 1) <<< ((atF h 13 16 (nI i)) &&& 31)) = nI (sI (pw cv) s (i + 1)) := by
      rw [x_bit (by omega) (by omega), at_nI (by omega) (by omega), (hM.2 i him).1, sI]
      show _ = nI (sI (pw cv) s i + if s.testBit i = true then 2 ^ cv i else 0)
      by_cases hb : s.testBit i = true
      · rw [if_pos hb, if_pos hb, x_shl (by omega) (by omega), Nat.one_mul, x_oradd hlt]
      · rw [if_neg hb, if_neg hb, x_shl (by omega) (by omega), Nat.zero_mul, x_or, Nat.or_zero, Nat.add_zero]
    rw [fX2_asCords_L4, hM.1, if_pos (nI_lt him (by omega)), e, Option.bind_some, nI_1]
    exact ih (i + 1) fuel (by omega) (by omega)
theorem cords_all {h : Hp} {s : Nat} (hN : 70000 ≤ N) (hs : s < 2 ^ 20) (hm : m ≤ 16) (hM : Mb h m cv v) (hc : ∀ j k, j < k → k < m → cv j < cv k) (hcb : ∀ j, j < m → cv j < 16) : fX2_asCords N h (nI s) = some (nI (sI (pw cv) s m)) := cords_L hs hm hM hc hcb m 0 N (by omega) (by omega)
theorem tot_L {h : Hp} {u1 : Int32} (hm : m ≤ 16) (hM : Mb h m cv v) : ∀ (k i fuel : Nat), i + k = m → k < fuel → fX2_findEvenest_L14 N fuel u1 (nI (tv v i)) (nI i) h = fX2_findEvenest_L49 N N u1 (nI (tv v m)) 0 0 (hset h 12 8 (nI (tv v m))) := by
  intro k
  induction k with
  | zero =>
    intro i fuel hi hf
    obtain ⟨fuel, rfl⟩ : ∃ f, fuel = f + 1 := ⟨fuel - 1, by omega⟩
    rw [fX2_findEvenest_L14, hM.1, if_neg (nI_nlt (by omega) (by omega)), Option.bind_some, show i = m by omega]
  | succ k ih =>
    intro i fuel hi hf
    obtain ⟨fuel, rfl⟩ : ∃ f, fuel = f + 1 := ⟨fuel - 1, by omega⟩
    have him : i < m := by omega
    rw [fX2_findEvenest_L14, hM.1, if_pos (nI_lt him (by omega)), at_nI (by omega) (by omega), (hM.2 i him).2, nI_add, nI_1]
    exact ih (i + 1) fuel (by omega) (by omega)
theorem even_all (hN : 70000 ≤ N) (hm : m ≤ 16) (hv : ∀ j, j < m → v j ≤ 9999) (hc : ∀ j k, j < k → k < m → cv j < cv k) (hcb : ∀ j, j < m → cv j < 16) {h : Hp} {K S : Nat} (hK : HK h K S) (hM : Mb h m cv v) : ∃ (h' : Hp) (K' S' s : Nat), fX2_findEvenest N h = some (0, h') ∧ HK h' K' S' ∧ LexMin (fun s => s < 2 ^ m) (Fs v m) s ∧ h' 12 7 = nI (sI (pw cv) s m) ∧ h' 12 8 = nI (Fs v m s) ∧ (∀ q, q ≠ 12 → q ≠ 15 → q ≠ 16 → q ≠ 17 → h' q = h q) := by
  obtain ⟨h1, K1, S1, ks, a1, a2, a3, a4, a5, a6, a7⟩ := low_all (N := N) (cnt := 0) hN hm (by omega) hv hK hM
  have hM1 : Mb h1 m cv v := ⟨by rw [a6 5 (by decide) (by decide) (by decide)]; exact hM.1, fun i hi => by rw [a7 13 (by decide) (by decide) (by decide), a7 14 (by decide) (by decide) (by decide)]; exact hM.2 i hi⟩
  obtain ⟨h2, b1, b2, b3⟩ := high_all (N := N) hN hm hM1
  have hM2 : Mb h2 m cv v := ⟨by rw [b3 12 (by decide)]; exact hM1.1, fun i hi => by rw [b3 13 (by decide), b3 14 (by decide)]; exact hM1.2 i hi⟩
  have hlt := a2.1.lt
  obtain ⟨h3, hh3⟩ : ∃ h3, h3 = hset h2 12 8 (nI (tv v m)) := ⟨_, rfl⟩
  have f12 : ∀ i, i ≠ 8 → h3 12 i = h2 12 i := fun i hi => by rw [hh3, hset_s, pk_un hi]
  have fo : ∀ q, q ≠ 12 → h3 q = h2 q := fun q hq => by rw [hh3, hset_o hq]
  have hL3 : LowC h3 K1 S1 ks (min m 8) 0 v := ⟨⟨a2.1, by rw [f12 3 (by decide), b3 12 (by decide)]; exact a2.2.1, by rw [f12 4 (by decide), b3 12 (by decide)]; exact a2.2.2⟩, by rw [f12 6 (by decide), b3 12 (by decide)]; exact a3, a4, by rw [fo K1 (by omega), b3 K1 (by omega)]; exact a5, by omega, by omega, fun j hj => hv j (by omega)⟩
  have hF0 : Fs v m 0 = tv v m := by
    have : sI v 0 m = 0 := by
      have : ∀ n, sI v 0 n = 0 := fun n => by
        induction n with
        | zero => rfl
        | succ n ih => rw [sI, ih, Nat.zero_testBit]; rfl
      exact this m
    unfold Fs
    rw [this]
    omega
  have hp8 : 2 ^ (m - 8) ≤ 2 ^ 8 := Nat.pow_le_pow_right (by decide) (by omega)
  obtain ⟨h4, s, c1, c2, c3, c4, c5⟩ := even_L (N := N) (K := K1) (S := S1) (ks := ks) hN hm hv (2 ^ (m - 8)) 0 N h3 0 (tv v m) (by omega) (by omega) hL3 (fun t ht => by rw [fo 15 (by decide)]; exact b2 t ht) (by rw [hh3, hset_s, pk_us]) hF0.symm ⟨Or.inl rfl, fun t q => by
    rcases q with q | ⟨q1, q2⟩
    · subst q; exact Or.inr ⟨rfl, Nat.le_refl _⟩
    · omega⟩
  have hM4 : Mb h4 m cv v := ⟨by rw [c4 5 (by decide), f12 5 (by decide)]; exact hM2.1, fun i hi => by rw [c5 13 (by decide), c5 14 (by decide), fo 13 (by decide), fo 14 (by decide)]; exact hM2.2 i hi⟩
  have hs20 : s < 2 ^ 20 := by
    have h5 := c3.1
    have : 2 ^ m ≤ 2 ^ 16 := Nat.pow_le_pow_right (by decide) hm
    omega
  refine ⟨hset h4 12 7 (nI (sI (pw cv) s m)), K1, S1, s, ?_, ⟨a2.1, by rw [hset_s, pk_un (by decide), c4 3 (by decide)]; exact hL3.hk.2.1, by rw [hset_s, pk_un (by decide), c4 4 (by decide)]; exact hL3.hk.2.2⟩, c3, by rw [hset_s, pk_us], by rw [hset_s, pk_un (by decide), c2], fun q q1 q2 q3 q4 => by rw [hset_o q1, c5 q q1, fo q q1, b3 q q2, a7 q q1 q3 q4]⟩
  unfold fX2_findEvenest
  rw [show fX2_spreadLow N h 0 = some (0, h1) from a1, Option.bind_some]
  show (fX2_spreadHigh N h1).bind _ = _
  rw [b1, Option.bind_some]
  show fX2_findEvenest_L14 N N (nI (2 ^ (m - 8))) (nI (tv v 0)) (nI 0) h2 = _
  rw [tot_L hm hM2 m 0 N (by omega) (by omega), ← hh3]
  refine (show fX2_findEvenest_L49 N N (nI (2 ^ (m - 8))) (nI (tv v m)) 0 0 h3 = _ from c1).trans ?_
  rw [cords_all hN hs20 hm hM4 hc hcb]
  rfl
end FE
