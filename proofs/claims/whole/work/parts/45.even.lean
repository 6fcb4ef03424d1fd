/-! the sums of the higher half; the key next to half of what is wanted -/
def v8 (v : Nat → Nat) : Nat → Nat := fun j => v (8 + j)
def Hs (h : Hp) (v : Nat → Nat) (j : Nat) : Prop := ∀ s, s < 2 ^ j → h 15 s = nI (sI (v8 v) s j)
theorem high_K {N m j : Nat} {cv v : Nat → Nat} (hj : 8 + j < m) (hm : m ≤ 16) (k14 : Int32 → Int32 → Hp → Option Rs) : ∀ (k s fuel : Nat) (h : Hp), s + k = 2 ^ j → k < fuel → Mb h m cv v → Hs h v j → (∀ t, t < s → h 15 (2 ^ j + t) = nI (sI (v8 v) (2 ^ j + t) (j + 1))) → ∃ h' : Hp, fX2_spreadHigh_L30 N k14 fuel (nI (2 ^ j)) (nI (8 + j)) (nI s) h = k14 (nI (2 ^ (j + 1))) (nI (8 + (j + 1))) h' ∧ Hs h' v (j + 1) ∧ (∀ q, q ≠ 15 → h' q = h q) := by
  intro k
  have h2 : 2 ^ j ≤ 2 ^ 7 := Nat.pow_le_pow_right (by decide) (by omega)
  have hlo : ∀ s, s < 2 ^ j → sI (v8 v) s (j + 1) = sI (v8 v) s j := fun s hs => by rw [sI, Nat.testBit_lt_two_pow hs]; rfl
  have hhi : ∀ s, s < 2 ^ j → sI (v8 v) (2 ^ j + s) (j + 1) = sI (v8 v) s j + v (8 + j) := fun s hs => by
    rw [sI, Nat.testBit_two_pow_add_eq, Nat.testBit_lt_two_pow hs, sI_congr (s := 2 ^ j + s) (t := s) j (fun i hi => Nat.testBit_two_pow_add_gt hi s)]
    rfl
  induction k with
  | zero =>
    intro s fuel h hs hf hM hH hd
    obtain ⟨fuel, rfl⟩ : ∃ f, fuel = f + 1 := ⟨fuel - 1, by omega⟩
    refine ⟨h, ?_, fun t ht => ?_, fun _ _ => rfl⟩
    · rw [fX2_spreadHigh_L30, if_neg (nI_nlt (by omega) (by omega)), show (2 : Int32) = nI 2 from rfl, pk_mul, nI_1, Nat.pow_succ]
      rfl
    · rw [Nat.pow_succ] at ht
      by_cases q : t < 2 ^ j
      · rw [hH t q, hlo t q]
      · obtain ⟨u, rfl⟩ : ∃ u, t = 2 ^ j + u := ⟨t - 2 ^ j, by omega⟩
        exact hd u (by omega)
  | succ k ih =>
    intro s fuel h hs hf hM hH hd
    obtain ⟨fuel, rfl⟩ : ∃ f, fuel = f + 1 := ⟨fuel - 1, by omega⟩
    have hsl : s < 2 ^ j := by omega
    obtain ⟨h', w1, w2, w3⟩ := ih (s + 1) fuel (hset h 15 (2 ^ j + s) (nI (sI (v8 v) (2 ^ j + s) (j + 1)))) (by omega) (by omega) ⟨by rw [hset_o (by decide)]; exact hM.1, fun i hi => by rw [hset_o (by decide), hset_o (by decide)]; exact hM.2 i hi⟩ (fun t ht => by rw [hset_s, pk_un (by omega)]; exact hH t ht) (fun t ht => by
      rw [hset_s]
      by_cases e : t = s
      · subst e; rw [pk_us]
      · rw [pk_un (by omega)]; exact hd t (by omega))
    refine ⟨h', ?_, w2, fun q hq => by rw [w3 q hq, hset_o hq]⟩
    rw [fX2_spreadHigh_L30, if_pos (nI_lt hsl (by omega)), nI_add, at_nI (by omega) (by omega), at_nI (by omega) (by omega), put_nI (by omega) (by omega), Option.bind_some, hH s hsl, (hM.2 (8 + j) hj).2, nI_add, nI_1, ← hhi s hsl]
    exact w1
theorem high_L {N m : Nat} {cv v : Nat → Nat} (hN : 70000 ≤ N) (hm : m ≤ 16) : ∀ (k j fuel : Nat) (h : Hp), j + k = m - 8 → k < fuel → Mb h m cv v → Hs h v j → ∃ h' : Hp, fX2_spreadHigh_L14 N fuel (nI (2 ^ j)) (nI (8 + j)) h = some (nI (2 ^ (m - 8)), h') ∧ Hs h' v (m - 8) ∧ (∀ q, q ≠ 15 → h' q = h q) := by
  intro k
  induction k with
  | zero =>
    intro j fuel h hj hf hM hH
    obtain ⟨fuel, rfl⟩ : ∃ f, fuel = f + 1 := ⟨fuel - 1, by omega⟩
    have e : j = m - 8 := by omega
    subst e
    refine ⟨h, ?_, hH, fun _ _ => rfl⟩
    rw [fX2_spreadHigh_L14, hM.1, if_neg (nI_nlt (by omega) (by omega))]
  | succ k ih =>
    intro j fuel h hj hf hM hH
    obtain ⟨fuel, rfl⟩ : ∃ f, fuel = f + 1 := ⟨fuel - 1, by omega⟩
    have h2 : 2 ^ j ≤ 2 ^ 7 := Nat.pow_le_pow_right (by decide) (by omega)
    obtain ⟨h1, w1, w2, w3⟩ := high_K (N := N) (m := m) (j := j) (cv := cv) (v := v) (by omega) hm (fX2_spreadHigh_L14 N fuel) (2 ^ j) 0 N h (by omega) (by omega) hM hH (fun t ht => by omega)
    obtain ⟨h', y1, y2, y3⟩ := ih (j + 1) fuel h1 (by omega) (by omega) ⟨by rw [w3 12 (by decide)]; exact hM.1, fun i hi => by rw [w3 13 (by decide), w3 14 (by decide)]; exact hM.2 i hi⟩ w2
    refine ⟨h', ?_, y2, fun q hq => by rw [y3 q hq, w3 q hq]⟩
    rw [fX2_spreadHigh_L14, hM.1, if_pos (nI_lt (by omega) (by omega)), if_pos (show nI (8 + j) < (16 : Int32) from nI_lt (b := 16) (by omega) (by omega))]
    exact w1.trans y1
theorem high_all {N m : Nat} {cv v : Nat → Nat} (hN : 70000 ≤ N) (hm : m ≤ 16) {h : Hp} (hM : Mb h m cv v) : ∃ h' : Hp, fX2_spreadHigh N h = some (nI (2 ^ (m - 8)), h') ∧ Hs h' v (m - 8) ∧ (∀ q, q ≠ 15 → h' q = h q) := by
  obtain ⟨h', w1, w2, w3⟩ := high_L (N := N) (m := m) (cv := cv) (v := v) hN hm (m - 8) 0 N (hset h 15 0 0) (by omega) (by omega) ⟨by rw [hset_o (by decide)]; exact hM.1, fun i hi => by rw [hset_o (by decide), hset_o (by decide)]; exact hM.2 i hi⟩ (fun s hs => by
    have : s = 0 := by simpa using hs
    subst this
    rw [hset_s, pk_us]; rfl)
  refine ⟨h', ?_, w2, fun q hq => by rw [w3 q hq, hset_o hq]⟩
  unfold fX2_spreadHigh
  rw [show (0 : Int32) = nI 0 from rfl, put_nI (by omega) (by omega), Option.bind_some]
  exact w1
def LowC (h : Hp) (K S : Nat) (ks : List Nat) (lo cnt : Nat) (v : Nat → Nat) : Prop := HK h K S ∧ h 12 6 = nI (2 ^ lo) ∧ ksOK v cnt lo ks ∧ Seg (h K) 0 ks ∧ lo ≤ 8 ∧ cnt ≤ 1 ∧ ∀ j, j < lo → v j ≤ 9999
def kj (ks : List Nat) (j : Nat) : Nat := ks.getD j 0
section LC
variable {h : Hp} {K S lo cnt N : Nat} {ks : List Nat} {v : Nat → Nat}
theorem LowC.hk (q : LowC h K S ks lo cnt v) : HK h K S := q.1
theorem LowC.h6 (q : LowC h K S ks lo cnt v) : h 12 6 = nI (2 ^ lo) := q.2.1
theorem LowC.ok (q : LowC h K S ks lo cnt v) : ksOK v cnt lo ks := q.2.2.1
theorem LowC.sg (q : LowC h K S ks lo cnt v) : Seg (h K) 0 ks := q.2.2.2.1
theorem LowC.l8 (q : LowC h K S ks lo cnt v) : lo ≤ 8 := q.2.2.2.2.1
theorem LowC.c1 (q : LowC h K S ks lo cnt v) : cnt ≤ 1 := q.2.2.2.2.2.1
theorem LowC.vb (q : LowC h K S ks lo cnt v) : ∀ j, j < lo → v j ≤ 9999 := q.2.2.2.2.2.2
theorem LowC.len (q : LowC h K S ks lo cnt v) : ks.length = 2 ^ lo := ks_len q.ok
theorem LowC.p8 (q : LowC h K S ks lo cnt v) : 2 ^ lo ≤ 256 ∧ 0 < 2 ^ lo := ⟨Nat.pow_le_pow_right (n := 2) (by decide) q.l8, Nat.pow_pos (by decide)⟩
theorem LowC.cell (q : LowC h K S ks lo cnt v) {j : Nat} (hj : j < 2 ^ lo) : h K j = nI (kj ks j) := by
  have hl := q.len
  have := seg_get q.sg (i := j) (by omega)
  rw [Nat.zero_add] at this
  rw [this]
  unfold kj
  rw [List.getD_eq_getElem?_getD, List.getElem?_eq_getElem (by omega)]
  rfl
theorem LowC.set (q : LowC h K S ks lo cnt v) {j : Nat} (hj : j < 2 ^ lo) : ∃ l, l < 2 ^ lo ∧ kj ks j = key v cnt lo l ∧ kj ks j % 256 = l ∧ kj ks j / 4096 = sI v l lo := by
  have hl := q.len
  have hm : kj ks j ∈ ks := by
    unfold kj
    rw [List.getD_eq_getElem?_getD, List.getElem?_eq_getElem (by omega)]
    exact List.getElem_mem _
  obtain ⟨l, h1, h2⟩ := List.mem_map.mp (q.ok.2.mem_iff.mp hm)
  have h3 := List.mem_range.mp h1
  have h4 := key_parts (v := v) q.l8 q.c1 h3
  rw [h2] at h4
  exact ⟨l, h3, h2.symm, h4.1, h4.2⟩
theorem LowC.ix (q : LowC h K S ks lo cnt v) {l : Nat} (hl : l < 2 ^ lo) : ∃ j, j < 2 ^ lo ∧ kj ks j = key v cnt lo l := by
  have hlen := q.len
  have : key v cnt lo l ∈ ks := q.ok.2.mem_iff.mpr (List.mem_map.mpr ⟨l, List.mem_range.mpr hl, rfl⟩)
  obtain ⟨j, hj, e⟩ := List.mem_iff_getElem.mp this
  refine ⟨j, by omega, ?_⟩
  unfold kj
  rw [List.getD_eq_getElem?_getD, List.getElem?_eq_getElem hj, ← e]
  rfl
theorem LowC.lt (q : LowC h K S ks lo cnt v) {i j : Nat} (hij : i < j) (hj : j < 2 ^ lo) : kj ks i < kj ks j := by
  have hlen := q.len
  unfold kj
  rw [List.getD_eq_getElem?_getD, List.getD_eq_getElem?_getD, List.getElem?_eq_getElem (by omega), List.getElem?_eq_getElem (by omega)]
  exact List.pairwise_iff_getElem.mp q.ok.1 i j (by omega) (by omega) hij
theorem LowC.le (q : LowC h K S ks lo cnt v) {i j : Nat} (hij : i ≤ j) (hj : j < 2 ^ lo) : kj ks i ≤ kj ks j := by
  rcases Nat.lt_or_eq_of_le hij with z | z
  · exact Nat.le_of_lt (q.lt z hj)
  · rw [z]; exact Nat.le_refl _
theorem LowC.kb (q : LowC h K S ks lo cnt v) {j : Nat} (hj : j < 2 ^ lo) : kj ks j < 4096 * 79993 := by
  obtain ⟨l, h1, h2, h3, h4⟩ := q.set hj
  rw [h2]
  exact key_lt q.l8 q.c1 h1 q.vb
theorem sum_at (q : LowC h K S ks lo cnt v) {j : Nat} (hj : j < 2 ^ lo) : fX2_sumAt h (nI j) = some (nI (kj ks j / 4096)) := by
  have h8 := q.p8
  have hb := q.kb hj
  unfold fX2_sumAt
  rw [if_pos q.hk.k, q.hk.ck, at_nI (by omega) (by omega), q.cell hj, show (12 : Int32) = nI 12 from rfl, pk_shrN (by omega) _ 12 (x_sh 12 (by decide))]
theorem bits_at (q : LowC h K S ks lo cnt v) {j : Nat} (hj : j < 2 ^ lo) : fX2_bitsAt h (nI j) = some (nI (kj ks j % 256)) := by
  have h8 := q.p8
  have hb := q.kb hj
  unfold fX2_bitsAt
  rw [if_pos q.hk.k, q.hk.ck, at_nI (by omega) (by omega), q.cell hj, pk_andN (by omega) 8 (by decide)]
theorem thr {P : Nat → Prop} : ∀ n, (∀ i j, i < j → j < n → P j → P i) → ∃ T, T ≤ n ∧ ∀ j, j < n → (P j ↔ j < T)
  | 0, _ => ⟨0, Nat.le_refl _, fun j hj => by omega⟩
  | n + 1, hp => by
    obtain ⟨T, h1, h2⟩ := thr n (fun i j hij hj => hp i j hij (by omega))
    by_cases hn : P n
    · refine ⟨n + 1, Nat.le_refl _, fun j hj => ⟨fun _ => hj, fun _ => ?_⟩⟩
      by_cases e : j = n
      · subst e; exact hn
      · exact hp j n (by omega) (by omega) hn
    · refine ⟨T, by omega, fun j hj => ?_⟩
      by_cases e : j = n
      · subst e
        exact ⟨fun z => absurd z hn, fun z => by omega⟩
      · exact h2 j (by omega)
theorem first_from (q : LowC h K S ks lo cnt v) (hN : 70000 ≤ N) {x : Int} (x1 : -2 ^ 30 ≤ x) (x2 : x < 2 ^ 30) : ∃ T, T ≤ 2 ^ lo ∧ fX2_firstFrom N h (zI x) = some (nI T) ∧ ∀ j, j < 2 ^ lo → (((kj ks j / 4096 : Nat) : Int) < x ↔ j < T) := by
  have h8 := q.p8
  obtain ⟨T, t1, t2⟩ := thr (P := fun j => ((kj ks j / 4096 : Nat) : Int) < x) (2 ^ lo) (fun i j hij hj hp => by
    have := Nat.le_of_lt (q.lt hij hj)
    have : kj ks i / 4096 ≤ kj ks j / 4096 := Nat.div_le_div_right this
    show ((kj ks i / 4096 : Nat) : Int) < x
    have hp' : ((kj ks j / 4096 : Nat) : Int) < x := hp
    omega)
  refine ⟨T, t1, ?_, t2⟩
  have stop : ∀ fuel b, 0 < fuel → fX2_firstFrom_L6 N h (zI x) fuel (nI b) 0 = some (nI b) := fun fuel b hf => by
    obtain ⟨fuel, rfl⟩ : ∃ f, fuel = f + 1 := ⟨fuel - 1, by omega⟩
    rw [fX2_firstFrom_L6, if_neg (by decide)]
  have hst : ∀ k b fuel, k ≤ 8 → k + 1 < fuel → b ≤ T → T < b + 2 ^ (k + 1) → fX2_firstFrom_L6 N h (zI x) fuel (nI b) (nI (2 ^ k)) = some (nI T) := by
    intro k
    induction k with
    | zero =>
      intro b fuel hk hf hb hT
      obtain ⟨fuel, rfl⟩ : ∃ f, fuel = f + 1 := ⟨fuel - 1, by omega⟩
      rw [fX2_firstFrom_L6, if_pos (by decide), q.h6, nI_add, show (nI (2 ^ 0) / 2 : Int32) = 0 by decide]
      by_cases h1 : 2 ^ lo < b + 2 ^ 0
      · rw [if_pos (nI_lt h1 (by omega)), stop fuel b (by omega)]
        have : b = T := by omega
        rw [this]
      · have e1 : (nI (b + 2 ^ 0) - 1 : Int32) = nI b := by rw [show (1 : Int32) = nI 1 from rfl, pk_sub (by omega)]; rfl
        have hbl : b < 2 ^ lo := by omega
        have hkb := q.kb hbl
        rw [if_neg (nI_nlt (by omega) (by omega)), e1, sum_at q hbl, Option.bind_some]
        have ht := t2 b hbl
        by_cases h2 : ((kj ks b / 4096 : Nat) : Int) < x
        · rw [if_pos (by rw [z_nI]; exact (z_lt (by omega) (by omega) (by omega) (by omega)).mpr h2), stop fuel _ (by omega)]
          have := ht.mp h2
          have : b + 2 ^ 0 = T := by omega
          rw [this]
        · rw [if_neg (fun z => h2 (by rw [z_nI] at z; exact (z_lt (by omega) (by omega) (by omega) (by omega)).mp z)), stop fuel _ (by omega)]
          have : ¬ b < T := fun z => h2 (ht.mpr z)
          have : b = T := by omega
          rw [this]
    | succ k ih =>
      intro b fuel hk hf hb hT
      obtain ⟨fuel, rfl⟩ : ∃ f, fuel = f + 1 := ⟨fuel - 1, by omega⟩
      have hp : 0 < 2 ^ (k + 1) := Nat.pow_pos (by decide)
      have hp2 : 2 ^ (k + 1) ≤ 2 ^ 8 := Nat.pow_le_pow_right (by decide) hk
      have ps : (2 : Nat) ^ (k + 1 + 1) = 2 ^ (k + 1) + 2 ^ (k + 1) := by rw [Nat.pow_succ]; omega
      have e2 : (nI (2 ^ (k + 1)) / 2 : Int32) = nI (2 ^ k) := by
        rw [show (2 : Int32) = nI 2 from rfl, pk_div (by omega) (by omega) (by omega), Nat.pow_succ, Nat.mul_div_cancel _ (by decide)]
      rw [fX2_firstFrom_L6, if_pos (show (0 : Int32) < nI (2 ^ (k + 1)) from nI_lt (a := 0) hp (by omega)), q.h6, nI_add, e2]
      by_cases h1 : 2 ^ lo < b + 2 ^ (k + 1)
      · rw [if_pos (nI_lt h1 (by omega))]
        exact ih b fuel (by omega) (by omega) hb (by omega)
      · have e1 : (nI (b + 2 ^ (k + 1)) - 1 : Int32) = nI (b + 2 ^ (k + 1) - 1) := by rw [show (1 : Int32) = nI 1 from rfl, pk_sub (by omega)]
        have hbl : b + 2 ^ (k + 1) - 1 < 2 ^ lo := by omega
        have hkb := q.kb hbl
        rw [if_neg (nI_nlt (by omega) (by omega)), e1, sum_at q hbl, Option.bind_some]
        have ht := t2 _ hbl
        by_cases h2 : ((kj ks (b + 2 ^ (k + 1) - 1) / 4096 : Nat) : Int) < x
        · rw [if_pos (by rw [z_nI]; exact (z_lt (by omega) (by omega) (by omega) (by omega)).mpr h2)]
          have := ht.mp h2
          exact ih _ fuel (by omega) (by omega) (by omega) (by omega)
        · rw [if_neg (fun z => h2 (by rw [z_nI] at z; exact (z_lt (by omega) (by omega) (by omega) (by omega)).mp z))]
          have : ¬ b + 2 ^ (k + 1) - 1 < T := fun z => h2 (ht.mpr z)
          exact ih b fuel (by omega) (by omega) hb (by omega)
  have := hst 8 0 N (by omega) (by omega) (by omega) (by omega)
  exact this
/-- how far a low set is from half of what is wanted -/
def Fw (v : Nat → Nat) (lo : Nat) (w : Int) (l : Nat) : Nat := (w - 2 * (sI v l lo : Nat)).natAbs
theorem better_spec (q : LowC h K S ks lo 0 v) (hN : 70000 ≤ N) {w : Int} (w1 : -2 ^ 24 ≤ w) (w2 : w < 2 ^ 24) {hh best : Nat} (hhb : hh < 2 ^ 8) {unl : Nat} (hunl : h 12 8 = nI unl) (hul : unl < 2 ^ 30) : ∃ T B l, T ≤ 2 ^ lo ∧ fX2_firstFrom N h ((zI w + 1) / 2) = some (nI T) ∧ (0 < T → ∃ s6, fX2_sumAt h (nI T - 1) = some s6 ∧ fX2_firstFrom N h s6 = some (nI B)) ∧ (T = 0 → B = T) ∧ LexMin (fun l => l < 2 ^ lo) (Fw v lo w) l ∧ fX2_better h (nI B) (nI T) (nI hh) (zI w) (nI best) = some (if Fw v lo w l < unl then (nI (256 * hh + l), hset h 12 8 (nI (Fw v lo w l))) else (nI best, h)) := by
  have h8 := q.p8
  have hkey : ∀ l, key v 0 lo l = 4096 * sI v l lo + l := fun l => by unfold key; omega
  obtain ⟨c, hc⟩ : ∃ c, c = (w + 1).tdiv 2 := ⟨_, rfl⟩
  have td := Int.mul_tdiv_add_tmod (w + 1) 2
  have td' : ((w + 1).tmod 2).natAbs < 2 := by rw [Int.natAbs_tmod]; exact Nat.mod_lt _ (by decide)
  have ec : (zI w + 1) / 2 = zI c := by
    rw [show (1 : Int32) = zI 1 by decide, z_add]
    apply Int32.toInt_inj.mp
    have e2 : (2 : Int32).toInt = 2 := rfl
    rw [Int32.toInt_div, z_toInt (by omega) (by omega), e2, z_toInt (by omega) (by omega), hc]
    exact Int.bmod_eq_of_le (by omega) (by omega)
  obtain ⟨T, t1, t2, t3⟩ := first_from q hN (x := c) (by omega) (by omega)
  have hcw : w ≤ 2 * c := by
    by_cases hw : 0 ≤ w + 1
    · have := Int.tmod_nonneg (a := w + 1) 2 hw
      omega
    · have h7 := Int.tmod_nonneg (a := -(w + 1)) 2 (by omega)
      rw [Int.neg_tmod] at h7
      omega
  have hc0 : 0 < c → 2 * c ≤ w + 1 := fun hp => by
    by_cases hw : 0 ≤ w + 1
    · have := Int.tmod_nonneg (a := w + 1) 2 hw
      omega
    · omega
  -- the key below
  have hBx : ∃ B, B < 2 ^ lo ∧ (0 < T → ∃ s6, fX2_sumAt h (nI T - 1) = some s6 ∧ fX2_firstFrom N h s6 = some (nI B)) ∧ (T = 0 → B = T) ∧ (∀ j, j < T → j < 2 ^ lo → kj ks j / 4096 ≤ kj ks B / 4096 ∧ (kj ks j / 4096 = kj ks B / 4096 → B ≤ j)) ∧ (0 < T → B < T) := by
    by_cases hT0 : T = 0
    · exact ⟨0, h8.2, fun z => by omega, fun _ => hT0.symm, fun j hj _ => by omega, fun z => by omega⟩
    · have hTl : T - 1 < 2 ^ lo := by omega
      have hkb := q.kb hTl
      have e1 : (nI T - 1 : Int32) = nI (T - 1) := by rw [show (1 : Int32) = nI 1 from rfl, pk_sub (by omega)]
      obtain ⟨B, b1, b2, b3⟩ := first_from q hN (x := ((kj ks (T - 1) / 4096 : Nat) : Int)) (by omega) (by omega)
      have hBT : ¬ T - 1 < B := fun z => by have := (b3 (T - 1) hTl).mpr z; omega
      have hBl : B < 2 ^ lo := by omega
      have eB : kj ks B / 4096 = kj ks (T - 1) / 4096 := by
        have c1 : ¬ ((kj ks B / 4096 : Nat) : Int) < ((kj ks (T - 1) / 4096 : Nat) : Int) := fun z => by have := (b3 B hBl).mp z; omega
        have c2 : kj ks B / 4096 ≤ kj ks (T - 1) / 4096 := Nat.div_le_div_right (q.le (by omega) hTl)
        omega
      refine ⟨B, hBl, fun _ => ⟨_, by rw [e1]; exact sum_at q hTl, by rw [z_nI]; exact b2⟩, fun z => absurd z hT0, fun j hj hjl => ?_, fun _ => by omega⟩
      have c2 : kj ks j / 4096 ≤ kj ks (T - 1) / 4096 := Nat.div_le_div_right (q.le (by omega) hTl)
      refine ⟨by omega, fun e => ?_⟩
      rcases Nat.lt_or_ge j B with z | z
      · have := (b3 j hjl).mpr z; omega
      · exact z
  obtain ⟨B, hBl, hB1, hB2, hB3, hB4⟩ := hBx
  obtain ⟨lB, lb1, lb2, lb3, lb4⟩ := q.set hBl
  have kbB := q.kb hBl
  have sB : (sI v lB lo : Nat) ≤ 79993 := by omega
  -- the choice
  have hch : ∃ l, LexMin (fun l => l < 2 ^ lo) (Fw v lo w) l ∧ fX2_better h (nI B) (nI T) (nI hh) (zI w) (nI best) = fX2_better_J91 (nI B) (nI T) (nI hh) (zI w) (nI best) (if T < 2 ^ lo ∧ (Fw v lo w (kj ks T % 256) < Fw v lo w lB ∨ (Fw v lo w (kj ks T % 256) = Fw v lo w lB ∧ kj ks T % 256 < lB)) then 1 else 0) (nI (Fw v lo w l)) h ∧ l = (if T < 2 ^ lo ∧ (Fw v lo w (kj ks T % 256) < Fw v lo w lB ∨ (Fw v lo w (kj ks T % 256) = Fw v lo w lB ∧ kj ks T % 256 < lB)) then kj ks T % 256 else lB) := by
    have eV2 : (some (if (0 : Int32) ≤ (zI w - 2 * nI (kj ks B / 4096)) then (zI w - 2 * nI (kj ks B / 4096)) else 0 - (zI w - 2 * nI (kj ks B / 4096)))) = some (nI (Fw v lo w lB)) := by
      rw [show (2 : Int32) = nI 2 from rfl, pk_mul, z_nI (2 * _), z_sub, z_abs (by omega) (by omega), lb4]
      unfold Fw
      congr 3
    have hFB : Fw v lo w lB < 2 ^ 26 := by unfold Fw; omega
    have hj_lt : ∀ l, l < 2 ^ lo → ∃ j, j < 2 ^ lo ∧ kj ks j % 256 = l ∧ kj ks j / 4096 = sI v l lo ∧ kj ks j = 4096 * sI v l lo + l := fun l hl => by
      obtain ⟨j, j1, j2⟩ := q.ix hl
      have := key_parts (v := v) q.l8 q.c1 hl
      rw [← j2] at this
      exact ⟨j, j1, this.1, this.2, by rw [j2, hkey]⟩
    have kB := lb2
    rw [hkey] at kB
    by_cases hTl : T < 2 ^ lo
    · obtain ⟨lT, lt1, lt2, lt3, lt4⟩ := q.set hTl
      have kbT := q.kb hTl
      have kT := lt2
      rw [hkey] at kT
      rw [lt3]
      have eV3 : (if (0 : Int32) ≤ (zI w - 2 * nI (kj ks T / 4096)) then (zI w - 2 * nI (kj ks T / 4096)) else 0 - (zI w - 2 * nI (kj ks T / 4096))) = nI (Fw v lo w lT) := by
        rw [show (2 : Int32) = nI 2 from rfl, pk_mul, z_nI (2 * _), z_sub, z_abs (by omega) (by omega), lt4]
        unfold Fw
        congr 2
      have hFT : Fw v lo w lT < 2 ^ 26 := by unfold Fw; omega
      -- every low set is no better than one of the two
      have hall : ∀ l, l < 2 ^ lo → (Fw v lo w lB < Fw v lo w l ∨ (Fw v lo w lB = Fw v lo w l ∧ lB ≤ l)) ∨ (Fw v lo w lT < Fw v lo w l ∨ (Fw v lo w lT = Fw v lo w l ∧ lT ≤ l)) := fun l hl => by
        obtain ⟨j, j1, j2, j3, j4⟩ := hj_lt l hl
        have tj := t3 j j1
        rcases Nat.lt_or_ge j T with z | z
        · left
          have z1 := tj.mpr z
          obtain ⟨y1, y2⟩ := hB3 j z j1
          have tB := (t3 B hBl).mpr (hB4 (by omega))
          have hc1 := hc0 (by omega)
          unfold Fw
          rcases Nat.lt_or_eq_of_le y1 with y | y
          · left; omega
          · right
            have y3 := q.le (y2 y) j1
            exact ⟨by omega, by omega⟩
        · right
          have z1 : ¬ ((kj ks j / 4096 : Nat) : Int) < c := fun y => by have := tj.mp y; omega
          have z2 : ¬ ((kj ks T / 4096 : Nat) : Int) < c := fun y => by have := (t3 T hTl).mp y; omega
          have y3 := q.le z j1
          have y4 : kj ks T / 4096 ≤ kj ks j / 4096 := Nat.div_le_div_right y3
          unfold Fw
          rcases Nat.lt_or_eq_of_le y4 with y | y
          · left; omega
          · right
            exact ⟨by omega, by omega⟩
      unfold fX2_better
      rw [sum_at q hBl, Option.bind_some, eV2, Option.bind_some, q.h6, if_pos (nI_lt hTl (by omega)), sum_at q hTl, Option.bind_some, eV3]
      unfold fX2_better_J43 fX2_better_J77
      by_cases c1 : Fw v lo w lT < Fw v lo w lB
      · refine ⟨lT, ⟨lt1, fun l hl => ?_⟩, ?_, by rw [if_pos ⟨hTl, Or.inl c1⟩]⟩
        · rcases hall l hl with y | y <;> omega
        · rw [if_pos (nI_lt c1 (by omega)), if_neg n10, if_pos ⟨hTl, Or.inl c1⟩]
      · rw [if_neg (nlt_lit (by omega) (by omega) c1), if_nI (by omega) (by omega)]
        by_cases c2 : Fw v lo w lT = Fw v lo w lB
        · rw [if_pos c2, bits_at q hTl, bits_at q hBl, Option.bind_some, Option.bind_some, lt3, lb3]
          by_cases c3 : lT < lB
          · refine ⟨lT, ⟨lt1, fun l hl => ?_⟩, ?_, by rw [if_pos ⟨hTl, Or.inr ⟨c2, c3⟩⟩]⟩
            · rcases hall l hl with y | y <;> omega
            · rw [if_pos (nI_lt c3 (by omega)), if_neg n10, if_pos ⟨hTl, Or.inr ⟨c2, c3⟩⟩]
          · refine ⟨lB, ⟨lb1, fun l hl => ?_⟩, ?_, by rw [if_neg (fun z => by omega)]⟩
            · rcases hall l hl with y | y <;> omega
            · rw [if_neg (nlt_lit (by omega) (by omega) c3), if_pos rfl, if_neg (fun z => by omega)]
        · rw [if_neg c2]
          refine ⟨lB, ⟨lb1, fun l hl => ?_⟩, ?_, by rw [if_neg (fun z => by omega)]⟩
          · rcases hall l hl with y | y <;> omega
          · rw [if_pos rfl, if_neg (fun z => by omega)]
    · have hall : ∀ l, l < 2 ^ lo → (Fw v lo w lB < Fw v lo w l ∨ (Fw v lo w lB = Fw v lo w l ∧ lB ≤ l)) := fun l hl => by
        obtain ⟨j, j1, j2, j3, j4⟩ := hj_lt l hl
        have tj := t3 j j1
        have z : j < T := by omega
        have z1 := tj.mpr z
        obtain ⟨y1, y2⟩ := hB3 j z j1
        have tB := (t3 B hBl).mpr (hB4 (by omega))
        have hc1 := hc0 (by omega)
        unfold Fw
        rcases Nat.lt_or_eq_of_le y1 with y | y
        · left; omega
        · right
          have y3 := q.le (y2 y) j1
          exact ⟨by omega, by omega⟩
      refine ⟨lB, ⟨lb1, hall⟩, ?_, by rw [if_neg (fun z => hTl z.1)]⟩
      unfold fX2_better
      rw [sum_at q hBl, Option.bind_some, eV2, Option.bind_some, q.h6, if_neg (nI_nlt (by omega) (by omega)), nI_1]
      unfold fX2_better_J43 fX2_better_J77
      rw [if_neg (nI_nlt (by omega) (by omega)), if_nI (by omega) (by omega), if_neg (by omega), if_pos rfl, if_neg (fun z => hTl z.1)]
  obtain ⟨l, m1, m2, m3⟩ := hch
  have hl256 : l < 256 := by have := m1.1; omega
  have hFl : Fw v lo w l < 2 ^ 26 := by
    have := m1.2 lB lb1
    have : Fw v lo w lB < 2 ^ 26 := by unfold Fw; omega
    omega
  refine ⟨T, B, l, t1, by rw [ec]; exact t2, hB1, hB2, m1, ?_⟩
  rw [m2]
  unfold fX2_better_J91
  rw [hunl]
  by_cases hF : Fw v lo w l < unl
  · rw [if_pos (nI_lt hF (by omega)), if_pos hF, Option.bind_some]
    unfold fX2_better_J126
    have q' : LowC (hset h 12 8 (nI (Fw v lo w l))) K S ks lo 0 v := ⟨⟨q.hk.1, by rw [hset_s, pk_un (by decide)]; exact q.hk.2.1, by rw [hset_s, pk_un (by decide)]; exact q.hk.2.2⟩, by rw [hset_s, pk_un (by decide)]; exact q.h6, q.ok, by have := q.hk.1.lt; rw [hset_o (by omega)]; exact q.sg, q.l8, q.c1, q.vb⟩
    have hor : (nI hh <<< ((8 : Int32) &&& 31)) ||| nI l = nI (256 * hh + l) := by
      rw [show (8 : Int32) = nI 8 from rfl, x_shl (by omega) (by omega), x_or]
      congr 1
      have := or_add (a := hh) (b := l) (k := 8) (by omega)
      rw [Nat.mul_comm (2 ^ 8)] at this
      rw [this]
      omega
    by_cases hc' : T < 2 ^ lo ∧ (Fw v lo w (kj ks T % 256) < Fw v lo w lB ∨ (Fw v lo w (kj ks T % 256) = Fw v lo w lB ∧ kj ks T % 256 < lB))
    · rw [if_pos hc'] at m3 ⊢
      rw [if_neg n10, bits_at q' hc'.1, Option.bind_some, ← m3, hor]
    · rw [if_neg hc'] at m3 ⊢
      rw [if_pos rfl, bits_at q' hBl, Option.bind_some, lb3, ← m3, hor]
  · rw [if_neg (nlt_lit (by omega) (by omega) hF), if_neg hF]
end LC
