/-! the keys of the lower half, in order -/
def mg : List Nat → List Nat → List Nat
  | [], ys => ys
  | x :: xs, [] => x :: xs
  | x :: xs, y :: ys => if x < y then x :: mg xs (y :: ys) else y :: mg (x :: xs) ys
termination_by xs ys => xs.length + ys.length
theorem mg_r (xs : List Nat) : mg xs [] = xs := by cases xs <;> simp [mg]
theorem mg_l (ys : List Nat) : mg [] ys = ys := by simp [mg]
theorem mg_c (x y : Nat) (xs ys : List Nat) : mg (x :: xs) (y :: ys) = if x < y then x :: mg xs (y :: ys) else y :: mg (x :: xs) ys := by rw [mg]
theorem mg_perm : ∀ (n : Nat) (xs ys : List Nat), xs.length + ys.length = n → (mg xs ys).Perm (xs ++ ys) := by
  intro n
  induction n with
  | zero =>
    intro xs ys h
    have hx : xs = [] := List.eq_nil_of_length_eq_zero (by omega)
    subst hx
    rw [mg_l]; exact List.Perm.refl _
  | succ n ih =>
    intro xs ys h
    cases xs with
    | nil => rw [mg_l]; exact List.Perm.refl _
    | cons x xs =>
      cases ys with
      | nil => rw [mg_r, List.append_nil]
      | cons y ys =>
        rw [List.length_cons, List.length_cons] at h
        rw [mg_c]
        by_cases hxy : x < y
        · rw [if_pos hxy, List.cons_append]
          exact (ih xs (y :: ys) (by rw [List.length_cons]; omega)).cons x
        · rw [if_neg hxy]
          exact ((ih (x :: xs) ys (by rw [List.length_cons]; omega)).cons y).trans List.perm_middle.symm
theorem mg_sorted : ∀ (n : Nat) (xs ys : List Nat), xs.length + ys.length = n → xs.Pairwise (· < ·) → ys.Pairwise (· < ·) → (∀ x, x ∈ xs → ∀ y, y ∈ ys → x ≠ y) → (mg xs ys).Pairwise (· < ·) := by
  intro n
  induction n with
  | zero =>
    intro xs ys h hx hy hd
    have hx' : xs = [] := List.eq_nil_of_length_eq_zero (by omega)
    subst hx'
    rw [mg_l]; exact hy
  | succ n ih =>
    intro xs ys h hx hy hd
    cases xs with
    | nil => rw [mg_l]; exact hy
    | cons x xs =>
      cases ys with
      | nil => rw [mg_r]; exact hx
      | cons y ys =>
        rw [List.length_cons, List.length_cons] at h
        rw [List.pairwise_cons] at hx hy
        rw [mg_c]
        by_cases hxy : x < y
        · rw [if_pos hxy, List.pairwise_cons]
          refine ⟨fun z hz => ?_, ih xs (y :: ys) (by rw [List.length_cons]; omega) hx.2 (List.pairwise_cons.mpr hy) (fun a ha b hb => hd a (List.mem_cons_of_mem _ ha) b hb)⟩
          have hz' := (mg_perm _ xs (y :: ys) rfl).mem_iff.mp hz
          rw [List.mem_append, List.mem_cons] at hz'
          rcases hz' with q | q | q
          · exact hx.1 z q
          · omega
          · have := hy.1 z q; omega
        · have hne := hd x List.mem_cons_self y List.mem_cons_self
          rw [if_neg hxy, List.pairwise_cons]
          refine ⟨fun z hz => ?_, ih (x :: xs) ys (by rw [List.length_cons]; omega) (List.pairwise_cons.mpr hx) hy.2 (fun a ha b hb => hd a ha b (List.mem_cons_of_mem _ hb))⟩
          have hz' := (mg_perm _ (x :: xs) ys rfl).mem_iff.mp hz
          rw [List.mem_append, List.mem_cons] at hz'
          rcases hz' with (q | q) | q
          · omega
          · have := hx.1 z q; omega
          · exact hy.1 z q
/-- the two cells that hold keys and spare -/
def KS (K S : Nat) : Prop := (K = 16 ∧ S = 17) ∨ (K = 17 ∧ S = 16)
def HK (h : Hp) (K S : Nat) : Prop := KS K S ∧ h 12 3 = nI K ∧ h 12 4 = nI S
theorem HK.k {h : Hp} {K S : Nat} (q : HK h K S) : h 12 3 = 16 ∨ h 12 3 = 17 := by
  rcases q.1 with ⟨a, b⟩ | ⟨a, b⟩ <;> subst a <;> subst b
  · exact Or.inl q.2.1
  · exact Or.inr q.2.1
theorem HK.s {h : Hp} {K S : Nat} (q : HK h K S) : h 12 4 = 16 ∨ h 12 4 = 17 := by
  rcases q.1 with ⟨a, b⟩ | ⟨a, b⟩ <;> subst a <;> subst b
  · exact Or.inr q.2.2
  · exact Or.inl q.2.2
theorem KS.lt {K S : Nat} (q : KS K S) : K < 18 ∧ S < 18 ∧ K ≠ S ∧ 15 < K ∧ 15 < S := by rcases q with ⟨a, b⟩ | ⟨a, b⟩ <;> omega
theorem HK.ck {h : Hp} {K S : Nat} (q : HK h K S) : (h 12 3).toNatClampNeg = K := by
  have := q.1.lt
  rw [q.2.1]; exact nI_clamp (by omega)
theorem HK.cs {h : Hp} {K S : Nat} (q : HK h K S) : (h 12 4).toNatClampNeg = S := by
  have := q.1.lt
  rw [q.2.2]; exact nI_clamp (by omega)
theorem seg_get {row : Nat → Int32} {b : Nat} {l : List Nat} (h : Seg row b l) {i : Nat} (hi : i < l.length) : row (b + i) = nI (l[i]) := h i _ (List.getElem?_eq_getElem hi)
theorem merge_L {N K S n ad : Nat} {ks : List Nat} (hn : ks.length = n) (hn2 : n ≤ 128) (hb : ∀ x, x ∈ ks → x + ad < 2 ^ 30) : ∀ (m a b fuel : Nat) (h : Hp), a + b + m = 2 * n → m < fuel → a ≤ n → b ≤ n → HK h K S → h 12 6 = nI n → Seg (h K) 0 ks → ∃ h' : Hp, fX2_mergeWith_L15 N (nI ad) fuel (nI a) (nI b) (nI (2 * n)) (nI (a + b)) h = some (0, h') ∧ HK h' S K ∧ h' 12 6 = nI (2 * n) ∧ (∀ i, i ≠ 3 → i ≠ 4 → i ≠ 6 → h' 12 i = h 12 i) ∧ (∀ q, q ≠ 12 → q ≠ S → h' q = h q) ∧ (∀ i, i < a + b → h' S i = h S i) ∧ Seg (h' S) (a + b) (mg (ks.drop a) ((ks.map (fun x => x + ad)).drop b)) := by
  intro m
  induction m with
  | zero =>
    intro a b fuel h hab hf ha hb2 hK h6 hs
    obtain ⟨fuel, rfl⟩ : ∃ f, fuel = f + 1 := ⟨fuel - 1, by omega⟩
    have hlt := hK.1.lt
    refine ⟨hset (hset (hset h 12 4 (nI K)) 12 3 (nI S)) 12 6 (nI (2 * n)), ?_, ⟨hK.1.elim Or.inr Or.inl |>.elim (fun q => Or.inl ⟨q.2, q.1⟩) (fun q => Or.inr ⟨q.2, q.1⟩), by rw [hset_s, pk_un (by omega), hset_s, pk_us], by rw [hset_s, pk_un (by omega), hset_s, pk_un (by omega), hset_s, pk_us]⟩, by rw [hset_s, pk_us], fun i h3 h4 h6 => by rw [hset_s, pk_un h6, hset_s, pk_un h3, hset_s, pk_un h4], fun q h1 h2 => by rw [hset_o h1, hset_o h1, hset_o h1], fun i hi => by rw [hset_o (by omega), hset_o (by omega), hset_o (by omega)], ?_⟩
    · rw [fX2_mergeWith_L15, if_neg (nI_nlt (by omega) (by omega)), if_pos hK.s, if_pos hK.k, hK.ck, hK.cs, if_pos (show K < 2 ^ 31 by omega), Option.bind_some, if_pos (show S < 2 ^ 31 by omega), Option.bind_some, Option.bind_some]
    · rw [List.drop_eq_nil_of_le (by omega), List.drop_eq_nil_of_le (by rw [List.length_map]; omega), mg_l]
      intro i x hx
      cases hx
  | succ m ih =>
    intro a b fuel h hab hf ha hb2 hK h6 hs
    obtain ⟨fuel, rfl⟩ : ∃ f, fuel = f + 1 := ⟨fuel - 1, by omega⟩
    have hlt := hK.1.lt
    have hat : ∀ i, i < 256 → atF h K 256 (nI i) = h K i := fun i hi => at_nI hi (by omega)
    -- what is taken
    have step : ∀ (x : Nat) (a' b' : Nat) (t : Int32), (if t = 0 then h K b + nI ad else h K a) = nI x → a' + b' = a + b + 1 → a' ≤ n → b' ≤ n → nI a + (if t = 0 then 0 else 1) = nI a' → (if t = 0 then nI b + 1 else nI b + 0) = nI b' → mg (ks.drop a) ((ks.map (fun x => x + ad)).drop b) = x :: mg (ks.drop a') ((ks.map (fun x => x + ad)).drop b') → t = (if nI a < h 12 6 then (if nI b < h 12 6 then (if h K a < h K b + nI ad then 1 else 0) else 1) else 0) → ∃ h' : Hp, fX2_mergeWith_L15 N (nI ad) (fuel + 1) (nI a) (nI b) (nI (2 * n)) (nI (a + b)) h = some (0, h') ∧ HK h' S K ∧ h' 12 6 = nI (2 * n) ∧ (∀ i, i ≠ 3 → i ≠ 4 → i ≠ 6 → h' 12 i = h 12 i) ∧ (∀ q, q ≠ 12 → q ≠ S → h' q = h q) ∧ (∀ i, i < a + b → h' S i = h S i) ∧ Seg (h' S) (a + b) (mg (ks.drop a) ((ks.map (fun x => x + ad)).drop b)) := by
      intro x a' b' t hx hab' ha' hb' e1 e2 emg et
      obtain ⟨h', w1, w2, w3, w4, w5, w6, w7⟩ := ih a' b' fuel (hset h S (a + b) (nI x)) (by omega) (by omega) ha' hb' ⟨hK.1, by rw [hset_o (by omega)]; exact hK.2.1, by rw [hset_o (by omega)]; exact hK.2.2⟩ (by rw [hset_o (by omega)]; exact h6) (by rw [hset_o (by omega)]; exact hs)
      refine ⟨h', ?_, w2, w3, fun i q1 q2 q3 => by rw [w4 i q1 q2 q3, hset_o (by omega)], fun q q1 q2 => by rw [w5 q q1 q2, hset_o q2], fun i hi => by rw [w6 i (by omega), hset_s, pk_un (by omega)], ?_⟩
      · rw [fX2_mergeWith_L15, if_pos (nI_lt (by omega) (by omega)), if_pos hK.k, hK.ck, hat a (by omega), hat b (by omega), Option.bind_some, if_pos hK.k, Option.bind_some, ← et]
        unfold fX2_mergeWith_J72
        rw [if_pos hK.s]
        unfold fX2_mergeWith_J92
        rw [if_pos hK.s, hx, hK.cs, put_nI (by omega) (by omega), Option.bind_some]
        unfold fX2_mergeWith_J106
        rw [e1, e2, nI_1, ← hab']
        exact w1
      · rw [emg]
        intro i y hy
        cases i with
        | zero =>
          rw [List.getElem?_cons_zero] at hy
          injection hy with hy
          subst hy
          rw [Nat.add_zero, w6 (a + b) (by omega), hset_s, pk_us]
        | succ i =>
          rw [List.getElem?_cons_succ] at hy
          have := w7 i y hy
          rw [hab', show a + b + 1 + i = a + b + (i + 1) by omega] at this
          exact this
    have hA : ∀ (hlt : a < n), ks.drop a = ks[a] :: ks.drop (a + 1) := fun hlt => List.drop_eq_getElem_cons (by omega)
    have hB : ∀ (hlt : b < n), (ks.map (fun x => x + ad)).drop b = (ks[b] + ad) :: (ks.map (fun x => x + ad)).drop (b + 1) := fun hlt => by
      rw [List.drop_eq_getElem_cons (by rw [List.length_map]; omega), List.getElem_map]
    have gA : ∀ (hlt : a < n), h K a = nI (ks[a]) := fun hlt => by
      have := seg_get hs (i := a) (by omega)
      rw [Nat.zero_add] at this
      exact this
    have gB : ∀ (hlt : b < n), h K b + nI ad = nI (ks[b] + ad) := fun hlt => by
      have := seg_get hs (i := b) (by omega)
      rw [Nat.zero_add] at this
      rw [this, nI_add]
    rcases Nat.lt_or_ge a n with qa | qa
    · rcases Nat.lt_or_ge b n with qb | qb
      · have bx := hb (ks[a]) (List.getElem_mem _)
        have by' := hb (ks[b]) (List.getElem_mem _)
        by_cases hxy : ks[a] < ks[b] + ad
        · refine step (ks[a]) (a + 1) b 1 (by rw [if_neg n10]; exact gA qa) (by omega) (by omega) hb2 (by rw [if_neg n10, nI_1]) (by rw [if_neg n10, add0]) (by rw [hA qa, hB qb, mg_c, if_pos hxy]) ?_
          rw [h6, if_pos (nI_lt qa (by omega)), if_pos (nI_lt qb (by omega)), gA qa, gB qb, if_pos (nI_lt hxy (by omega))]
        · refine step (ks[b] + ad) a (b + 1) 0 (by rw [if_pos rfl]; exact gB qb) (by omega) ha (by omega) (by rw [if_pos rfl, add0]) (by rw [if_pos rfl, nI_1]) (by rw [hA qa, hB qb, mg_c, if_neg hxy]) ?_
          rw [h6, if_pos (nI_lt qa (by omega)), if_pos (nI_lt qb (by omega)), gA qa, gB qb, if_neg (nlt_lit (by omega) (by omega) hxy)]
      · refine step (ks[a]) (a + 1) b 1 (by rw [if_neg n10]; exact gA qa) (by omega) (by omega) hb2 (by rw [if_neg n10, nI_1]) (by rw [if_neg n10, add0]) (by rw [hA qa, show (ks.map (fun x => x + ad)).drop b = [] from List.drop_eq_nil_of_le (by rw [List.length_map]; omega), mg_r, mg_r]) ?_
        rw [h6, if_pos (nI_lt qa (by omega)), if_neg (nI_nlt (by omega) (by omega))]
    · refine step (ks[b] + ad) a (b + 1) 0 (by rw [if_pos rfl]; exact gB (by omega)) (by omega) ha (by omega) (by rw [if_pos rfl, add0]) (by rw [if_pos rfl, nI_1]) (by rw [hB (by omega), List.drop_eq_nil_of_le (by omega), mg_l, mg_l]) ?_
      rw [h6, if_neg (nI_nlt (by omega) (by omega))]
theorem sI_congr {v : Nat → Nat} {s t : Nat} : ∀ n, (∀ j, j < n → s.testBit j = t.testBit j) → sI v s n = sI v t n
  | 0, _ => rfl
  | n + 1, h => by rw [sI, sI, sI_congr n (fun j hj => h j (by omega)), h n (by omega)]
def one : Nat → Nat := fun _ => 1
def key (v : Nat → Nat) (cnt i s : Nat) : Nat := 4096 * sI v s i + 256 * cnt * sI one s i + s
def ksOK (v : Nat → Nat) (cnt i : Nat) (ks : List Nat) : Prop := ks.Pairwise (· < ·) ∧ ks.Perm ((List.range (2 ^ i)).map (key v cnt i))
theorem key_lo {v : Nat → Nat} {cnt i s : Nat} (h : s < 2 ^ i) : key v cnt (i + 1) s = key v cnt i s := by
  unfold key
  rw [sI, sI, Nat.testBit_lt_two_pow h]
  rfl
theorem key_hi {v : Nat → Nat} {cnt i s : Nat} (h : s < 2 ^ i) : key v cnt (i + 1) (2 ^ i + s) = key v cnt i s + (4096 * v i + 256 * cnt + 2 ^ i) := by
  unfold key
  have hb : (2 ^ i + s).testBit i = true := by rw [Nat.testBit_two_pow_add_eq, Nat.testBit_lt_two_pow h]; rfl
  have e : ∀ w : Nat → Nat, sI w (2 ^ i + s) i = sI w s i := fun w => sI_congr i (fun j hj => Nat.testBit_two_pow_add_gt hj s)
  rw [sI, sI, e, e, hb, if_pos rfl, if_pos rfl]
  show 4096 * (sI v s i + v i) + 256 * cnt * (sI one s i + 1) + (2 ^ i + s) = _
  rw [Nat.mul_add, Nat.mul_add]
  omega
theorem pc_le (s i : Nat) : sI one s i ≤ i := by
  have := sI_le (v := one) (K := 1) s i (fun _ _ => Nat.le_refl _)
  omega
theorem key_parts {v : Nat → Nat} {cnt i s : Nat} (hi : i ≤ 8) (hc : cnt ≤ 1) (hs : s < 2 ^ i) : key v cnt i s % 256 = s ∧ key v cnt i s / 4096 = sI v s i := by
  have h2 : 2 ^ i ≤ 2 ^ 8 := Nat.pow_le_pow_right (by decide) hi
  have h3 := pc_le s i
  have h4 : cnt * sI one s i ≤ 1 * 8 := Nat.mul_le_mul hc (by omega)
  unfold key
  rw [Nat.mul_assoc]
  omega
theorem key_lt {v : Nat → Nat} {cnt i s : Nat} (hi : i ≤ 8) (hc : cnt ≤ 1) (hs : s < 2 ^ i) (hv : ∀ j, j < i → v j ≤ 9999) : key v cnt i s < 4096 * 79993 := by
  have h2 : 2 ^ i ≤ 2 ^ 8 := Nat.pow_le_pow_right (by decide) hi
  have h3 := pc_le s i
  have h4 : cnt * sI one s i ≤ 1 * 8 := Nat.mul_le_mul hc (by omega)
  have h5 := sI_le (v := v) (K := 9999) s i hv
  have h6 : i * 9999 ≤ 8 * 9999 := Nat.mul_le_mul_right _ hi
  unfold key
  rw [Nat.mul_assoc]
  omega
theorem ks_step {v : Nat → Nat} {cnt i : Nat} {ks : List Nat} (hi : i < 8) (hc : cnt ≤ 1) (h : ksOK v cnt i ks) : ksOK v cnt (i + 1) (mg ks (ks.map (fun x => x + (4096 * v i + 256 * cnt + 2 ^ i)))) := by
  obtain ⟨h1, h2⟩ := h
  have hp2 : (2 : Nat) ^ (i + 1) = 2 ^ i + 2 ^ i := by rw [Nat.pow_succ]; omega
  refine ⟨mg_sorted _ _ _ rfl h1 (h1.map _ (fun a b hab => by show a + _ < b + _; omega)) (fun x hx y hy => ?_), (mg_perm _ _ _ rfl).trans ?_⟩
  · obtain ⟨z, hz, e⟩ := List.mem_map.mp hy
    have hx' := h2.mem_iff.mp hx
    have hz' := h2.mem_iff.mp hz
    obtain ⟨s, hs, es⟩ := List.mem_map.mp hx'
    obtain ⟨t, ht, et⟩ := List.mem_map.mp hz'
    have hs' := List.mem_range.mp hs
    have ht' := List.mem_range.mp ht
    have p1 := (key_parts (v := v) (cnt := cnt) (i := i + 1) (s := s) (by omega) hc (by omega)).1
    have p2 := (key_parts (v := v) (cnt := cnt) (i := i + 1) (s := 2 ^ i + t) (by omega) hc (by omega)).1
    rw [key_lo hs'] at p1
    rw [key_hi ht'] at p2
    intro hxy
    rw [es] at p1
    rw [et, e, ← hxy] at p2
    omega
  · rw [hp2, List.range_add, List.map_append, List.map_map]
    refine List.Perm.append ?_ ?_
    · rw [show (List.range (2 ^ i)).map (key v cnt (i + 1)) = (List.range (2 ^ i)).map (key v cnt i) from List.map_congr_left (fun s hs => key_lo (List.mem_range.mp hs))]
      exact h2
    · have := h2.map (fun x => x + (4096 * v i + 256 * cnt + 2 ^ i))
      rw [List.map_map] at this
      refine this.trans (List.Perm.of_eq (List.map_congr_left (fun s hs => ?_)))
      show key v cnt i s + _ = key v cnt (i + 1) (2 ^ i + s)
      rw [key_hi (List.mem_range.mp hs)]
theorem ks_len {v : Nat → Nat} {cnt i : Nat} {ks : List Nat} (h : ksOK v cnt i ks) : ks.length = 2 ^ i := by
  rw [h.2.length_eq, List.length_map, List.length_range]
/-- members and values lie in their cells -/
def Mb (h : Hp) (m : Nat) (cv v : Nat → Nat) : Prop := h 12 5 = nI m ∧ ∀ i, i < m → h 13 i = nI (cv i) ∧ h 14 i = nI (v i)
theorem add_bits {vv cnt i : Nat} (hv : vv ≤ 9999) (hc : cnt ≤ 1) (hi : i < 8) : ((nI vv <<< ((12 : Int32) &&& 31)) ||| (nI cnt <<< ((8 : Int32) &&& 31))) ||| ((1 : Int32) <<< (nI i &&& 31)) = nI (4096 * vv + 256 * cnt + 2 ^ i) := by
  have h2 : 2 ^ i < 2 ^ 8 := Nat.pow_lt_pow_right (by decide) hi
  rw [show (12 : Int32) = nI 12 from rfl, show (8 : Int32) = nI 8 from rfl, x_shl (by omega) (by omega), x_shl (by omega) (by omega), x_shl1 (by omega), x_or, x_or]
  congr 1
  have e1 : vv * 2 ^ 12 ||| cnt * 2 ^ 8 = 4096 * vv + 256 * cnt := by
    have := or_add (a := vv) (b := cnt * 2 ^ 8) (k := 12) (by omega)
    rw [Nat.mul_comm (2 ^ 12)] at this
    rw [this]
    omega
  rw [e1]
  have := or_add (a := 16 * vv + cnt) (b := 2 ^ i) (k := 8) h2
  rw [show 2 ^ 8 * (16 * vv + cnt) = 4096 * vv + 256 * cnt by omega] at this
  exact this
theorem low_L {N m cnt : Nat} {cv v : Nat → Nat} (hN : 70000 ≤ N) (hm : m ≤ 16) (hc : cnt ≤ 1) (hv : ∀ j, j < m → v j ≤ 9999) : ∀ (k i fuel : Nat) (h : Hp) (K S : Nat) (ks : List Nat), i + k = min m 8 → k < fuel → HK h K S → h 12 6 = nI (2 ^ i) → Mb h m cv v → ksOK v cnt i ks → Seg (h K) 0 ks → ∃ (h' : Hp) (K' S' : Nat) (ks' : List Nat), fX2_spreadLow_L16 N (nI cnt) fuel (nI i) h = some (0, h') ∧ HK h' K' S' ∧ h' 12 6 = nI (2 ^ min m 8) ∧ ksOK v cnt (min m 8) ks' ∧ Seg (h' K') 0 ks' ∧ (∀ i, i ≠ 3 → i ≠ 4 → i ≠ 6 → h' 12 i = h 12 i) ∧ (∀ q, q ≠ 12 → q ≠ 16 → q ≠ 17 → h' q = h q) := by
  intro k
  induction k with
  | zero =>
    intro i fuel h K S ks hi hf hK h6 hM hks hs
    obtain ⟨fuel, rfl⟩ : ∃ f, fuel = f + 1 := ⟨fuel - 1, by omega⟩
    refine ⟨h, K, S, ks, ?_, hK, by rw [h6, ← hi]; rfl, by rw [← hi]; exact hks, hs, fun _ _ _ _ => rfl, fun _ _ _ _ => rfl⟩
    rw [fX2_spreadLow_L16, hM.1]
    by_cases h1 : i < m
    · have : i = 8 := by omega
      subst this
      rw [if_pos (nI_lt h1 (by omega)), if_neg (by decide)]
    · rw [if_neg (nI_nlt (by omega) (by omega))]
  | succ k ih =>
    intro i fuel h K S ks hi hf hK h6 hM hks hs
    obtain ⟨fuel, rfl⟩ : ∃ f, fuel = f + 1 := ⟨fuel - 1, by omega⟩
    have hi8 : i < 8 := by omega
    have him : i < m := by omega
    have h2 : 2 ^ i ≤ 2 ^ 7 := Nat.pow_le_pow_right (by decide) (by omega)
    have hl := ks_len hks
    obtain ⟨ad, had⟩ : ∃ ad, ad = 4096 * v i + 256 * cnt + 2 ^ i := ⟨_, rfl⟩
    have hvi := hv i him
    have hbd : ∀ x, x ∈ ks → x + ad < 2 ^ 30 := fun x hx => by
      obtain ⟨s, hs', e⟩ := List.mem_map.mp (hks.2.mem_iff.mp hx)
      have := key_lt (v := v) (cnt := cnt) (i := i) (s := s) (by omega) hc (List.mem_range.mp hs') (fun j hj => hv j (by omega))
      rw [e] at this
      omega
    obtain ⟨h1, w1, w2, w3, w4, w5, w6, w7⟩ := merge_L (N := N) (K := K) (S := S) (ad := ad) hl (by omega) hbd (2 * 2 ^ i) 0 0 N h (by omega) (by omega) (by omega) (by omega) hK h6 hs
    have hlt := hK.1.lt
    have h1213 : h1 13 = h 13 := w5 13 (by decide) (by omega)
    have h1214 : h1 14 = h 14 := w5 14 (by decide) (by omega)
    obtain ⟨h', K', S', ks', y1, y2, y3, y4, y5, y6, y7⟩ := ih (i + 1) fuel h1 S K (mg ks (ks.map (fun x => x + ad))) (by omega) (by omega) w2 (by rw [w3, Nat.pow_succ, Nat.mul_comm]) ⟨by rw [w4 5 (by decide) (by decide) (by decide)]; exact hM.1, fun j hj => by rw [h1213, h1214]; exact hM.2 j hj⟩ (by rw [had]; exact ks_step hi8 hc hks) (by simpa using w7)
    refine ⟨h', K', S', ks', ?_, y2, y3, y4, y5, fun j q1 q2 q3 => by rw [y6 j q1 q2 q3, w4 j q1 q2 q3], fun q q1 q2 q3 => by rw [y7 q q1 q2 q3, w5 q q1 (by rcases hK.1 with ⟨a, b⟩ | ⟨a, b⟩ <;> omega)]⟩
    rw [fX2_spreadLow_L16, hM.1, if_pos (nI_lt him (by omega)), if_pos (show nI i < (8 : Int32) from nI_lt (b := 8) hi8 (by omega)), at_nI (by omega) (by omega), (hM.2 i him).2, add_bits hvi hc hi8, ← had]
    unfold fX2_mergeWith
    rw [h6, show (2 : Int32) = nI 2 from rfl, pk_mul, show fX2_mergeWith_L15 N (nI ad) N 0 0 (nI (2 * 2 ^ i)) 0 h = some (0, h1) from w1, Option.bind_some, nI_1]
    exact y1
theorem low_all {N m cnt : Nat} {cv v : Nat → Nat} (hN : 70000 ≤ N) (hm : m ≤ 16) (hc : cnt ≤ 1) (hv : ∀ j, j < m → v j ≤ 9999) {h : Hp} {K S : Nat} (hK : HK h K S) (hM : Mb h m cv v) : ∃ (h' : Hp) (K' S' : Nat) (ks' : List Nat), fX2_spreadLow N h (nI cnt) = some (0, h') ∧ HK h' K' S' ∧ h' 12 6 = nI (2 ^ min m 8) ∧ ksOK v cnt (min m 8) ks' ∧ Seg (h' K') 0 ks' ∧ (∀ i, i ≠ 3 → i ≠ 4 → i ≠ 6 → h' 12 i = h 12 i) ∧ (∀ q, q ≠ 12 → q ≠ 16 → q ≠ 17 → h' q = h q) := by
  have hlt := hK.1.lt
  obtain ⟨h0, hh0⟩ : ∃ h0, h0 = hset (hset h K 0 0) 12 6 1 := ⟨_, rfl⟩
  have f12 : ∀ i, i ≠ 6 → h0 12 i = h 12 i := fun i hi => by rw [hh0, hset_s, pk_un hi, hset_o (by omega)]
  obtain ⟨h', K', S', ks', y1, y2, y3, y4, y5, y6, y7⟩ := low_L (N := N) (cnt := cnt) (cv := cv) hN hm hc hv (min m 8) 0 N h0 K S [0] (by omega) (by omega) ⟨hK.1, by rw [f12 3 (by decide)]; exact hK.2.1, by rw [f12 4 (by decide)]; exact hK.2.2⟩ (by rw [hh0, hset_s, pk_us]; rfl) ⟨by rw [f12 5 (by decide)]; exact hM.1, fun i hi => by rw [hh0, hset_o (by decide), hset_o (by omega), hset_o (by decide), hset_o (by omega)]; exact hM.2 i hi⟩ ⟨List.pairwise_singleton _ _, List.Perm.of_eq (by simp [key, sI])⟩ (fun i x hx => by
    cases i with
    | zero =>
      rw [List.getElem?_cons_zero] at hx
      injection hx with hx
      subst hx
      rw [hh0, hset_o (by omega), hset_s, pk_us]
      rfl
    | succ i => rw [List.getElem?_cons_succ] at hx; cases hx)
  refine ⟨h', K', S', ks', ?_, y2, y3, y4, y5, fun i q1 q2 q3 => by rw [y6 i q1 q2 q3, f12 i q3], fun q q1 q2 q3 => by rw [y7 q q1 q2 q3, hh0, hset_o q1, hset_o (by rcases hK.1 with ⟨a, b⟩ | ⟨a, b⟩ <;> omega)]⟩
  unfold fX2_spreadLow
  rw [if_pos hK.k, hK.ck, show (0 : Int32) = nI 0 from rfl, put_nI (by omega) (by omega), Option.bind_some, Option.bind_some]
  show fX2_spreadLow_L16 N (nI cnt) N (nI 0) (hset (hset h K 0 0) 12 6 1) = _
  rw [← hh0]
  exact y1
