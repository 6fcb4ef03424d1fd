/-! order: the longest rising run, by the same table on both sides -/
def bstF (vals runs : Nat → Int32) (v : Int32) : Nat → Nat → Int32 → Int32
  | 0, _, b => b
  | m + 1, j, b => bstF vals runs v m (j + 1) (if v < vals j then b else if b < runs j + 1 then runs j + 1 else b)
theorem bst_congr {v1 v2 r1 r2 : Nat → Int32} {v : Int32} : ∀ (m j : Nat) (b : Int32), (∀ i, j ≤ i → i < j + m → v1 i = v2 i ∧ r1 i = r2 i) → bstF v1 r1 v m j b = bstF v2 r2 v m j b
  | 0, _, _, _ => rfl
  | m + 1, j, b, h => by
    rw [bstF, bstF, (h j (by omega) (by omega)).1, (h j (by omega) (by omega)).2]
    exact bst_congr m (j + 1) _ (fun i h1 h2 => h i (by omega) (by omega))
theorem q_bst {N n : Nat} {a1 u2 u3 v : Int32} {k27 : Int32 → Int32 → Int32 → Hp → Option Rs} {h : Hp} (hn : n < 16) : ∀ (m j fuel : Nat) (b : Int32), j + m = n → m < fuel → fX4_order_L68 N a1 k27 fuel u2 u3 (nI n) v b (nI j) h = k27 u2 (if u3 < bstF (h 20) (h 21) v m j b then bstF (h 20) (h 21) v m j b else u3) (nI (n + 1)) (hset (hset h 20 n v) 21 n (bstF (h 20) (h 21) v m j b)) := by
  intro m
  induction m with
  | zero =>
    intro j fuel b hj hf
    obtain ⟨fuel, rfl⟩ : ∃ f, fuel = f + 1 := ⟨fuel - 1, by omega⟩
    rw [fX4_order_L68, if_neg (nI_nlt (by omega) (by omega)), Option.bind_some, Option.bind_some, Option.bind_some, put_nI (by omega) (by omega), put_nI (by omega) (by omega), nI_1]
    rfl
  | succ m ih =>
    intro j fuel b hj hf
    obtain ⟨fuel, rfl⟩ : ∃ f, fuel = f + 1 := ⟨fuel - 1, by omega⟩
    rw [fX4_order_L68, if_pos (nI_lt (by omega) (by omega)), at_nI (by omega) (by omega), at_nI (by omega) (by omega), nI_1, bstF, Option.bind_some]
    by_cases h1 : v < h 20 j
    · rw [if_pos h1, if_pos h1]
      exact ih (j + 1) fuel b (by omega) (by omega)
    · rw [if_neg h1, if_neg h1]
      exact ih (j + 1) fuel _ (by omega) (by omega)
theorem m_bst {N n : Nat} {a1 u2 u3 v : Int32} {k21 : Int32 → Int32 → Int32 → Hp → Option Rs} {vals runs : Nat → Int32} (hn : n < 16) : ∀ (m j fuel : Nat) (b : Int32) (h : Hp), j + m = n → m < fuel → (∀ i, i < n → h 32 i = vals i ∧ h 33 i = runs i) → h 32 n = v → h 33 n = b → ∃ h', fX5_order_L71 N a1 k21 fuel u2 u3 (nI n) (nI j) h = k21 u2 (if u3 < bstF vals runs v m j b then bstF vals runs v m j b else u3) (nI (n + 1)) h' ∧ (∀ q, q ≠ 33 → h' q = h q) ∧ (∀ i, i ≠ n → h' 33 i = h 33 i) ∧ h' 33 n = bstF vals runs v m j b := by
  intro m
  have hcl : (nI n).toNatClampNeg = n := nI_clamp (by omega)
  have hin : 0 ≤ (nI n).toInt ∧ (nI n).toInt < (16 : Nat) := by rw [nI_toInt (by omega)]; omega
  induction m with
  | zero =>
    intro j fuel b h hj hf hv e1 e2
    obtain ⟨fuel, rfl⟩ : ∃ f, fuel = f + 1 := ⟨fuel - 1, by omega⟩
    refine ⟨h, ?_, fun _ _ => rfl, fun _ _ => rfl, e2⟩
    rw [fX5_order_L71, if_neg (nI_nlt (by omega) (by omega)), rd_nI (by omega) (by omega), Option.bind_some, Option.bind_some, e2, nI_1, bstF]
    by_cases h1 : u3 < b
    · rw [if_pos h1, if_pos h1]
    · rw [if_neg h1, if_neg h1]
  | succ m ih =>
    intro j fuel b h hj hf hv e1 e2
    obtain ⟨fuel, rfl⟩ : ∃ f, fuel = f + 1 := ⟨fuel - 1, by omega⟩
    obtain ⟨v1, v2⟩ := hv j (by omega)
    have go : ∀ x : Int32, ∃ h', fX5_order_L71 N a1 k21 fuel u2 u3 (nI n) (nI (j + 1)) (hset h 33 n x) = k21 u2 (if u3 < bstF vals runs v m (j + 1) x then bstF vals runs v m (j + 1) x else u3) (nI (n + 1)) h' ∧ (∀ q, q ≠ 33 → h' q = h q) ∧ (∀ i, i ≠ n → h' 33 i = h 33 i) ∧ h' 33 n = bstF vals runs v m (j + 1) x := fun x => by
      obtain ⟨h', w1, w2, w3, w4⟩ := ih (j + 1) fuel x (hset h 33 n x) (by omega) (by omega) (fun i hi => by
        rw [hset_o (by decide), hset_s, pk_un (by omega)]; exact hv i hi) (by rw [hset_o (by decide)]; exact e1) (by rw [hset_s, pk_us])
      refine ⟨h', w1, fun q hq => by rw [w2 q hq, hset_o hq], fun i hi => by rw [w3 i hi, hset_s, pk_un hi], w4⟩
    rw [fX5_order_L71, if_pos (nI_lt (by omega) (by omega)), rd_nI (j := j) (by omega) (by omega), rd_nI (j := n) (by omega) (by omega), Option.bind_some, Option.bind_some, nI_1 j, v1, e1, bstF]
    by_cases h1 : v < vals j
    · rw [if_pos h1, if_pos h1, rd_nI (by omega) (by omega), Option.bind_some, if_pos hin, hcl, Option.bind_some, e2]
      exact go b
    · rw [if_neg h1, if_neg h1, rd_nI (by omega) (by omega), Option.bind_some, rd_nI (by omega) (by omega), Option.bind_some, v2, e2]
      by_cases h2 : b < runs j + 1
      · rw [if_pos h2, if_pos h2, Option.bind_some, if_pos hin, hcl, Option.bind_some]
        exact go _
      · rw [if_neg h2, if_neg h2, Option.bind_some, if_pos hin, hcl, Option.bind_some]
        exact go b
theorem order_L {N k g : Nat} {V : Vw} (hk : k < 64) (hN : 70000 ≤ N) (hW : Wf k V) (hg : g < 5) (hl16 : (LG V g).length ≤ 16) : ∀ (m j fuel : Nat) (u3 : Int32) (hc : Hp), j + m = (LG V g).length → m < fuel → RowV (hc 7) V → ∃ (v : Int32) (hc' : Hp), fX4_order_L27 N (nI g) fuel (nI (LG V g).length) u3 (nI j) hc = some (v, hc') ∧ (∀ q, q ≠ 20 → q ≠ 21 → hc' q = hc q) ∧ ∀ hm : Hp, ModV (hm 23) V → (∀ i, i < j → hm 32 i = hc 20 i ∧ hm 33 i = hc 21 i) → ∃ hm' : Hp, fX5_order_L21 N (nI g) fuel (nI (LG V g).length) u3 (nI j) hm = some (v, hm') ∧ (∀ q, q ≠ 32 → q ≠ 33 → hm' q = hm q) := by
  intro m
  induction m with
  | zero =>
    intro j fuel u3 hc hj hf hC
    obtain ⟨fuel, rfl⟩ : ∃ f, fuel = f + 1 := ⟨fuel - 1, by omega⟩
    refine ⟨nI (LG V g).length - u3, hc, by rw [fX4_order_L27, if_neg (nI_nlt (by omega) (by omega))], fun _ _ _ => rfl, fun hm hM ha => ⟨hm, by rw [fX5_order_L21, if_neg (nI_nlt (by omega) (by omega))], fun _ _ _ => rfl⟩⟩
  | succ m ih =>
    intro j fuel u3 hc hj hf hC
    obtain ⟨fuel, rfl⟩ : ∃ f, fuel = f + 1 := ⟨fuel - 1, by omega⟩
    have hlt : j < (LG V g).length := by omega
    obtain ⟨c, hcj⟩ : ∃ c, (LG V g)[j]? = some c := ⟨_, List.getElem?_eq_getElem hlt⟩
    have hcl := (LG_mem hW).mp (List.mem_of_getElem? hcj)
    have hcn : c < vN V := hcl.1
    have hin : 0 ≤ (nI j).toInt ∧ (nI j).toInt < (16 : Nat) := by rw [nI_toInt (by omega)]; omega
    have hclp : (nI j).toNatClampNeg = j := nI_clamp (by omega)
    have pq : ∀ hc : Hp, RowV (hc 7) V → fX0_pendantAt N hc 7 (nI g) (nI j) = some (nI c) := fun hc hC => by rw [q_pat hC hW (by omega) hg (by omega), hcj]; rfl
    have pm : ∀ hm : Hp, ModV (hm 23) V → fX5_pendantAt N hm (nI g) (nI j) = some (nI c) := fun hm hM => by rw [m_pat hk hM hW (by omega) (by omega) (by omega), hcj]; rfl
    cases hv : vVal V c with
    | none =>
      refine ⟨-4, hc, ?_, fun _ _ _ => rfl, fun hm hM ha => ⟨hset hm 32 j (-4), ?_, fun q h1 h2 => hset_o h1⟩⟩
      · rw [fX4_order_L27, if_pos (nI_lt hlt (by omega)), pq hc hC, Option.bind_some, q_value hC hW (by omega) hcn, Option.bind_some, hv, if_pos (show encP none = -4 from rfl)]
      · rw [fX5_order_L21, if_pos (nI_lt hlt (by omega)), pm hm hM, Option.bind_some, m_value hM hW (by omega) hcn, Option.bind_some, hv, if_pos hin, hclp, Option.bind_some, rd_nI (by omega) (by omega), Option.bind_some, hset_s, pk_us, if_pos (show encP none = -4 from rfl)]
        rfl
    | some x =>
      have hx := vVal_lt hW hcn hv
      have hx4 : ¬ encP (some x) = -4 := encP_ne (by omega)
      obtain ⟨B, hB⟩ : ∃ B, B = bstF (hc 20) (hc 21) (nI x) j 0 1 := ⟨_, rfl⟩
      have hC' : RowV (hset (hset hc 20 j (nI x)) 21 j B 7) V := by rw [hset_o (by decide), hset_o (by decide)]; exact hC
      obtain ⟨v, hc', i1, i2, i3⟩ := ih (j + 1) fuel (if u3 < B then B else u3) (hset (hset hc 20 j (nI x)) 21 j B) (by omega) (by omega) hC'
      refine ⟨v, hc', ?_, fun q h1 h2 => by rw [i2 q h1 h2, hset_o h2, hset_o h1], fun hm hM ha => ?_⟩
      · rw [fX4_order_L27, if_pos (nI_lt hlt (by omega)), pq hc hC, Option.bind_some, q_value hC hW (by omega) hcn, Option.bind_some, hv, if_neg hx4]
        have := q_bst (N := N) (a1 := nI g) (u2 := nI (LG V g).length) (u3 := u3) (v := nI x) (k27 := fX4_order_L27 N (nI g) fuel) (h := hc) (n := j) (by omega) j 0 N 1 (by omega) (by omega)
        rw [← hB] at this
        exact this.trans i1
      · obtain ⟨hm1, hm1e⟩ : ∃ hm1 : Hp, hm1 = hset (hset hm 32 j (nI x)) 33 j 1 := ⟨_, rfl⟩
        have f32 : ∀ i, i ≠ j → hm1 32 i = hm 32 i := fun i hi => by rw [hm1e, hset_o (by decide), hset_s, pk_un hi]
        have f33 : ∀ i, i ≠ j → hm1 33 i = hm 33 i := fun i hi => by rw [hm1e, hset_s, pk_un hi, hset_o (by decide)]
        have g32 : hm1 32 j = nI x := by rw [hm1e, hset_o (by decide), hset_s, pk_us]
        have g33 : hm1 33 j = 1 := by rw [hm1e, hset_s, pk_us]
        have fo : ∀ q, q ≠ 32 → q ≠ 33 → hm1 q = hm q := fun q h1 h2 => by rw [hm1e, hset_o h2, hset_o h1]
        obtain ⟨hm2, w1, w2, w3, w4⟩ := m_bst (N := N) (a1 := nI g) (u2 := nI (LG V g).length) (u3 := u3) (v := nI x) (k21 := fX5_order_L21 N (nI g) fuel) (vals := hc 20) (runs := hc 21) (n := j) (by omega) j 0 N 1 hm1 (by omega) (by omega) (fun i hi => ⟨by rw [f32 i (by omega)]; exact (ha i hi).1, by rw [f33 i (by omega)]; exact (ha i hi).2⟩) g32 g33
        rw [← hB] at w1 w4
        obtain ⟨hm', j1, j2⟩ := i3 hm2 (by rw [w2 23 (by decide), fo 23 (by decide) (by decide)]; exact hM) (fun i hi => by
          by_cases hij : i = j
          · subst hij
            refine ⟨?_, ?_⟩
            · rw [w2 32 (by decide), g32, hset_o (by decide), hset_s, pk_us]
            · rw [w4, hset_s, pk_us]
          · refine ⟨?_, ?_⟩
            · rw [w2 32 (by decide), f32 i hij, hset_o (by decide), hset_s, pk_un hij]; exact (ha i (by omega)).1
            · rw [w3 i hij, f33 i hij, hset_s, pk_un hij, hset_o (by decide)]; exact (ha i (by omega)).2)
        refine ⟨hm', ?_, fun q h1 h2 => by rw [j2 q h1 h2, w2 q h2, fo q h1 h2]⟩
        rw [fX5_order_L21, if_pos (nI_lt hlt (by omega)), pm hm hM, Option.bind_some, m_value hM hW (by omega) hcn, Option.bind_some, hv, if_pos hin, hclp, Option.bind_some, rd_nI (by omega) (by omega), Option.bind_some, hset_s, pk_us, if_neg hx4, Option.bind_some, show encP (some x) = nI x from rfl, ← hm1e, if_pos hin]
        exact w1.trans j1
theorem st_order (N : Nat) (hN : 70000 ≤ N) : SF_order N RR := by
  intro k h hk hR a1
  obtain ⟨hT, hD, ⟨V, hW, hC, hM⟩, hU, hK⟩ := id hR
  unfold fX4_order fX5_order
  rcases grp_case hC hM hW a1 with ⟨h1, h2⟩ | ⟨h1, h2, g, hg, rfl⟩
  · exact ⟨-1, h, h, by rw [h1, if_pos rfl], by rw [h2, if_pos rfl], RR_mono k h hR⟩
  have hg5 : g < 5 := by have := hW.1.2; omega
  have hl16 : (LG V g).length ≤ 16 := by
    have := List.length_filter_le (inG V g) (vL V)
    have := L_len hW
    unfold LG
    omega
  obtain ⟨v, hc', i1, i2, i3⟩ := order_L (g := g) hk hN hW hg5 hl16 (LG V g).length 0 N 0 h (by omega) (by omega) hC
  obtain ⟨hm', j1, j2⟩ := i3 hc' (by rw [i2 23 (by decide) (by decide)]; exact hM) (fun i hi => by omega)
  have fr : ∀ q, q ≠ 20 → q ≠ 21 → q ≠ 32 → q ≠ 33 → hm' q = h q := fun q q1 q2 q3 q4 => by rw [j2 q q3 q4, i2 q q1 q2]
  have e0 : fX5_isGroup hc' (nI g) = 1 := by rw [← h2]; unfold fX5_isGroup; rw [i2 23 (by decide) (by decide)]; rfl
  have fr' : ∀ q, q ≠ 20 → q ≠ 21 → q ≠ 32 → q ≠ 33 → hm' q = h q := fr
  refine ⟨v, hc', hm', ?_, ?_, RR_mono k hm' (RR_frame hR ?_ ?_ (fr 7 (by decide) (by decide) (by decide) (by decide)) (by rw [fr 8 (by decide) (by decide) (by decide) (by decide)]) (fr 9 (by decide) (by decide) (by decide) (by decide)) (by rw [fr 10 (by decide) (by decide) (by decide) (by decide)]) (fr 11 (by decide) (by decide) (by decide) (by decide)) (fr 23 (by decide) (by decide) (by decide) (by decide)) (fr 24 (by decide) (by decide) (by decide) (by decide)) (fr 25 (by decide) (by decide) (by decide) (by decide)) (by rw [fr 22 (by decide) (by decide) (by decide) (by decide)]) (by rw [fr 22 (by decide) (by decide) (by decide) (by decide)]))⟩
  · rw [h1, if_neg n10, q_pend hC hW (by omega) hg5, Option.bind_some]
    exact i1
  · rw [e0, if_neg n10, m_many (by rw [i2 23 (by decide) (by decide)]; exact hM) hW (by omega) (by omega), Option.bind_some]
    exact j1
  · exact TX_frame hT (fr 0 (by decide) (by decide) (by decide) (by decide)) (fr 1 (by decide) (by decide) (by decide) (by decide)) (fr 26 (by decide) (by decide) (by decide) (by decide)) (by rw [fr 22 (by decide) (by decide) (by decide) (by decide)])
  · exact DY_frame hD (by rw [fr 8 (by decide) (by decide) (by decide) (by decide)]) (by rw [fr 10 (by decide) (by decide) (by decide) (by decide)]) (by rw [fr 12 (by decide) (by decide) (by decide) (by decide)]) (by rw [fr 12 (by decide) (by decide) (by decide) (by decide)])
