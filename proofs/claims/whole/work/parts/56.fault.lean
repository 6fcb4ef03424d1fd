/-! fault and lay -/
def V0 : Vw := (0, 0, fun _ => 0, fun _ => 0, fun _ _ => 0, fun _ => none, fun _ => 0, fun _ => false, fun _ => 0, fun _ => 0, [])
theorem PI_0 (L : Nat → Nat) : PI V0 0 0 false L := by
  refine ⟨⟨Nat.zero_le _, Nat.zero_le _, by omega, by omega, fun _ => rfl, fun q => absurd rfl q, fun q => by omega⟩, fun c hc => absurd hc (Nat.not_lt_zero _), fun c hc => absurd hc (Nat.not_lt_zero _), fun q => by omega, fun q => by omega, rfl, fun c d hc => absurd hc (Nat.not_lt_zero _), fun c hc => absurd hc (Nat.not_lt_zero _), fun c p hc => absurd hc (Nat.not_lt_zero _), fun e he => by unfold kk at he; rw [if_pos (by omega)] at he; omega⟩
theorem zero_m {N : Nat} : ∀ (m j fuel : Nat) (h : Hp), j + m = 162 → m < fuel → (∀ i, i < j → h 27 i = 0) → ∃ h' : Hp, fX5_fault_L2 N fuel (nI j) h = fX5_fault_L29 N N 0 h' ∧ (∀ i, i < 162 → h' 27 i = 0) ∧ h' 22 8 = 0 ∧ (∀ q, q ≠ 22 → q ≠ 27 → h' q = h q) ∧ (∀ i, i ≠ 8 → h' 22 i = h 22 i) := by
  intro m
  induction m with
  | zero =>
    intro j fuel h hj hf hi
    obtain ⟨fuel, rfl⟩ : ∃ f, fuel = f + 1 := ⟨fuel - 1, by omega⟩
    refine ⟨hset h 22 8 0, ?_, fun i hi2 => by rw [hset_o (by decide)]; exact hi i (by omega), by rw [hset_s, pk_us], fun q q1 q2 => hset_o q1, fun i hi => by rw [hset_s, pk_un hi]⟩
    rw [fX5_fault_L2, if_neg (show ¬ nI j < (162 : Int32) from nlt_lit (b := 162) (by omega) (by omega) (by omega)), Option.bind_some]
  | succ m ih =>
    intro j fuel h hj hf hi
    obtain ⟨fuel, rfl⟩ : ∃ f, fuel = f + 1 := ⟨fuel - 1, by omega⟩
    obtain ⟨h', w1, w2, w3, w4, w5⟩ := ih (j + 1) fuel (hset h 27 j 0) (by omega) (by omega) (fun i hij => by
      rw [hset_s]
      by_cases e : i = j
      · subst e; rw [pk_us]
      · rw [pk_un e]; exact hi i (by omega))
    refine ⟨h', ?_, w2, w3, fun q q1 q2 => by rw [w4 q q1 q2, hset_o q2], fun i hi => by rw [w5 i hi, hset_o (by decide)]⟩
    rw [fX5_fault_L2, if_pos (show nI j < (162 : Int32) from nI_lt (b := 162) (by omega) (by omega)), rng (by omega) (by omega), nI_clamp (by omega), Option.bind_some, nI_1]
    exact w1
theorem read_all {N : Nat} (hN : 70000 ≤ N) {m : Nat} (hm : m ≤ 200) (lt : Nat → Int32) : ∃ (v : Int32) (W : Vw), (v = -4 → Wf 0 W) ∧ (∀ h : Hp, (∀ j, j < m → h 1 j = lt j) → ∃ h', fX1_read N h 1 200 (nI m) = some (v, h') ∧ FrC h' h ∧ (v = -4 → RowV (h' 4) W)) ∧ (∀ h : Hp, h 22 6 = nI m → (∀ j, j < m → h 26 j = lt j) → ∃ h', fX5_fault N h = some (v, h') ∧ FrM h' h ∧ (v = -4 → ModV (h' 27) W)) := by
  obtain ⟨v, W, w1, w2, w3⟩ := read_L (N := N) hN hm (lt := lt) m 0 V0 0 0 false (fun _ => 0) (by omega) (PI_0 _)
  refine ⟨v, W, w1, fun h hl => ?_, fun h h6 hl => ?_⟩
  · obtain ⟨h1, a1, a2, a3⟩ := fill_all (N := N) (n := 179) (a := 0) (q := 4) (by omega) (by omega) h
    obtain ⟨h2, hh2⟩ : ∃ h2, h2 = hset (hset (hset h1 2 2 0) 2 3 0) 2 4 0 := ⟨_, rfl⟩
    have f2 : ∀ q, q ≠ 2 → q ≠ 4 → h2 q = h q := fun q q1 q2 => by rw [hh2, hset_o q1, hset_o q1, hset_o q1, a2 q q2]
    have f4 : ∀ i, i < 179 → h2 4 i = 0 := fun i hi => by rw [hh2, hset_o (by decide), hset_o (by decide), hset_o (by decide), a3 i hi]
    have hRC : RC h2 V0 0 0 false (fun _ => 0) := ⟨⟨f4 176 (by omega), f4 177 (by omega), f4 178 (by omega), fun i hi => absurd hi (Nat.not_lt_zero _), fun c hc => absurd hc (Nat.not_lt_zero _)⟩, by rw [hh2, hset_s, pk_un (by decide), hset_s, pk_un (by decide), hset_s, pk_us]; rfl, by rw [hh2, hset_s, pk_un (by decide), hset_s, pk_us]; rfl, by rw [hh2, hset_s, pk_us]; rfl, fun e he => by unfold kk at he; rw [if_pos (by omega)] at he; omega⟩
    obtain ⟨h', y1, y2, y3⟩ := w2 h2 N (by omega) hRC (fun j hj => by rw [f2 1 (by decide) (by decide)]; exact hl j hj)
    refine ⟨h', ?_, fun q q2 q4 q5 => by rw [y2 q q2 q4 q5, f2 q q2 q4], y3⟩
    unfold fX1_read fX0_clear
    rw [a1, Option.bind_some, Option.bind_some, Option.bind_some]
    show fX1_read_L24 N 1 200 (nI m) N 0 (hset (hset (hset h1 2 2 0) 2 3 0) 2 4 0) = _
    rw [← hh2]
    exact y1
  · obtain ⟨h1, a1, a2, a3, a4, a5⟩ := zero_m (N := N) 162 0 N h (by omega) (by omega) (fun i hi => by omega)
    have hRM : RM h1 V0 0 0 false (fun _ => 0) := ⟨⟨a2 0 (by omega), a2 1 (by omega), fun c hc => absurd hc (Nat.not_lt_zero _)⟩, a3, fun q => absurd rfl q, fun e he => by unfold kk at he; rw [if_pos (by omega)] at he; omega⟩
    obtain ⟨h', y1, y2, y3⟩ := w3 h1 N (by omega) hRM (by rw [a5 6 (by decide)]; exact h6) (fun j hj => by rw [a4 26 (by decide) (by decide)]; exact hl j hj)
    exact ⟨h', a1.trans y1, ⟨fun q q1 q2 q3 => by rw [y2.1 q q1 q2 q3, a4 q q1 q2], fun i h8 h9 h10 => by rw [y2.2 i h8 h9 h10, a5 i h8]⟩, y3⟩
theorem RR_read {k : Nat} {h h1 h2 : Hp} (hR : RR k h) (f1 : FrC h1 h) (f2 : FrM h2 h1) : RR (k + 1) h2 := by
  obtain ⟨hT, hD, hB, hU, hK⟩ := id hR
  have fr : ∀ q, q ≠ 2 → q ≠ 4 → q ≠ 5 → q ≠ 22 → q ≠ 27 → q ≠ 28 → h2 q = h q := fun q q1 q2 q3 q4 q5 q6 => by rw [f2.1 q q4 q5 q6, f1 q q1 q2 q3]
  have f22 : ∀ i, i ≠ 8 → i ≠ 9 → i ≠ 10 → h2 22 i = h 22 i := fun i h8 h9 h10 => by rw [f2.2 i h8 h9 h10, f1 22 (by decide) (by decide) (by decide)]
  have g : ∀ q, (q < 2 ∨ (5 < q ∧ q < 22) ∨ (22 < q ∧ q < 27)) → h2 q = h q := fun q hq => fr q (by omega) (by omega) (by omega) (by omega) (by omega) (by omega)
  exact RR_mono k h2 (RR_frame hR (TX_frame hT (g 0 (by omega)) (g 1 (by omega)) (g 26 (by omega)) (f22 6 (by decide) (by decide) (by decide))) (DY_frame hD (by rw [g 8 (by omega)]) (by rw [g 10 (by omega)]) (by rw [g 12 (by omega)]) (by rw [g 12 (by omega)])) (g 7 (by omega)) (by rw [g 8 (by omega)]) (g 9 (by omega)) (by rw [g 10 (by omega)]) (g 11 (by omega)) (g 23 (by omega)) (g 24 (by omega)) (g 25 (by omega)) (f22 2 (by decide) (by decide) (by decide)) (f22 4 (by decide) (by decide) (by decide)))
theorem st_fault (N : Nat) (hN : 70000 ≤ N) : SF_fault N RR := by
  intro k h hk hR
  obtain ⟨⟨m, m1, m2, m3, m4⟩, -⟩ := id hR
  obtain ⟨v, W, w1, w2, w3⟩ := read_all hN m1 (fun j => h 1 j)
  obtain ⟨h1, a1, a2, a3⟩ := w2 h (fun j hj => rfl)
  obtain ⟨h2, b1, b2', b3⟩ := w3 h1 (by rw [a2 22 (by decide) (by decide) (by decide)]; exact m3) (fun j hj => by rw [a2 26 (by decide) (by decide) (by decide)]; exact (m4 j hj).symm)
  refine ⟨v, h1, h2, ?_, b1, RR_read hR a2 b2'⟩
  unfold fX4_fault
  rw [m2, a1]
  rfl
theorem Wf.up {V : Vw} (h : Wf 0 V) : ∀ k, Wf k V
  | 0 => h
  | k + 1 => (Wf.up h k).mono
theorem st_lay (N : Nat) (hN : 70000 ≤ N) : SF_lay N RR := by
  intro k h hk hR
  obtain ⟨⟨m, m1, m2, m3, m4⟩, hD, -⟩ := id hR
  obtain ⟨v, W, w1, w2, w3⟩ := read_all hN m1 (fun j => h 1 j)
  by_cases hm0 : m = 0
  · -- no text
    obtain ⟨h2, b1, b2', b3⟩ := w3 h m3 (fun j hj => (m4 j hj).symm)
    refine ⟨-2, h, h2, ?_, ?_, RR_read hR (FrC.rf h) b2'⟩
    · unfold fX4_lay
      rw [m2, hm0, if_pos (show nI 0 = (0 : Int32) from rfl)]
    · unfold fX5_lay
      rw [b1, Option.bind_some]
      show (if v = -4 then (if h2 22 6 = 0 then some (-2, h2) else _) else some (-2, h2)) = _
      rw [b2'.2 6 (by decide) (by decide) (by decide), m3, hm0, if_pos (show nI 0 = (0 : Int32) from rfl)]
      split <;> rfl
  obtain ⟨h1, a1, a2, a3⟩ := w2 h (fun j hj => rfl)
  have hne : ¬ nI m = (0 : Int32) := ne_lit (b := 0) (by omega) (by omega) hm0
  by_cases hv : v = -4
  · have hW := w1 hv
    have hrow := a3 hv
    -- the class takes the draft
    obtain ⟨h3, hh3⟩ : ∃ h3, h3 = hset (hset (hcpy h1 4 7 0 0 179) 8 2 0) 10 2 0 := ⟨_, rfl⟩
    have f3 : ∀ q, q ≠ 7 → q ≠ 8 → q ≠ 10 → h3 q = h1 q := fun q q1 q2 q3 => by rw [hh3, hset_o q3, hset_o q2, hcpy_o q1]
    have f7 : ∀ i, i < 179 → h3 7 i = h1 4 i := fun i hi => by
      have := cpy_in (f := h1 4) (g := h1 7) (s := 0) (d := 0) (n := 179) (i := i) hi
      rw [hh3, hset_o (by decide), hset_o (by decide), hcpy_s]
      simpa using this
    have f8 : ∀ i, i ≠ 2 → h3 8 i = h1 8 i := fun i hi => by rw [hh3, hset_o (by decide), hset_s, pk_un hi, hcpy_o (by decide)]
    have f10 : ∀ i, i ≠ 2 → h3 10 i = h1 10 i := fun i hi => by rw [hh3, hset_s, pk_un hi, hset_o (by decide), hcpy_o (by decide)]
    have hrow3 : RowV (h3 7) W := RowV_congr hW f7 hrow
    obtain ⟨h4, b1, b2', b3⟩ := w3 h3 (by rw [f3 22 (by decide) (by decide) (by decide), a2 22 (by decide) (by decide) (by decide)]; exact m3) (fun j hj => by rw [f3 26 (by decide) (by decide) (by decide), a2 26 (by decide) (by decide) (by decide)]; exact (m4 j hj).symm)
    have hmod := b3 hv
    obtain ⟨h5, hh5⟩ : ∃ h5, h5 = hset (hset (hcpy h4 27 23 0 0 162) 22 2 0) 22 4 0 := ⟨_, rfl⟩
    have g5 : ∀ q, q ≠ 22 → q ≠ 23 → h5 q = h4 q := fun q q1 q2 => by rw [hh5, hset_o q1, hset_o q1, hcpy_o q2]
    have g22 : ∀ i, i ≠ 2 → i ≠ 4 → h5 22 i = h4 22 i := fun i q1 q2 => by rw [hh5, hset_s, pk_un q2, hset_s, pk_un q1, hcpy_o (by decide)]
    have g23 : ∀ i, i < 162 → h5 23 i = h4 27 i := fun i hi => by
      have := cpy_in (f := h4 27) (g := h4 23) (s := 0) (d := 0) (n := 162) (i := i) hi
      rw [hh5, hset_o (by decide), hset_o (by decide), hcpy_s]
      simpa using this
    have hmod5 : ModV (h5 23) W := ModV_congr hW g23 hmod
    have fin : ∀ q, (q < 2 ∨ (5 < q ∧ q < 22) ∨ (23 < q ∧ q < 27)) → h5 q = h3 q := fun q hq => by rw [g5 q (by omega) (by omega), b2'.1 q (by omega) (by omega) (by omega)]
    have fin1 : ∀ q, (q < 2 ∨ q = 12 ∨ q = 26) → h5 q = h q := fun q hq => by rw [fin q (by omega), f3 q (by omega) (by omega) (by omega), a2 q (by omega) (by omega) (by omega)]
    refine ⟨nI (vN W), h3, h5, ?_, ?_, ?_⟩
    · have ecp : fX4_copyRow h1 4 179 0 7 179 0 = some (0, hcpy h1 4 7 0 0 179) := copyRow_eq h1 (q0 := 4) (n0 := 179) (q2 := 7) (n2 := 179) (s := 0) (g := 0) (by omega) (by omega) (by omega) (by omega)
      unfold fX4_lay fX0_becomeAs fX3_clear
      rw [m2, if_neg hne, a1, Option.bind_some]
      show (if v = -4 then _ else _) = _
      rw [if_pos hv, show fX4_copyRow h1 4 179 0 7 179 0 = some (0, hcpy h1 4 7 0 0 179) from ecp, Option.bind_some, Option.bind_some, Option.bind_some]
      show some (fX0_cords (hset (hset (hcpy h1 4 7 0 0 179) 8 2 0) 10 2 0) 7, hset (hset (hcpy h1 4 7 0 0 179) 8 2 0) 10 2 0) = _
      rw [← hh3, q_cords hrow3]
    · have ecp : fX5_copies N h4 27 162 0 23 162 0 = some (0, hcpy h4 27 23 0 0 162) := copies_eq (N := N) (q0 := 27) (n0 := 162) (q2 := 23) (n2 := 162) (i := 0) (j := 0) (by omega) h4 (by decide) (by omega) (by omega) (by omega) (by omega)
      unfold fX5_lay
      rw [b1, Option.bind_some]
      show (if v = -4 then (if h4 22 6 = 0 then some (-2, h4) else ((fX5_begins N h4).bind fun z2 => (some ((z2.2 23 0), z2.2)))) else some (-2, h4)) = _
      rw [if_pos hv, b2'.2 6 (by decide) (by decide) (by decide), f3 22 (by decide) (by decide) (by decide), a2 22 (by decide) (by decide) (by decide), m3, if_neg hne]
      unfold fX5_begins
      rw [ecp, Option.bind_some]
      show some (hset (hset (hcpy h4 27 23 0 0 162) 22 2 0) 22 4 0 23 0, hset (hset (hcpy h4 27 23 0 0 162) 22 2 0) 22 4 0) = _
      rw [← hh5, hmod5.1]
    · refine ⟨TX_frame ⟨m, m1, m2, m3, m4⟩ (fin1 0 (by omega)) (fin1 1 (by omega)) (fin1 26 (by omega)) ?_, DY_frame hD ?_ ?_ (by rw [fin1 12 (by omega)]) (by rw [fin1 12 (by omega)]), ⟨W, hW.up _, by rw [fin 7 (by omega)]; exact hrow3, hmod5⟩, ⟨0, by omega, ?_, ?_, fun j hj => by omega⟩, ⟨0, by omega, ?_, ?_, fun j hj => by omega⟩⟩
      · rw [g22 6 (by decide) (by decide), b2'.2 6 (by decide) (by decide) (by decide), f3 22 (by decide) (by decide) (by decide), a2 22 (by decide) (by decide) (by decide)]
      · rw [fin 8 (by omega), f8 0 (by decide), a2 8 (by decide) (by decide) (by decide)]
      · rw [fin 10 (by omega), f10 0 (by decide), a2 10 (by decide) (by decide) (by decide)]
      · rw [fin 8 (by omega), hh3, hset_o (by decide), hset_s, pk_us]; rfl
      · rw [hh5, hset_s, pk_un (by decide), hset_s, pk_us]; rfl
      · rw [fin 10 (by omega), hh3, hset_s, pk_us]; rfl
      · rw [hh5, hset_s, pk_us]; rfl
  · obtain ⟨h2, b1, b2', b3⟩ := w3 h1 (by rw [a2 22 (by decide) (by decide) (by decide)]; exact m3) (fun j hj => by rw [a2 26 (by decide) (by decide) (by decide)]; exact (m4 j hj).symm)
    refine ⟨-2, h1, h2, ?_, ?_, RR_read hR a2 b2'⟩
    · unfold fX4_lay
      rw [m2, if_neg hne, a1, Option.bind_some]
      show (if v = -4 then _ else _) = _
      rw [if_neg hv]
    · unfold fX5_lay
      rw [b1, Option.bind_some]
      show (if v = -4 then _ else _) = _
      rw [if_neg hv]
