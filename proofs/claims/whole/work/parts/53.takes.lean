/-! one letter, on both sides -/
def FrC (h' h : Hp) : Prop := ∀ q, q ≠ 2 → q ≠ 4 → q ≠ 5 → h' q = h q
def FrM (h' h : Hp) : Prop := (∀ q, q ≠ 22 → q ≠ 27 → q ≠ 28 → h' q = h q) ∧ ∀ i, i ≠ 8 → i ≠ 9 → i ≠ 10 → h' 22 i = h 22 i
theorem FrC.rf (h : Hp) : FrC h h := fun _ _ _ _ => rfl
theorem FrM.rf (h : Hp) : FrM h h := ⟨fun _ _ _ _ => rfl, fun _ _ _ _ => rfl⟩
def LK (V : Vw) (s d : Nat) (b : Bool) (L : Nat → Nat) (f g : Hp → Option Rs) : Prop := (∃ (V' : Vw) (s' d' : Nat) (b' : Bool) (L' : Nat → Nat), PI V' s' d' b' L' ∧ (∀ h, RC h V s d b L → ∃ h', f h = some (1, h') ∧ RC h' V' s' d' b' L' ∧ FrC h' h) ∧ (∀ h, RM h V s d b L → ∃ h', g h = some (1, h') ∧ RM h' V' s' d' b' L' ∧ FrM h' h)) ∨ ((∀ h, RC h V s d b L → f h = some (0, h)) ∧ (∀ h, RM h V s d b L → g h = some (0, h)))
def WR (F : Option Rs → Option Rs) : Prop := ∀ h : Hp, F (some (1, h)) = some (1, h) ∧ F (some (0, h)) = some (0, h)
theorem LK.wr {V : Vw} {s d : Nat} {b : Bool} {L : Nat → Nat} {f g f' g' : Hp → Option Rs} {F G : Option Rs → Option Rs} (h : LK V s d b L f g) (hF : WR F) (hG : WR G) (ef : ∀ h, RC h V s d b L → f' h = F (f h)) (eg : ∀ h, RM h V s d b L → g' h = G (g h)) : LK V s d b L f' g' := by
  rcases h with ⟨V', s', d', b', L', p1, p2, p3⟩ | ⟨p2, p3⟩
  · refine Or.inl ⟨V', s', d', b', L', p1, fun h hR => ?_, fun h hR => ?_⟩
    · obtain ⟨h', q1, q2⟩ := p2 h hR
      exact ⟨h', by rw [ef h hR, q1]; exact (hF h').1, q2⟩
    · obtain ⟨h', q1, q2⟩ := p3 h hR
      exact ⟨h', by rw [eg h hR, q1]; exact (hG h').1, q2⟩
  · exact Or.inr ⟨fun h hR => by rw [ef h hR, p2 h hR]; exact (hF h).2, fun h hR => by rw [eg h hR, p3 h hR]; exact (hG h).2⟩
theorem wr_id : WR (fun x => x) := fun _ => ⟨rfl, rfl⟩
theorem wr_ok : WR (fun x => x.bind fun z => (if z.1 = 0 ∨ z.1 = 1 then (some (z.1, z.2)) else none)) := fun h => ⟨rfl, rfl⟩
theorem wr_01 : WR (fun x => x.bind fun z => (if z.1 = 0 then (some (0, z.2)) else (some (1, z.2)))) := fun h => ⟨rfl, rfl⟩
/-! letters that are digits -/
theorem dg_cases (a : Int32) : (∃ j, j < 10 ∧ a = nI (48 + j)) ∨ (∀ j, j < 10 → a ≠ nI (48 + j)) := by
  by_cases h : ∃ j, j < 10 ∧ a = nI (48 + j)
  · exact Or.inl h
  · exact Or.inr (fun j hj e => h ⟨j, hj, e⟩)
theorem dg_sub (j : Nat) : nI (48 + j) - 48 = nI j := by rw [show (48 : Int32) = nI 48 from rfl, pk_sub (by omega), Nat.add_sub_cancel_left]
theorem dg_back {a : Int32} {j : Nat} (h : a - 48 = nI j) : a = nI (48 + j) := by
  have : a - 48 + 48 = nI j + 48 := by rw [h]
  rw [Int32.sub_add_cancel] at this
  rw [this, show (48 : Int32) = nI 48 from rfl, nI_add, Nat.add_comm]
theorem isC_yes (h : Hp) {j : Nat} (hj : j < 10) : fX4_isColour h (nI j) = 1 := by
  unfold fX4_isColour
  rw [if_neg (nI_pos (by omega)), if_neg (show ¬ (9 : Int32) < nI j from nlt_lit (a := 9) (by omega) (by omega) (by omega))]
theorem isC_no (h : Hp) {a : Int32} (ha : ∀ j, j < 10 → a ≠ nI (48 + j)) : fX4_isColour h (a - 48) = 0 := by
  unfold fX4_isColour
  rcases bd_case (n := 10) (by omega) (by omega) (a - 48) with ⟨j, hj, e, -⟩ | q | ⟨q1, q2, q3⟩
  · exact absurd (dg_back e) (ha j hj)
  · rw [if_pos q]
  · rw [if_neg q1, if_pos (show (9 : Int32) < a - 48 from q2)]
theorem in_dg (h : Hp) {l j : Nat} (hl : l < 10) (hj : j < 10) {lo : Int64} (elo : lo.toInt = 48 + l) : fX5_in h (nI (48 + j)).toInt64 lo 57 = if l ≤ j then 1 else 0 := by
  have e57 : (57 : Int64).toInt = 57 := rfl
  by_cases q : l ≤ j
  · rw [if_pos q, in_yes h (by rw [Int32.toInt_toInt64, nI_toInt (by omega), elo]; omega) (by rw [Int32.toInt_toInt64, nI_toInt (by omega), e57]; omega)]
  · rw [if_neg q, in_no h (by rw [Int32.toInt_toInt64, nI_toInt (by omega), elo]; omega)]
theorem in_ndg (h : Hp) {a : Int32} (ha : ∀ j, j < 10 → a ≠ nI (48 + j)) {l : Nat} {lo : Int64} (elo : lo.toInt = 48 + l) : fX5_in h a.toInt64 lo 57 = 0 := by
  have e57 : (57 : Int64).toInt = 57 := rfl
  refine in_no h ?_
  rw [Int32.toInt_toInt64, elo, e57]
  by_cases q : a.toInt < 48 + l
  · exact Or.inl q
  · right
    by_cases q2 : 57 < a.toInt
    · exact q2
    · exfalso
      refine ha (a.toInt - 48).toNat (by omega) ?_
      apply Int32.toInt_inj.mp
      rw [nI_toInt (by omega)]
      omega
theorem cc_dec : ∀ j, j < 10 → fX4_canCount (fun _ _ => 0) 1 (nI j) = (if 1 ≤ j then 1 else 0) ∧ fX4_canCount (fun _ _ => 0) 2 (nI j) = (if 2 ≤ j then 1 else 0) := by decide +kernel
theorem cc_1 (h : Hp) {j : Nat} (hj : j < 10) : fX4_canCount h 1 (nI j) = if 1 ≤ j then 1 else 0 := (cc_dec j hj).1
theorem cc_2 (h : Hp) {j : Nat} (hj : j < 10) : fX4_canCount h 2 (nI j) = if 2 ≤ j then 1 else 0 := (cc_dec j hj).2
theorem cc_no (h : Hp) {a : Int32} (ha : ∀ j, j < 10 → a ≠ nI (48 + j)) : fX4_canCount h 1 (a - 48) = 0 ∧ fX4_canCount h 2 (a - 48) = 0 := by
  have e1 : (1 : Int32).toInt = 1 := rfl
  have e2 : (2 : Int32).toInt = 2 := rfl
  have e9 : (9 : Int32).toInt = 9 := rfl
  unfold fX4_canCount
  rcases bd_case (n := 10) (by omega) (by omega) (a - 48) with ⟨j, hj, e, -⟩ | q | ⟨q1, q2, q3⟩
  · exact absurd (dg_back e) (ha j hj)
  · have q' := q
    rw [Int32.lt_iff_toInt_lt, show (0 : Int32).toInt = 0 from rfl] at q'
    refine ⟨?_, ?_⟩
    · rw [if_neg (by decide), if_pos rfl, if_pos (by rw [Int32.lt_iff_toInt_lt, e1]; omega)]
    · rw [if_neg (by decide), if_neg (by decide), if_pos rfl, if_pos (by rw [Int32.lt_iff_toInt_lt, e2]; omega)]
  · have q' : (9 : Int32) < a - 48 := q2
    have q'' := q'
    rw [Int32.lt_iff_toInt_lt, e9] at q''
    refine ⟨?_, ?_⟩
    · rw [if_neg (by decide), if_pos rfl, if_neg (by rw [Int32.lt_iff_toInt_lt, e1]; omega), if_pos q']
    · rw [if_neg (by decide), if_neg (by decide), if_pos rfl, if_neg (by rw [Int32.lt_iff_toInt_lt, e2]; omega), if_pos q']
section TK
variable {V : Vw} {s d N : Nat} {b : Bool} {L : Nat → Nat}
theorem PI.sz (h : PI V s d b L) : ∀ c, c < vN V → vSiz V c ≤ 4 := fun c hc => (h.2.1 c hc).2.1
theorem PI.ll (h : PI V s d b L) : (vL V).length ≤ vN V := by rw [h.2.2.2.2.2.1]; exact filter_len_le _
theorem c_cord (hP : PI V s d b L) (hs : s ≠ 0) (hn : vN V < 16) {j : Nat} (hj : j < 10) {h : Hp} (hR : RC h V s d b L) : ∃ h', fX1_opensCord h (nI (48 + j)) = some (1, h') ∧ RC h' (vAddC V j (parO L d) d (decide (d = 0) && b)) 2 d b (uL L d (vN V)) ∧ FrC h' h := by
  have hb := hP.1
  have hd2 := hb.2.2.1
  have hg0 : 0 < vG V := hb.2.2.2.2.2.1 hs
  have hkd : d ≤ kk s d := by unfold kk; split <;> omega
  obtain ⟨r1, r2, r3, r4, r5⟩ := hR
  obtain ⟨h1, hh1⟩ : ∃ h1, h1 = hset h 5 d (nI (vN V)) := ⟨_, rfl⟩
  have f1 : ∀ q, q ≠ 5 → h1 q = h q := fun q hq => by rw [hh1, hset_o hq]
  have cl : cel h1 4 (h 4) = h1 := by rw [← f1 4 (by decide)]; exact cel_id
  obtain ⟨R, e1, e2⟩ : ∃ R, fX0_addCord h1 4 (nI j) (encP (parO L d)) (nI d) (b2 (decide (d = 0) && b)) = some (0, cel h1 4 R) ∧ RowV R (vAddC V j (parO L d) d (decide (d = 0) && b)) := by
    have ea := add_rowC (hh := h1) (row := h 4) (n := vN V) (col := j) (len := (vL V).length) (vg := vG V) (d := d) (par := encP (parO L d)) (t := decide (d = 0) && b) r1.1 r1.2.1 r1.2.2.1 hn hP.ll hg0 hd2
    rw [cl] at ea
    exact ⟨_, ea, RowV.addC (col := j) (d := d) (t := decide (d = 0) && b) (par := parO L d) r1 hn hP.ll hP.sz⟩
  have tt : (if nI d = 0 then (if b2 b = 0 then (0 : Int32) else 1) else 0) = b2 (decide (d = 0) && b) := by
    by_cases h1 : d = 0
    · subst h1
      rw [if_pos (show nI 0 = (0 : Int32) from rfl)]
      cases b <;> rfl
    · rw [if_neg (show ¬ nI d = (0 : Int32) from ne_lit (b := 0) (by omega) (by omega) h1), decide_eq_false h1]
      rfl
  have ep : (if nI d = 0 then (-4 : Int32) else (atF h1 5 3 (nI d - 1))) = encP (parO L d) := by
    unfold parO
    by_cases h0 : d = 0
    · subst h0
      rw [if_pos (show nI 0 = (0 : Int32) from rfl), if_pos rfl]; rfl
    · rw [if_neg (show ¬ nI d = (0 : Int32) from ne_lit (b := 0) (by omega) (by omega) h0), if_neg h0, show (1 : Int32) = nI 1 from rfl, pk_sub (by omega), at_nI (by omega) (by omega), hh1, hset_s, pk_un (by omega), r5 (d - 1) (by omega)]
      rfl
  refine ⟨hset (cel h1 4 R) 2 2 2, ?_, ⟨by rw [hset_o (by decide), cel_s]; exact e2, by rw [hset_s, pk_us]; rfl, ?_, ?_, fun e he => ?_⟩, fun q q2 q4 q5 => by rw [hset_o q2, cel_o q4, f1 q q5]⟩
  · unfold fX1_opensCord
    rw [dg_sub, isC_yes h hj, if_neg n10, q_cords r1, if_pos (show nI (vN V) < (16 : Int32) from nI_lt (b := 16) hn (by omega)), r3, put_nI (by omega) (by omega), Option.bind_some, ← hh1]
    unfold fX1_opensCord_J74 fX1_opensCord_J97
    rw [f1 2 (by decide), r3, r4, tt, ep, e1, Option.bind_some]
    rfl
  · rw [hset_s, pk_un (by decide), cel_o (by decide), f1 2 (by decide)]; exact r3
  · rw [hset_s, pk_un (by decide), cel_o (by decide), f1 2 (by decide)]; exact r4
  · have hk2 : kk 2 d = d + 1 := by unfold kk; rw [if_neg (by omega)]
    rw [hset_o (by decide), cel_o (by decide), hh1, hset_s]
    by_cases q : e = d
    · subst q; rw [pk_us, uL_s]
    · rw [pk_un q, uL_o q]
      exact r5 e (by omega)
theorem m_cord (hP : PI V s d b L) (hs : s ≠ 0) (hn : vN V < 16) {j : Nat} (hj : j < 10) {h : Hp} (hR : RM h V s d b L) : ∃ h', fX5_takesColour h (nI j) = some (1, h') ∧ RM h' (vAddC V j (parO L d) d (decide (d = 0) && b)) 2 d b (uL L d (vN V)) ∧ FrM h' h := by
  have hb := hP.1
  have hd2 := hb.2.2.1
  have hg0 : 0 < vG V := hb.2.2.2.2.2.1 hs
  have hkd : d ≤ kk s d := by unfold kk; split <;> omega
  obtain ⟨r1, r2, r34, r5⟩ := hR
  obtain ⟨r3, r4⟩ := r34 hs
  obtain ⟨R, e1, e2⟩ : ∃ R, fX5_takesColour h (nI j) = some (1, hset (hset (cel h 27 R) 28 d (nI (vN V))) 22 8 2) ∧ ModV R (vAddC V j (parO L d) d (decide (d = 0) && b)) := by
    have ea := add_modC (hh := h) (a := h 27) (n := vN V) (col := j) (vg := vG V) (d := d) (b := b) (t := decide (d = 0) && b) (L := L) r1.1 r1.2.1 hn hg0 hd2 r3 r4 rfl (fun h0 => r5 (d - 1) (by omega))
    rw [cel_id] at ea
    exact ⟨_, ea, ModV.addC (col := j) (d := d) (t := decide (d = 0) && b) (par := parO L d) r1 hn hP.sz⟩
  refine ⟨_, e1, ⟨by rw [hset_o (by decide), hset_o (by decide), cel_s]; exact e2, by rw [hset_s, pk_us]; rfl, fun _ => ⟨?_, ?_⟩, fun e he => ?_⟩, fun q q2 q4 q5 => by rw [hset_o q2, hset_o q5, cel_o q4], fun i h8 h9 h10 => by rw [hset_s, pk_un h8, hset_o (by decide), cel_o (by decide)]⟩
  · rw [hset_s, pk_un (by decide), hset_o (by decide), cel_o (by decide)]; exact r3
  · rw [hset_s, pk_un (by decide), hset_o (by decide), cel_o (by decide)]; exact r4
  · have hk2 : kk 2 d = d + 1 := by unfold kk; rw [if_neg (by omega)]
    rw [hset_o (by decide), hset_s]
    by_cases q : e = d
    · subst q; rw [pk_us, uL_s]
    · rw [pk_un q, uL_o q, cel_o (by decide)]
      exact r5 e (by omega)
theorem lk_cord (hP : PI V s d b L) (hs : s = 1 ∨ ((s = 5 ∨ s = 6) ∧ ¬ (d = 0 ∧ b = true))) (a : Int32) : LK V s d b L (fun h => fX1_opensCord h a) (fun h => (if (fX5_in h (a).toInt64 48 57) = 0 then (some (0, h)) else (if (fX5_hasRoom h) = 0 then (some (0, h)) else fX5_takesColour h (a - 48)))) := by
  have hb := hP.1
  rcases dg_cases a with ⟨j, hj, rfl⟩ | hno
  · have e48 : ∀ h : Hp, fX5_in h (nI (48 + j)).toInt64 48 57 = 1 := fun h => by
      have := in_dg h (l := 0) (j := j) (by omega) hj (lo := 48) rfl
      rw [if_pos (Nat.zero_le _)] at this
      exact this
    by_cases hn : vN V < 16
    · refine Or.inl ⟨_, _, _, _, _, hP.cord (col := j) hs hn (by omega), fun h hR => c_cord hP (by omega) hn hj hR, fun h hR => ?_⟩
      obtain ⟨h', w1, w2⟩ := m_cord hP (by omega) hn hj hR
      refine ⟨h', ?_, w2⟩
      show (if fX5_in h (nI (48 + j)).toInt64 48 57 = 0 then _ else _) = _
      rw [e48, if_neg n10]
      unfold fX5_hasRoom
      rw [hR.1.1, if_pos (show nI (vN V) < (16 : Int32) from nI_lt (b := 16) hn (by omega)), if_neg n10, dg_sub]
      exact w1
    · refine Or.inr ⟨fun h hR => ?_, fun h hR => ?_⟩
      · show fX1_opensCord h (nI (48 + j)) = _
        unfold fX1_opensCord
        rw [dg_sub, isC_yes h hj, if_neg n10, q_cords hR.1, if_neg (show ¬ nI (vN V) < (16 : Int32) from nlt_lit (b := 16) (by omega) (by omega) hn)]
      · show (if fX5_in h (nI (48 + j)).toInt64 48 57 = 0 then _ else _) = _
        rw [e48, if_neg n10]
        unfold fX5_hasRoom
        rw [hR.1.1, if_neg (show ¬ nI (vN V) < (16 : Int32) from nlt_lit (b := 16) (by omega) (by omega) hn), if_pos rfl]
  · refine Or.inr ⟨fun h hR => ?_, fun h hR => ?_⟩
    · show fX1_opensCord h a = _
      unfold fX1_opensCord
      rw [isC_no h hno, if_pos rfl]
    · show (if fX5_in h a.toInt64 48 57 = 0 then _ else _) = _
      rw [in_ndg h hno (l := 0) (lo := 48) rfl, if_pos rfl]
theorem lk_clu (hP : PI V s d b L) (hs : s = 2 ∨ s = 3 ∨ s = 4 ∨ s = 5) (hz : vSiz V (vN V - 1) < 4) (hN : 70000 ≤ N) {v : Nat} (hv : codOK v) {k n : Int32} (hcc : ∀ h, fX4_canCount h k n = 1) (he : 10 * k + n = nI v) {x : Int32} (hx : x = nI v) : LK V s d b L (fun h => fX1_endsCluster N h k n) (fun h => fX5_takesCluster N h x) := by
  have hb := hP.1
  have h0 := hb.2.2.2.2.2.2 (by omega)
  have hsz := hP.sz
  have hll := hP.ll
  have hk5 : kk 5 d = kk s d := by unfold kk; rw [if_neg (by omega), if_neg (by omega)]
  have m1 : nI (vN V) - 1 = nI (vN V - 1) := by rw [show (1 : Int32) = nI 1 from rfl, pk_sub (by omega)]
  refine Or.inl ⟨_, _, _, _, _, hP.clu hs hz hv, fun h hR => ?_, fun h hR => ?_⟩
  · obtain ⟨r1, r2, r3, r4, r5⟩ := hR
    have hC := r1.c (c := vN V - 1) (by omega)
    obtain ⟨R, e1, e2⟩ : ∃ R, fX0_addCluster N h 4 (nI v) = some (0, cel h 4 R) ∧ RowV R (vAddK V v) := by
      have ea := clu_L (N := N) (n := vN V - 1) (z := vSiz V (vN V - 1)) (v := nI v) (hh := h) (by omega) hz (vSiz V (vN V - 1)) N (h 4) hz (by omega)
      rw [cel_id] at ea
      refine ⟨_, ?_, RowV.addK r1 h0 (by omega) (by omega) hz hsz⟩
      rw [← ea]
      unfold fX0_addCluster
      have e6 : atF h 4 179 176 = nI (vN V) := by rw [show (176 : Int32) = nI 176 from rfl, at_nI (by omega) (by omega)]; exact r1.1
      rw [e6, m1, show (112 : Int32) = nI 112 from rfl, show (4 : Int32) = nI 4 from rfl, pk_mul, nI_add, show (16 : Int32) = nI 16 from rfl, nI_add, Option.bind_some, at_nI (by omega) (by omega), hC.2.1, Option.bind_some]
    refine ⟨hset (cel h 4 R) 2 2 5, ?_, ⟨by rw [hset_o (by decide), cel_s]; exact e2, by rw [hset_s, pk_us]; rfl, by rw [hset_s, pk_un (by decide), cel_o (by decide)]; exact r3, by rw [hset_s, pk_un (by decide), cel_o (by decide)]; exact r4, fun e he => by rw [hset_o (by decide), cel_o (by decide)]; exact r5 e (by omega)⟩, fun q q2 q4 q5 => by rw [hset_o q2, cel_o q4]⟩
    show fX1_endsCluster N h k n = _
    unfold fX1_endsCluster
    rw [hcc, if_neg n10, he, e1, Option.bind_some]
    rfl
  · obtain ⟨r1, r2, r34, r5⟩ := hR
    obtain ⟨r3, r4⟩ := r34 (by omega)
    have hC := r1.c (c := vN V - 1) (by omega)
    have ea := cluM_L (N := N) (n := vN V - 1) (z := vSiz V (vN V - 1)) (v := nI v) (hh := h) (by omega) 3 N (h 27) (by omega) (by omega) hC.2.1
    rw [cel_id] at ea
    obtain ⟨R, e1, e2⟩ : ∃ R, fX5_takesCluster N h x = some (1, hset (cel h 27 R) 22 8 3) ∧ ModV R (vAddK V v) := by
      refine ⟨_, ?_, ModV.addK r1 h0 (by omega) hz hsz⟩
      rw [← ea, hx]
      unfold fX5_takesCluster fX5_newest
      rw [r1.1, m1]
      rfl
    exact ⟨_, e1, ⟨by rw [hset_o (by decide), cel_s]; exact e2, by rw [hset_s, pk_us]; rfl, fun _ => ⟨by rw [hset_s, pk_un (by decide), cel_o (by decide)]; exact r3, by rw [hset_s, pk_un (by decide), cel_o (by decide)]; exact r4⟩, fun e he => by rw [hset_o (by decide), cel_o (by decide)]; exact r5 e (by omega)⟩, fun q q2 q4 q5 => by rw [hset_o q2, cel_o q4], fun i h8 h9 h10 => by rw [hset_s, pk_un h8, cel_o (by decide)]⟩
/-- the state alone goes on -/
theorem lk_st {s' : Nat} (hP : PI V s' d b L) (hs0 : s ≠ 0) (hk : kk s' d = kk s d) {x y : Int32} (hx : x = nI s') (hy : y = nI (rm s')) : LK V s d b L (fun h => (some (hset h 2 2 x)).bind fun g => (some (1, g))) (fun h => fX5_goesTo h y) := by
  refine Or.inl ⟨_, _, _, _, _, hP, fun h hR => ?_, fun h hR => ?_⟩
  · obtain ⟨r1, r2, r3, r4, r5⟩ := hR
    exact ⟨_, rfl, ⟨by rw [hset_o (by decide)]; exact r1, by rw [hset_s, pk_us]; exact hx, by rw [hset_s, pk_un (by decide)]; exact r3, by rw [hset_s, pk_un (by decide)]; exact r4, fun e he => by rw [hset_o (by decide)]; exact r5 e (by omega)⟩, fun q q2 q4 q5 => hset_o q2⟩
  · obtain ⟨r1, r2, r34, r5⟩ := hR
    obtain ⟨r3, r4⟩ := r34 hs0
    exact ⟨_, rfl, ⟨by rw [hset_o (by decide)]; exact r1, by rw [hset_s, pk_us]; exact hy, fun _ => ⟨by rw [hset_s, pk_un (by decide)]; exact r3, by rw [hset_s, pk_un (by decide)]; exact r4⟩, fun e he => by rw [hset_o (by decide)]; exact r5 e (by omega)⟩, fun q q2 q4 q5 => hset_o q2, fun i h8 h9 h10 => by rw [hset_s, pk_un h8]⟩
end TK
