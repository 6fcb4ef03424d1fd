/-! hang: a pendant and all beneath it in another group, behind all others -/
def Seg (row : Nat → Int32) (b : Nat) (l : List Nat) : Prop := ∀ i x, l[i]? = some x → row (b + i) = nI x
theorem Seg.tail {row : Nat → Int32} {b x : Nat} {l : List Nat} (h : Seg row b (x :: l)) : Seg row (b + 1) l := fun i y hy => by
  have := h (i + 1) y (by rw [List.getElem?_cons_succ]; exact hy)
  rw [← this]
  congr 1
  omega
theorem Seg.snoc {row : Nat → Int32} {b x : Nat} {l : List Nat} (h : Seg row b l) : Seg (upd row (b + l.length) (nI x)) b (l ++ [x]) := fun i y hy => by
  by_cases h1 : i < l.length
  · rw [List.getElem?_append_left h1] at hy
    rw [pk_un (by omega)]
    exact h i y hy
  · rw [List.getElem?_append_right (by omega)] at hy
    by_cases h2 : i = l.length
    · subst h2
      rw [Nat.sub_self, List.getElem?_cons_zero] at hy
      injection hy with hy
      subst hy
      rw [pk_us]
    · rw [List.getElem?_eq_none (by rw [List.length_singleton]; omega)] at hy
      cases hy
theorem Seg.frame {row row' : Nat → Int32} {b : Nat} {l : List Nat} (h : Seg row b l) (e : ∀ i, b ≤ i → i < b + l.length → row' i = row i) : Seg row' b l := fun i y hy => by
  have hi : i < l.length := by
    rcases Nat.lt_or_ge i l.length with q | q
    · exact q
    · rw [List.getElem?_eq_none q] at hy; cases hy
  rw [e _ (by omega) (by omega)]
  exact h i y hy
theorem move_L {N c len : Nat} {a2 : Int32} {h : Hp} (hc : c < 16) (hl16 : len ≤ 16) (hl0 : 0 < len) : ∀ (rest out : List Nat) (j fuel : Nat) (row : Nat → Int32), Seg row 96 out → Seg row (96 + j) rest → out.length ≤ j → j + rest.length = len → rest.length < fuel → (∀ x, x ∈ rest → x < 16) → (out ++ rest.filter (fun x => !(x == c))).length + 1 ≤ len → ∃ row' : Nat → Int32, fX0_moveBehind_L17 N 7 (nI c) a2 fuel (nI out.length) (nI len) (nI j) (cel h 7 row) = fX0_moveBehind_L81 N 7 (nI c) a2 N 0 (cel h 7 row') ∧ (∀ i, i < 96 ∨ 112 ≤ i → row' i = row i) ∧ Seg row' 96 (out ++ rest.filter (fun x => !(x == c)) ++ [c]) := by
  intro rest
  induction rest with
  | nil =>
    intro out j fuel row s1 s2 ho hj hf hx hlen
    obtain ⟨fuel, rfl⟩ : ∃ f, fuel = f + 1 := ⟨fuel - 1, by omega⟩
    rw [List.length_nil] at hj
    have e0 : out ++ List.filter (fun x => !(x == c)) [] = out := by simp
    rw [e0] at hlen ⊢
    refine ⟨upd row (96 + out.length) (nI c), ?_, fun i hi => pk_un (by omega), s1.snoc⟩
    rw [fX0_moveBehind_L17, if_neg (nI_nlt (by omega) (by omega)), show (96 : Int32) = nI 96 from rfl, nI_add, put_nI (by omega) (by omega), Option.bind_some, hset_cel]
  | cons x rest ih =>
    intro out j fuel row s1 s2 ho hj hf hx hlen
    obtain ⟨fuel, rfl⟩ : ∃ f, fuel = f + 1 := ⟨fuel - 1, by omega⟩
    rw [List.length_cons] at hj hf
    have hx0 : row (96 + j) = nI x := s2 0 x (by rw [List.getElem?_cons_zero])
    have hx16 := hx x List.mem_cons_self
    have hat : atF (cel h 7 row) 7 179 (96 + nI j) = nI x := by
      rw [show (96 : Int32) = nI 96 from rfl, nI_add, at_nI (by omega) (by omega), cel_s, hx0]
    rw [fX0_moveBehind_L17, if_pos (nI_lt (by omega) (by omega)), hat, nI_1 j, if_nI (by omega) (by omega)]
    have s3 := s2.tail
    rw [show 96 + j + 1 = 96 + (j + 1) by omega] at s3
    by_cases h1 : x = c
    · have e0 : List.filter (fun x => !(x == c)) (x :: rest) = List.filter (fun x => !(x == c)) rest := List.filter_cons_of_neg (by simp [h1])
      rw [e0] at hlen ⊢
      rw [if_pos h1]
      exact ih out (j + 1) fuel row s1 s3 (by omega) (by omega) (by omega) (fun y hy => hx y (List.mem_cons_of_mem _ hy)) hlen
    · have e0 : List.filter (fun x => !(x == c)) (x :: rest) = x :: List.filter (fun x => !(x == c)) rest := List.filter_cons_of_pos (by simp [h1])
      rw [e0] at hlen ⊢
      have e1 : out ++ x :: List.filter (fun x => !(x == c)) rest = (out ++ [x]) ++ List.filter (fun x => !(x == c)) rest := by simp
      rw [e1] at hlen ⊢
      rw [if_neg h1, show (96 : Int32) = nI 96 from rfl, nI_add, put_nI (by omega) (by omega), Option.bind_some, hset_cel, nI_1]
      obtain ⟨row', w1, w2, w3⟩ := ih (out ++ [x]) (j + 1) fuel (upd row (96 + out.length) (nI x)) s1.snoc (s3.frame (fun i hi1 hi2 => pk_un (by omega))) (by rw [List.length_append, List.length_singleton]; omega) (by omega) (by omega) (fun y hy => hx y (List.mem_cons_of_mem _ hy)) hlen
      refine ⟨row', ?_, fun i hi => by rw [w2 i hi, pk_un (by omega)], w3⟩
      rw [← w1, List.length_append, List.length_singleton]
theorem hold_congr {h h' : Hp} {r : Nat} (e : ∀ i, 32 ≤ i → i < 48 → h' r i = h r i) (x : Int32) : fX0_holderOf h' r x = fX0_holderOf h r x := by
  unfold fX0_holderOf
  rcases pk_ix x (n := 16) (by omega) with q | q | ⟨j, hj, rfl⟩
  · rw [if_pos q, if_pos q]
  · rw [show (nI 16 : Int32) = 16 from rfl] at q
    by_cases h0 : x < 0
    · rw [if_pos h0, if_pos h0]
    · rw [if_neg h0, if_neg h0, if_neg (i_nlt q), if_neg (i_nlt q)]
  · rw [show (32 : Int32) = nI 32 from rfl, nI_add, at_nI (by omega) (by omega), at_nI (by omega) (by omega), e _ (by omega) (by omega)]
theorem from_congr {h h' : Hp} {r : Nat} (e : ∀ i, 32 ≤ i → i < 48 → h' r i = h r i) (x y : Int32) : fX0_isFrom h' r x y = fX0_isFrom h r x y := by
  unfold fX0_isFrom
  simp only [hold_congr e]
theorem group_L {N k c : Nat} {g : Nat} {h : Hp} {V : Vw} (hC : RowV (h 7) V) (hW : Wf k V) (hc : c < vN V) : ∀ (m j fuel : Nat) (row : Nat → Int32), j + m = vN V → m < fuel → (∀ i, i < 80 ∨ 112 ≤ i → row i = h 7 i) → ∃ row' : Nat → Int32, fX0_moveBehind_L81 N 7 (nI c) (nI g) fuel (nI j) (cel h 7 row) = some (0, cel h 7 row') ∧ (∀ i, i < 80 + j ∨ 96 ≤ i → row' i = row i) ∧ (∀ d, j ≤ d → d < vN V → row' (80 + d) = if fromB V d c = true then nI g else row (80 + d)) := by
  intro m
  have hn := hW.n
  induction m with
  | zero =>
    intro j fuel row hj hf hr
    obtain ⟨fuel, rfl⟩ : ∃ f, fuel = f + 1 := ⟨fuel - 1, by omega⟩
    have ec : fX0_cords (cel h 7 row) 7 = nI (vN V) := by
      unfold fX0_cords
      rw [show (176 : Int32) = nI 176 from rfl, at_nI (by omega) (by omega), cel_s, hr _ (by omega)]
      exact hC.1
    refine ⟨row, ?_, fun _ _ => rfl, fun d h1 h2 => by omega⟩
    rw [fX0_moveBehind_L81, ec, if_neg (nI_nlt (by omega) (by omega))]
  | succ m ih =>
    intro j fuel row hj hf hr
    obtain ⟨fuel, rfl⟩ : ∃ f, fuel = f + 1 := ⟨fuel - 1, by omega⟩
    have ec : fX0_cords (cel h 7 row) 7 = nI (vN V) := by
      unfold fX0_cords
      rw [show (176 : Int32) = nI 176 from rfl, at_nI (by omega) (by omega), cel_s, hr _ (by omega)]
      exact hC.1
    have hlt : j < vN V := by omega
    have ef : fX0_isFrom (cel h 7 row) 7 (nI j) (nI c) = if fromB V j c = true then 1 else 0 := by
      rw [from_congr (h := h) (fun i h1 h2 => by rw [cel_s, hr _ (by omega)])]
      exact q_from hC hW hlt hc
    rw [fX0_moveBehind_L81, ec, if_pos (nI_lt hlt (by omega)), ef, nI_1 j]
    by_cases hb : fromB V j c = true
    · rw [if_pos hb, if_neg n10, show (80 : Int32) = nI 80 from rfl, nI_add, put_nI (by omega) (by omega), Option.bind_some, hset_cel]
      obtain ⟨row', w1, w2, w3⟩ := ih (j + 1) fuel (upd row (80 + j) (nI g)) (by omega) (by omega) (fun i hi => by rw [pk_un (by omega)]; exact hr i hi)
      refine ⟨row', w1, fun i hi => by rw [w2 i (by omega), pk_un (by omega)], fun d h1 h2 => ?_⟩
      by_cases h3 : d = j
      · subst h3
        rw [w2 _ (by omega), pk_us, if_pos hb]
      · rw [w3 d (by omega) h2, pk_un (by omega)]
    · rw [if_neg hb, if_pos rfl]
      obtain ⟨row', w1, w2, w3⟩ := ih (j + 1) fuel row (by omega) (by omega) hr
      refine ⟨row', w1, fun i hi => w2 i (by omega), fun d h1 h2 => ?_⟩
      by_cases h3 : d = j
      · subst h3
        rw [w2 _ (by omega), if_neg hb]
      · exact w3 d (by omega) h2
def mxR (V : Vw) : Nat → Nat
  | 0 => 0
  | j + 1 => if mxR V j < vRk V j then vRk V j else mxR V j
theorem mxR_le {V : Vw} : ∀ (j d : Nat), d < j → vRk V d ≤ mxR V j
  | j + 1, d, h => by
    rw [mxR]
    by_cases h1 : d = j
    · subst h1; split <;> omega
    · have := mxR_le (V := V) j d (by omega)
      split <;> omega
theorem mxR_b {k : Nat} {V : Vw} (hW : Wf k V) : ∀ j, j ≤ vN V → mxR V j ≤ 15 + k
  | 0, _ => by rw [mxR]; omega
  | j + 1, h => by
    have := mxR_b hW j (by omega)
    have := (hW.c (c := j) (by omega)).2.2.2.2.2.2.2
    rw [mxR]
    split <;> omega
def vHang (V : Vw) (c g : Nat) : Vw := (vN V, vG V, vCol V, vSiz V, vCod V, vPar V, vDep V, vTop V, (fun d => if fromB V d c = true then g else vGrp V d), (fun d => if d = c then mxR V (vN V) + 1 else vRk V d), (vL V).filter (fun x => !(x == c)) ++ [c])
theorem m_isUnderP {h : Hp} {k : Nat} {V : Vw} (hP : ∀ d, d < vN V → h 23 (98 + d) = encM (vPar V d)) (hW : Wf k V) {e c : Nat} (he : e < vN V) (hc : c < vN V) : fX5_isUnder h (nI e) (nI c) = some (b2 (under V e c)) := by
  have hn := hW.n
  have rp : ∀ d, d < vN V → rdH h 23 162 (98 + nI d) = some (encM (vPar V d)) := fun d hd => by
    rw [show (98 : Int32) = nI 98 from rfl, nI_add, rd_nI (by omega) (by omega), hP d hd]
  unfold fX5_isUnder under
  rw [rp e he, Option.bind_some]
  cases hp : vPar V e with
  | none =>
    show (if (-1 : Int32) = nI c then _ else if (-1 : Int32) < 0 then _ else _) = _
    rw [if_neg (fun q => nI_pos (n := c) (by omega) (by rw [← q]; decide)), if_pos (by decide)]
    rfl
  | some p =>
    have hpl := hW.par he hp
    show (if nI p = nI c then _ else if nI p < 0 then _ else _) = _
    by_cases h1 : p = c
    · subst h1
      rw [if_pos rfl]
      simp [b2]
    · rw [if_neg (fun q => h1 ((nI_eq (by omega) (by omega)).mp q)), if_neg (nI_pos (by omega)), show encM (some p) = nI p from rfl, rp p (show p < vN V by omega), Option.bind_some]
      cases hq : vPar V p with
      | none =>
        rw [show encM none = (-1 : Int32) from rfl, if_neg (fun q => nI_pos (n := c) (by omega) (by rw [← q]; decide))]
        simp [b2, h1, hq]
      | some q =>
        have hql := hW.par (show p < vN V by omega) hq
        rw [show encM (some q) = nI q from rfl]
        by_cases h2 : q = c
        · subst h2
          rw [if_pos rfl]
          simp [b2, hq]
        · rw [if_neg (fun z => h2 ((nI_eq (by omega) (by omega)).mp z))]
          simp [b2, h1, h2, hq]
theorem mhang_L {N k c g : Nat} {h : Hp} {V : Vw} (hk : k < 64) (hM : ModV (h 23) V) (hW : Wf k V) (hc : c < vN V) (hcp : under V c c = false) : ∀ (m j fuel : Nat) (a : Nat → Int32), j + m = vN V → m < fuel → (∀ i, i < 114 ∨ 130 ≤ i → a i = h 23 i) → (∀ d, j ≤ d → d < vN V → a (114 + d) = h 23 (114 + d)) → ∃ a' : Nat → Int32, fX5_hang_L68 N (nI c) (nI g) fuel (nI (mxR V j)) (nI j) (cel h 23 a) = (fX5_manyOf N (cel h 23 a') (nI g)).bind (fun v => some (v, cel h 23 a')) ∧ (∀ i, (i < 114 + j ∨ 130 ≤ i) → i ≠ 114 + c → i ≠ 146 + c → a' i = a i) ∧ (∀ d, j ≤ d → d < vN V → d ≠ c → a' (114 + d) = if under V d c = true then nI g else h 23 (114 + d)) ∧ a' (114 + c) = nI g ∧ a' (146 + c) = nI (mxR V (vN V) + 1) := by
  intro m
  have hn := hW.n
  induction m with
  | zero =>
    intro j fuel a hj hf hr hq
    obtain ⟨fuel, rfl⟩ : ∃ f, fuel = f + 1 := ⟨fuel - 1, by omega⟩
    have hjn : j = vN V := by omega
    subst hjn
    have e0 : cel h 23 a 23 0 = nI (vN V) := by rw [cel_s, hr 0 (by omega)]; exact hM.1
    have c1 : (nI (114 + c)).toNatClampNeg = 114 + c := nI_clamp (by omega)
    have c2 : (nI (146 + c)).toNatClampNeg = 146 + c := nI_clamp (by omega)
    refine ⟨upd (upd a (114 + c) (nI g)) (146 + c) (nI (mxR V (vN V) + 1)), ?_, fun i h1 h2 h3 => by rw [pk_un h3, pk_un h2], fun d h1 h2 => by omega, by rw [pk_un (by omega), pk_us], by rw [pk_us]⟩
    rw [fX5_hang_L68, e0, if_neg (nI_nlt (by omega) (by omega)), show (114 : Int32) = nI 114 from rfl, show (146 : Int32) = nI 146 from rfl, nI_add, nI_add, if_pos (by rw [nI_toInt (by omega)]; omega), Option.bind_some, if_pos (by rw [nI_toInt (by omega)]; omega), Option.bind_some, c1, c2, nI_1, hset_cel, hset_cel]
  | succ m ih =>
    intro j fuel a hj hf hr hq
    obtain ⟨fuel, rfl⟩ : ∃ f, fuel = f + 1 := ⟨fuel - 1, by omega⟩
    have hlt : j < vN V := by omega
    have e0 : cel h 23 a 23 0 = nI (vN V) := by rw [cel_s, hr 0 (by omega)]; exact hM.1
    have erk : rdH (cel h 23 a) 23 162 (146 + nI j) = some (nI (vRk V j)) := by
      rw [show (146 : Int32) = nI 146 from rfl, nI_add, rd_nI (by omega) (by omega), cel_s, hr _ (by omega)]
      exact congrArg some (hM.c hlt).2.2.2.2.2.1
    have egr : rdH (cel h 23 a) 23 162 (114 + nI j) = some (h 23 (114 + j)) := by
      rw [show (114 : Int32) = nI 114 from rfl, nI_add, rd_nI (by omega) (by omega), cel_s, hq j (Nat.le_refl _) hlt]
    have eun : fX5_isUnder (cel h 23 a) (nI j) (nI c) = some (b2 (under V j c)) := m_isUnderP (fun d hd => by rw [cel_s, hr _ (by omega)]; exact (hM.c hd).2.2.1) hW hlt hc
    have c1 : (nI (114 + j)).toNatClampNeg = 114 + j := nI_clamp (by omega)
    have hin : 0 ≤ (nI (114 + j)).toInt ∧ (nI (114 + j)).toInt < (162 : Nat) := by rw [nI_toInt (by omega)]; omega
    obtain ⟨a1, ha1⟩ : ∃ a1, a1 = upd a (114 + j) (if under V j c = true then nI g else h 23 (114 + j)) := ⟨_, rfl⟩
    have eJ : ∀ t, fX5_hang_J109 N (nI c) (nI g) (fX5_hang_L68 N (nI c) (nI g) fuel) (nI j) t (cel h 23 a) = fX5_hang_L68 N (nI c) (nI g) fuel t (nI (j + 1)) (cel h 23 a1) := fun t => by
      unfold fX5_hang_J109
      rw [eun, Option.bind_some, egr, Option.bind_some, show (114 : Int32) = nI 114 from rfl, nI_add, if_pos hin, if_pos hin, c1, Option.bind_some, Option.bind_some, nI_1, hset_cel, hset_cel, ha1]
      cases hu : under V j c with
      | false => rw [show b2 false = (0 : Int32) from rfl, if_pos rfl, if_neg (by decide)]
      | true => rw [show b2 true = (1 : Int32) from rfl, if_neg n10, if_pos rfl]
    have hstep : fX5_hang_L68 N (nI c) (nI g) (fuel + 1) (nI (mxR V j)) (nI j) (cel h 23 a) = fX5_hang_L68 N (nI c) (nI g) fuel (nI (mxR V (j + 1))) (nI (j + 1)) (cel h 23 a1) := by
      rw [fX5_hang_L68, e0, if_pos (nI_lt hlt (by omega)), erk, Option.bind_some, Option.bind_some, eJ, eJ, mxR]
      have b1 := mxR_b hW j (by omega)
      have b3 := rk_b hk hW hlt
      by_cases h1 : mxR V j < vRk V j
      · rw [if_pos (nI_lt h1 (by omega)), if_pos h1]
      · rw [if_neg (nlt_lit (by omega) (by omega) h1), if_neg h1]
    obtain ⟨a', w1, w2, w3, w4, w5⟩ := ih (j + 1) fuel a1 (by omega) (by omega) (fun i hi => by rw [ha1, pk_un (by omega)]; exact hr i hi) (fun d h1 h2 => by rw [ha1, pk_un (by omega)]; exact hq d (by omega) h2)
    refine ⟨a', hstep.trans w1, fun i h1 h2 h3 => by rw [w2 i (by omega) h2 h3, ha1, pk_un (by omega)], fun d h1 h2 h3 => ?_, w4, w5⟩
    by_cases h4 : d = j
    · subst h4
      rw [w2 _ (by omega) (by omega) (by omega), ha1, pk_us]
    · exact w3 d (by omega) h2 h3
theorem rt_par {k : Nat} {V : Vw} (hW : Wf k V) {d p : Nat} (hd : d < vN V) (hp : vPar V d = some p) : rt V d = rt V p := by
  have h1 := (hW.c hd).2.2.2.2.2.1 p hp
  have h2 : p < vN V := by omega
  unfold rt
  rw [hp]
  show (match vPar V p with | none => p | some q => q) = _
  cases hq : vPar V p with
  | none => rfl
  | some q =>
    have h3 := (hW.c h2).2.2.2.2.2.1 q hq
    have h4 : q < vN V := by omega
    have h5 := (hW.c hd).2.2.2.1
    show q = (match vPar V q with | none => q | some z => z)
    rw [(dep0 hW h4).mp (by omega)]
theorem Wf.hang {k : Nat} {V : Vw} (hW : Wf k V) {c g : Nat} (hc : c < vN V) (hp : isPl V c = true) (hg : g < vG V) : Wf (k + 1) (vHang V c g) := by
  have hpn : vPar V c = none ∧ vTop V c = false := by
    unfold isPl at hp
    cases h1 : vPar V c with
    | none => cases h2 : vTop V c with
      | false => exact ⟨rfl, rfl⟩
      | true => rw [h1, h2] at hp; simp at hp
    | some p => rw [h1] at hp; simp at hp
  have hmx := mxR_b hW (vN V) (Nat.le_refl _)
  refine ⟨hW.1, fun d hd => ?_, ?_, fun d => ?_, fun d e hd he td te hde => ?_, hW.2.2.2.2.2⟩
  · replace hd : d < vN V := hd
    obtain ⟨w1, w2, w3, w4, w5, w6, w7, w8⟩ := hW.2.1 d hd
    refine ⟨w1, w2, w3, w4, w5, fun p hp2 => ?_, ?_, ?_⟩
    · obtain ⟨x1, x2, x3, x4⟩ := w6 p hp2
      refine ⟨x1, x2, ?_, x4⟩
      show (if fromB V d c = true then g else vGrp V d) = (if fromB V p c = true then g else vGrp V p)
      have hpl : p < vN V := by omega
      have y1 := rt_from hW hd hpn.1
      have y2 := rt_from hW hpl hpn.1
      rw [rt_par hW hd hp2] at y1
      by_cases h1 : rt V p = c
      · rw [if_pos (y1.mpr h1), if_pos (y2.mpr h1)]
      · rw [if_neg (fun z => h1 (y1.mp z)), if_neg (fun z => h1 (y2.mp z)), x3]
    · show (if fromB V d c = true then g else vGrp V d) < vG V
      split
      · exact hg
      · exact w7
    · show (if d = c then mxR V (vN V) + 1 else vRk V d) ≤ 15 + (k + 1)
      split <;> omega
  · show ((vL V).filter (fun x => !(x == c)) ++ [c]).Pairwise (fun a b => (if a = c then mxR V (vN V) + 1 else vRk V a) < (if b = c then mxR V (vN V) + 1 else vRk V b))
    rw [List.pairwise_append]
    have hne : ∀ x, x ∈ (vL V).filter (fun x => !(x == c)) → x ≠ c ∧ x < vN V := fun x hx => by
      rw [List.mem_filter] at hx
      exact ⟨by simpa using hx.2, ((L_mem hW).mp hx.1).1⟩
    refine ⟨?_, List.pairwise_singleton _ _, fun a ha b hb => ?_⟩
    · refine List.Pairwise.imp_of_mem ?_ (hW.2.2.1.filter (fun x => !(x == c)))
      intro a b ha hb hab
      rw [if_neg (hne a ha).1, if_neg (hne b hb).1]
      exact hab
    · rw [List.mem_singleton] at hb
      subst hb
      rw [if_neg (hne a ha).1, if_pos rfl]
      have := mxR_le (V := V) (vN V) a (hne a ha).2
      omega
  · show d ∈ (vL V).filter (fun x => !(x == c)) ++ [c] ↔ d < vN V ∧ vPar V d = none ∧ vTop V d = false
    rw [List.mem_append, List.mem_filter, List.mem_singleton, hW.2.2.2.1 d]
    constructor
    · rintro (⟨q, -⟩ | q)
      · exact q
      · subst q; exact ⟨hc, hpn.1, hpn.2⟩
    · intro q
      by_cases h1 : d = c
      · exact Or.inr h1
      · exact Or.inl ⟨q, by simp [h1]⟩
  · have key : ∀ x, x < vN V → vTop V x = true → (if fromB V x c = true then g else vGrp V x) = vGrp V x := fun x hx tx => by
      rw [if_neg]
      intro z
      have z1 := (rt_from hW hx hpn.1).mp z
      have px : vPar V x = none := by
        cases h1 : vPar V x with
        | none => rfl
        | some p => have := ((hW.c hx).2.2.2.2.2.1 p h1).2.2.2; rw [tx] at this; cases this
      have : rt V x = x := by unfold rt; rw [px]
      rw [this] at z1
      subst z1
      rw [hpn.2] at tx
      cases tx
    have hde' : (if fromB V d c = true then g else vGrp V d) = (if fromB V e c = true then g else vGrp V e) := hde
    rw [key d hd td, key e he te] at hde'
    exact hW.2.2.2.2.1 d e hd he td te hde'
theorem L_move_len {k : Nat} {V : Vw} (hW : Wf k V) {c : Nat} (hm : c ∈ vL V) : ((vL V).filter (fun x => !(x == c))).length + 1 = (vL V).length := by
  have := (List.perm_ext_iff_of_nodup (l₁ := vL V) (l₂ := c :: (vL V).filter (fun x => !(x == c))) (L_nodup hW) (List.nodup_cons.mpr ⟨fun q => by rw [List.mem_filter] at q; simp at q, (L_nodup hW).filter _⟩)).mpr (fun x => by
    rw [List.mem_cons, List.mem_filter]
    constructor
    · intro q
      by_cases h1 : x = c
      · exact Or.inl h1
      · exact Or.inr ⟨q, by simp [h1]⟩
    · rintro (q | q)
      · subst q; exact hm
      · exact q.1)
  have := this.length_eq
  rw [List.length_cons] at this
  omega
theorem st_hang (N : Nat) (hN : 70000 ≤ N) : SF_hang N RR := by
  intro k h hk hR a1 a2
  obtain ⟨hT, hD, ⟨V, hW, hC, hM⟩, hU, hK⟩ := id hR
  have hn := hW.n
  unfold fX4_hang fX5_hang
  rcases cord_case hC hM hW a1 with ⟨h1, h2⟩ | ⟨h1, h2, c, hc, rfl⟩
  · exact ⟨-1, h, h, by rw [h1, if_pos rfl], by rw [h2, if_pos rfl], RR_mono k h hR⟩
  rcases grp_case hC hM hW a2 with ⟨h3, h4⟩ | ⟨h3, h4, g, hg, rfl⟩
  · exact ⟨-1, h, h, by rw [h1, if_neg n10, h3, if_pos rfl], by rw [h2, if_neg n10, h4, if_pos rfl], RR_mono k h hR⟩
  have hg5 : g < 5 := by have := hW.1.2; omega
  have hgc := grp_lt hW hc
  rw [h1, if_neg n10, h3, if_neg n10, q_plain hC hW hc, q_group hC hW hc]
  cases hp : isPl V c with
  | false => exact ⟨-2, h, h, rfl, by rw [h2, if_neg n10, h4, if_neg n10, m_isPlain hM hW hc, Option.bind_some, hp]; rfl, RR_mono k h hR⟩
  | true =>
    rw [show b2 true = (1 : Int32) from rfl, if_neg n10, if_nI (by omega) (by omega), q_pend hC hW (by omega) hgc, Option.bind_some]
    have hmem : c ∈ LG V (vGrp V c) := (LG_mem hW).mpr ⟨hc, (inG_pl hgc hp).mpr rfl⟩
    have hpos : 0 < (LG V (vGrp V c)).length := List.length_pos_of_mem hmem
    have hl16 : (LG V (vGrp V c)).length ≤ 16 := by
      have := List.length_filter_le (inG V (vGrp V c)) (vL V)
      have := L_len hW
      unfold LG
      omega
    have mm := m_many (N := N) hM hW (by omega) (g := vGrp V c) (by omega)
    by_cases h6 : 1 < (LG V (vGrp V c)).length
    · by_cases h5 : vGrp V c = g
      · refine ⟨-2, h, h, by rw [if_pos h5], ?_, RR_mono k h hR⟩
        rw [h2, if_neg n10, h4, if_neg n10, m_isPlain hM hW hc, Option.bind_some, hp, show b2 true = (1 : Int32) from rfl, if_neg n10, r_grp hM hW hc, Option.bind_some, mm, Option.bind_some, if_neg (show ¬ nI (LG V (vGrp V c)).length = (1 : Int32) from ne_lit (b := 1) (by omega) (by omega) (by omega)), Option.bind_some, if_nI (by omega) (by omega), if_pos h5]
      · obtain ⟨ha0, q1, q7, q23, qf⟩ := change hN hR
        have hlm : c ∈ vL V := (L_mem hW).mpr ⟨hc, hp⟩
        have hll := L_len hW
        have hlen := L_move_len hW hlm
        have hseg : Seg (h 7) 96 (vL V) := fun i x hx => by
          have hi : i < (vL V).length := by
            rcases Nat.lt_or_ge i (vL V).length with q | q
            · exact q
            · rw [List.getElem?_eq_none q] at hx; cases hx
          rw [hC.2.2.2.1 i hi, List.getD_eq_getElem?_getD, hx]
          rfl
        obtain ⟨row1, w1, w2, w3⟩ := move_L (N := N) (c := c) (len := (vL V).length) (a2 := nI g) (h := ha0) (by omega) hll (by omega) (vL V) [] 0 N (h 7) (fun i x hx => by simp at hx) hseg (by simp) (by omega) (by omega) (fun x hx => by have := ((L_mem hW).mp hx).1; omega) (by rw [List.nil_append]; omega)
        rw [List.nil_append] at w3
        obtain ⟨row2, x1, x2, x3⟩ := group_L (N := N) (c := c) (g := g) (h := ha0) (V := V) (by rw [q7]; exact hC) hW hc (vN V) 0 N row1 (by omega) (by omega) (fun i hi => by rw [w2 i (by omega), q7])
        obtain ⟨hb0, r1, r23, rg⟩ := qf row2
        have hus := under_self hW hc
        obtain ⟨a', y1, y2, y3, y4, y5⟩ := mhang_L (N := N) (c := c) (g := g) (h := hb0) (V := V) hk (by rw [r23]; exact hM) hW hc hus (vN V) 0 N (h 23) (by omega) (by omega) (fun i hi => by rw [r23]) (fun d hd1 hd2 => by rw [r23])
        have hW' : Wf (k + 1) (vHang V c g) := hW.hang hc hp hg
        have hC' : RowV row2 (vHang V c g) := by
          obtain ⟨b1, b2, b3, b4, b5⟩ := hC
          refine ⟨by rw [x2 _ (by omega), w2 _ (by omega)]; exact b1, by rw [x2 _ (by omega), w2 _ (by omega)]; exact b2, ?_, fun i hi => ?_, fun d hd => ?_⟩
          · show row2 178 = nI ((vL V).filter (fun x => !(x == c)) ++ [c]).length
            rw [List.length_append, List.length_singleton, hlen, x2 _ (by omega), w2 _ (by omega)]; exact b3
          · replace hi : i < ((vL V).filter (fun x => !(x == c)) ++ [c]).length := hi
            show row2 (96 + i) = nI (((vL V).filter (fun x => !(x == c)) ++ [c]).getD i 0)
            rw [x2 _ (by omega), List.getD_eq_getElem?_getD, List.getElem?_eq_getElem hi]
            exact w3 i _ (List.getElem?_eq_getElem hi)
          · replace hd : d < vN V := hd
            obtain ⟨z1, z2, z3, z4, z5, z6, z7⟩ := b5 d hd
            have hs := hW.siz hd
            refine ⟨by rw [x2 _ (by omega), w2 _ (by omega)]; exact z1, by rw [x2 _ (by omega), w2 _ (by omega)]; exact z2, by rw [x2 _ (by omega), w2 _ (by omega)]; exact z3, by rw [x2 _ (by omega), w2 _ (by omega)]; exact z4, by rw [x2 _ (by omega), w2 _ (by omega)]; exact z5, ?_, fun j hj => by replace hj : j < vSiz V d := hj; rw [x2 _ (by omega), w2 _ (by omega)]; exact z7 j hj⟩
            rw [x3 d (by omega) hd, w2 _ (by omega), z6]
            show _ = nI (if fromB V d c = true then g else vGrp V d)
            split <;> rfl
        have hM' : ModV a' (vHang V c g) := by
          obtain ⟨b1, b2, b5⟩ := hM
          refine ⟨by rw [y2 _ (by omega) (by omega) (by omega)]; exact b1, by rw [y2 _ (by omega) (by omega) (by omega)]; exact b2, fun d hd => ?_⟩
          replace hd : d < vN V := hd
          obtain ⟨z1, z2, z3, z4, z5, z6, z7⟩ := b5 d hd
          have hs := hW.siz hd
          refine ⟨by rw [y2 _ (by omega) (by omega) (by omega)]; exact z1, by rw [y2 _ (by omega) (by omega) (by omega)]; exact z2, by rw [y2 _ (by omega) (by omega) (by omega)]; exact z3, ?_, by rw [y2 _ (by omega) (by omega) (by omega)]; exact z5, ?_, fun j hj => by replace hj : j < vSiz V d := hj; rw [y2 _ (by omega) (by omega) (by omega)]; exact z7 j hj⟩
          · show _ = nI (if fromB V d c = true then g else vGrp V d)
            unfold fromB
            by_cases h7 : d = c
            · subst h7; rw [y4]; simp
            · rw [y3 d (by omega) hd h7, r23, z4]
              cases under V d c with
              | false => simp [h7]
              | true => simp
          · show _ = nI (if d = c then mxR V (vN V) + 1 else vRk V d)
            by_cases h7 : d = c
            · subst h7; rw [y5, if_pos rfl]
            · rw [y2 _ (by omega) (by omega) (by omega), if_neg h7]; exact z6
        have hpd : fX0_pendantsIn N (cel ha0 7 row2) 7 (nI g) = some (nI (LG (vHang V c g) g).length) := q_pend (by rw [cel_s]; exact hC') hW' (by omega) hg5
        have hmo : fX5_manyOf N (cel hb0 23 a') (nI g) = some (nI (LG (vHang V c g) g).length) := m_many (by rw [cel_s]; exact hM') hW' (by omega) (by omega)
        refine ⟨nI (LG (vHang V c g) g).length, cel ha0 7 row2, cel hb0 23 a', ?_, ?_, rg _ ⟨vHang V c g, hW', hC', hM'⟩⟩
        · have hat : atF ha0 7 179 178 = nI (vL V).length := by
            rw [show (178 : Int32) = nI 178 from rfl, at_nI (by omega) (by omega), q7]; exact hC.2.2.1
          have hmb : fX0_moveBehind N ha0 7 (nI c) (nI g) = some (0, cel ha0 7 row2) := by
            unfold fX0_moveBehind
            rw [hat]
            have e7 : cel ha0 7 (h 7) = ha0 := by rw [← q7]; exact cel_id
            rw [e7] at w1
            exact w1.trans x1
          rw [if_neg h5, if_pos (show (1 : Int32) < nI (LG V (vGrp V c)).length from nI_lt (a := 1) h6 (by omega)), q1, Option.bind_some]
          show (fX0_moveBehind N ha0 7 (nI c) (nI g)).bind _ = _
          rw [hmb, Option.bind_some]
          show (fX0_pendantsIn N (cel ha0 7 row2) 7 (nI g)).bind _ = _
          rw [hpd]
          rfl
        · have hM1 : ModV (cel ha0 7 row2 23) V := by rw [cel_o (by decide), q23]; exact hM
          have e0 : fX5_isCord (cel ha0 7 row2) (nI c) = 1 := by rw [← h2]; unfold fX5_isCord; rw [cel_o (by decide), q23]; rfl
          have e1 : fX5_isGroup (cel ha0 7 row2) (nI g) = 1 := by rw [← h4]; unfold fX5_isGroup; rw [cel_o (by decide), q23]; rfl
          rw [e0, if_neg n10, e1, if_neg n10, m_isPlain hM1 hW hc, Option.bind_some, hp, show b2 true = (1 : Int32) from rfl, if_neg n10, r_grp hM1 hW hc, Option.bind_some, m_many hM1 hW (by omega) (by omega), Option.bind_some, if_neg (show ¬ nI (LG V (vGrp V c)).length = (1 : Int32) from ne_lit (b := 1) (by omega) (by omega) (by omega)), Option.bind_some, if_nI (by omega) (by omega), if_neg h5, r1, Option.bind_some]
          have e7 : cel hb0 23 (h 23) = hb0 := by rw [← r23]; exact cel_id
          rw [e7] at y1
          refine (show fX5_hang_L68 N (nI c) (nI g) N 0 0 hb0 = _ from y1).trans ?_
          rw [hmo]
          rfl
    · have h7 : (LG V (vGrp V c)).length = 1 := by omega
      refine ⟨-2, h, h, ?_, ?_, RR_mono k h hR⟩
      · by_cases h5 : vGrp V c = g
        · rw [if_pos h5]
        · rw [if_neg h5, if_neg (show ¬ (1 : Int32) < nI (LG V (vGrp V c)).length from nlt_lit (a := 1) (by omega) (by omega) (by omega))]
      · rw [h2, if_neg n10, h4, if_neg n10, m_isPlain hM hW hc, Option.bind_some, hp, show b2 true = (1 : Int32) from rfl, if_neg n10, r_grp hM hW hc, Option.bind_some, mm, Option.bind_some, if_pos (show nI (LG V (vGrp V c)).length = (1 : Int32) from by rw [h7]; rfl)]
