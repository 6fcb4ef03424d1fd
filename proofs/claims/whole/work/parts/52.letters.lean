/-! what a letter does to the class's draft and to the reference's -/
def RC (h : Hp) (V : Vw) (s d : Nat) (b : Bool) (L : Nat → Nat) : Prop := RowV (h 4) V ∧ h 2 2 = nI s ∧ h 2 3 = nI d ∧ h 2 4 = b2 b ∧ ∀ e, e < kk s d → h 5 e = nI (L e)
def RM (h : Hp) (V : Vw) (s d : Nat) (b : Bool) (L : Nat → Nat) : Prop := ModV (h 27) V ∧ h 22 8 = nI (rm s) ∧ (s ≠ 0 → h 22 9 = nI d ∧ h 22 10 = b2 b) ∧ ∀ e, e < kk s d → h 28 e = nI (L e)
theorem rng {α : Type} {j n : Nat} (hj : j < n) (hn : n < 2 ^ 31) (x y : α) : (if 0 ≤ (nI j).toInt ∧ (nI j).toInt < (n : Nat) then x else y) = x := by
  rw [if_pos (by rw [nI_toInt (by omega)]; omega)]
theorem add_rowC {hh : Hp} {row : Nat → Int32} {n col len vg d : Nat} {par : Int32} {t : Bool} (r6 : row 176 = nI n) (r7 : row 177 = nI vg) (r8 : row 178 = nI len) (hn : n < 16) (hl : len ≤ n) (hg : 0 < vg) (hd : d ≤ 2) : fX0_addCord (cel hh 4 row) 4 (nI col) par (nI d) (b2 t) = some (0, cel hh 4 (upd (if d = 0 ∧ t = false then upd (upd (upd (upd (upd (upd (upd (upd row n (nI col)) (16 + n) 0) (32 + n) par) (48 + n) (nI d)) (64 + n) (b2 t)) (80 + n) (nI (vg - 1))) (96 + len) (nI n)) 178 (nI (len + 1)) else upd (upd (upd (upd (upd (upd row n (nI col)) (16 + n) 0) (32 + n) par) (48 + n) (nI d)) (64 + n) (b2 t)) (80 + n) (nI (vg - 1))) 176 (nI (n + 1)))) := by
  have l0 : (0 : Int32) + nI n = nI n := by rw [show (0 : Int32) = nI 0 from rfl, nI_add, Nat.zero_add]
  have l16 : (16 : Int32) + nI n = nI (16 + n) := nI_add 16 n
  have l32 : (32 : Int32) + nI n = nI (32 + n) := nI_add 32 n
  have l48 : (48 : Int32) + nI n = nI (48 + n) := nI_add 48 n
  have l64 : (64 : Int32) + nI n = nI (64 + n) := nI_add 64 n
  have l80 : (80 : Int32) + nI n = nI (80 + n) := nI_add 80 n
  have l96 : (96 : Int32) + nI len = nI (96 + len) := nI_add 96 len
  have e6 : ∀ (g : Hp), atF g 4 179 176 = g 4 176 := fun g => at_nI (j := 176) (by omega) (by omega)
  have e7 : ∀ (g : Hp), atF g 4 179 177 = g 4 177 := fun g => at_nI (j := 177) (by omega) (by omega)
  have e8 : ∀ (g : Hp), atF g 4 179 178 = g 4 178 := fun g => at_nI (j := 178) (by omega) (by omega)
  have p6 : ∀ (g : Hp) (x : Int32), putF g 4 179 176 x = hset g 4 176 x := fun g x => put_nI (j := 176) (by omega) (by omega)
  have p8 : ∀ (g : Hp) (x : Int32), putF g 4 179 178 x = hset g 4 178 x := fun g x => put_nI (j := 178) (by omega) (by omega)
  have vg1 : nI vg - 1 = nI (vg - 1) := by rw [show (1 : Int32) = nI 1 from rfl, pk_sub (by omega)]
  have tt : (if b2 t = 0 then (0 : Int32) else 1) = b2 t := by cases t <;> rfl
  unfold fX0_addCord fX0_addCord_J82 fX0_addCord_J162
  simp (disch := omega) only [e6, e7, e8, p6, p8, cel_s, r6, r7, r8, l0, l16, l32, l48, l64, l80, l96, put_nI, hset_cel, pk_un, pk_us, vg1, nI_1, Option.bind_some, tt, b2_01]
  by_cases h1 : d = 0
  · subst h1
    rw [if_pos (show nI 0 = (0 : Int32) from rfl)]
    cases t with
    | false => rw [if_neg (by decide), if_pos ⟨rfl, rfl⟩]
    | true => rw [if_pos rfl, if_neg (by decide)]
  · rw [if_neg (show ¬ nI d = (0 : Int32) from ne_lit (b := 0) (by omega) (by omega) h1), if_neg (fun q => h1 q.1)]
theorem add_modC {hh : Hp} {a : Nat → Int32} {n col vg d : Nat} {b t : Bool} {L : Nat → Nat} (r0 : a 0 = nI n) (r1 : a 1 = nI vg) (hn : n < 16) (hg : 0 < vg) (hd : d ≤ 2) (h9 : hh 22 9 = nI d) (h10 : hh 22 10 = b2 b) (ht : t = (decide (d = 0) && b)) (hL : 0 < d → hh 28 (d - 1) = nI (L (d - 1))) : fX5_takesColour (cel hh 27 a) (nI col) = some (1, hset (hset (cel hh 27 (upd (upd (upd (upd (upd (upd (upd a (2 + n) (nI col)) (18 + n) 0) (98 + n) (encM (parO L d))) (114 + n) (nI (vg - 1))) (130 + n) (b2 t)) (146 + n) (nI n)) 0 (nI (n + 1)))) 28 d (nI n)) 22 8 2) := by
  have l2 : (2 : Int32) + nI n = nI (2 + n) := nI_add 2 n
  have l18 : (18 : Int32) + nI n = nI (18 + n) := nI_add 18 n
  have l98 : (98 : Int32) + nI n = nI (98 + n) := nI_add 98 n
  have l114 : (114 : Int32) + nI n = nI (114 + n) := nI_add 114 n
  have l130 : (130 : Int32) + nI n = nI (130 + n) := nI_add 130 n
  have l146 : (146 : Int32) + nI n = nI (146 + n) := nI_add 146 n
  have vg1 : nI vg - 1 = nI (vg - 1) := by rw [show (1 : Int32) = nI 1 from rfl, pk_sub (by omega)]
  have c9 : ∀ f, cel hh 27 f 22 9 = nI d := fun f => by rw [cel_o (by decide)]; exact h9
  have c10 : ∀ f, cel hh 27 f 22 10 = b2 b := fun f => by rw [cel_o (by decide)]; exact h10
  have tt : (if nI d = 0 then (if b2 b = 0 then (0 : Int32) else 1) else 0) = b2 t := by
    rw [ht]
    by_cases h1 : d = 0
    · subst h1
      rw [if_pos (show nI 0 = (0 : Int32) from rfl)]
      cases b <;> rfl
    · rw [if_neg (show ¬ nI d = (0 : Int32) from ne_lit (b := 0) (by omega) (by omega) h1), decide_eq_false h1]
      rfl
  have go : ∀ p : Int32, p = encM (parO L d) → fX5_takesColour_J56 (nI col) (nI n) p (nI (98 + n)) (cel hh 27 (upd (upd a (2 + n) (nI col)) (18 + n) 0)) = some (1, hset (hset (cel hh 27 (upd (upd (upd (upd (upd (upd (upd a (2 + n) (nI col)) (18 + n) 0) (98 + n) (encM (parO L d))) (114 + n) (nI (vg - 1))) (130 + n) (b2 t)) (146 + n) (nI n)) 0 (nI (n + 1)))) 28 d (nI n)) 22 8 2) := fun p hp => by
    unfold fX5_takesColour_J56 fX5_takesColour_J102 fX5_goesTo
    have hcm : ∀ (f : Nat → Int32) (x y : Int32), hset (hset (cel hh 27 f) 28 d x) 27 0 y = hset (cel hh 27 (upd f 0 y)) 28 d x := fun f x y => by
      funext q i
      by_cases q1 : q = 27
      · subst q1; rw [hset_s, hset_o (by decide), cel_s, hset_o (by decide), cel_s]
      · rw [hset_o q1]
        by_cases q2 : q = 28
        · subst q2; rw [hset_s, hset_s, cel_o (by decide), cel_o (by decide)]
        · rw [hset_o q2, hset_o q2, cel_o q1, cel_o q1]
    have h28 : ∀ (f : Nat → Int32) (x : Int32), hset (cel hh 27 f) 28 d x 27 0 = f 0 := fun f x => by rw [hset_o (by decide), cel_s]
    simp (disch := omega) only [rng, nI_clamp, Option.bind_some, hset_cel, cel_s, c9, c10, tt, l114, l130, l146, pk_un, pk_us, r0, r1, vg1, hcm, h28, nI_1, hp]
    rfl
  unfold fX5_takesColour
  simp (disch := omega) only [cel_s, r0, l2, l18, l98, rng, nI_clamp, Option.bind_some, hset_cel, pk_un, c9]
  by_cases h1 : d = 0
  · subst h1
    rw [if_pos (show nI 0 = (0 : Int32) from rfl)]
    exact go (-1) rfl
  · have e1 : (nI d - 1 : Int32) = nI (d - 1) := by rw [show (1 : Int32) = nI 1 from rfl, pk_sub (by omega)]
    rw [if_neg (show ¬ nI d = (0 : Int32) from ne_lit (b := 0) (by omega) (by omega) h1), e1, rd_nI (by omega) (by omega), cel_o (by decide), hL (by omega), Option.bind_some]
    exact go _ (by unfold parO; rw [if_neg h1]; rfl)
theorem RowV.addC {row : Nat → Int32} {V : Vw} {col d : Nat} {t : Bool} {par : Option Nat} (hV : RowV row V) (hn : vN V < 16) (hl : (vL V).length ≤ vN V) (hs : ∀ c, c < vN V → vSiz V c ≤ 4) : RowV (upd (if d = 0 ∧ t = false then upd (upd (upd (upd (upd (upd (upd (upd row (vN V) (nI col)) (16 + vN V) 0) (32 + vN V) (encP par)) (48 + vN V) (nI d)) (64 + vN V) (b2 t)) (80 + vN V) (nI (vG V - 1))) (96 + (vL V).length) (nI (vN V))) 178 (nI ((vL V).length + 1)) else upd (upd (upd (upd (upd (upd row (vN V) (nI col)) (16 + vN V) 0) (32 + vN V) (encP par)) (48 + vN V) (nI d)) (64 + vN V) (b2 t)) (80 + vN V) (nI (vG V - 1))) 176 (nI (vN V + 1))) (vAddC V col par d t) := by
  obtain ⟨a1, a2, a3, a4, a5⟩ := hV
  obtain ⟨r0, hr0⟩ : ∃ r0, r0 = upd (upd (upd (upd (upd (upd row (vN V) (nI col)) (16 + vN V) 0) (32 + vN V) (encP par)) (48 + vN V) (nI d)) (64 + vN V) (b2 t)) (80 + vN V) (nI (vG V - 1)) := ⟨_, rfl⟩
  rw [← hr0]
  obtain ⟨r, hr⟩ : ∃ r, r = (if d = 0 ∧ t = false then upd (upd r0 (96 + (vL V).length) (nI (vN V))) 178 (nI ((vL V).length + 1)) else r0) := ⟨_, rfl⟩
  rw [← hr]
  -- what the line's cells do not touch
  have ro : ∀ i, (i < 96 ∨ 112 ≤ i) → i ≠ 178 → r i = r0 i := fun i h1 h2 => by
    rw [hr]
    split
    · simp (disch := omega) only [pk_un]
    · rfl
  have old : ∀ i, i ≠ vN V → i ≠ 16 + vN V → i ≠ 32 + vN V → i ≠ 48 + vN V → i ≠ 64 + vN V → i ≠ 80 + vN V → r0 i = row i := fun i h1 h2 h3 h4 h5 h6 => by
    rw [hr0]
    simp (disch := omega) only [pk_un]
  have eL : vL (vAddC V col par d t) = if d = 0 ∧ t = false then vL V ++ [vN V] else vL V := rfl
  refine ⟨by rw [pk_us]; rfl, ?_, ?_, fun i hi => ?_, fun c hc => ?_⟩
  · rw [pk_un (by omega), ro 177 (by omega) (by omega), old 177 (by omega) (by omega) (by omega) (by omega) (by omega) (by omega)]
    exact a2
  · rw [pk_un (by omega), eL, hr]
    by_cases h1 : d = 0 ∧ t = false
    · rw [if_pos h1, if_pos h1, pk_us, List.length_append, List.length_singleton]
    · rw [if_neg h1, if_neg h1, old 178 (by omega) (by omega) (by omega) (by omega) (by omega) (by omega)]
      exact a3
  · rw [eL] at hi ⊢
    by_cases h1 : d = 0 ∧ t = false
    · rw [if_pos h1] at hi hr ⊢
      rw [List.length_append, List.length_singleton] at hi
      rw [pk_un (by omega), hr, pk_un (by omega)]
      by_cases h2 : i = (vL V).length
      · subst h2
        rw [pk_us, List.getD_eq_getElem?_getD, List.getElem?_append_right (Nat.le_refl _), Nat.sub_self]
        rfl
      · rw [pk_un (by omega), old _ (by omega) (by omega) (by omega) (by omega) (by omega) (by omega), a4 i (by omega), List.getD_eq_getElem?_getD, List.getD_eq_getElem?_getD, List.getElem?_append_left (by omega)]
    · rw [if_neg h1] at hi hr ⊢
      rw [pk_un (by omega), hr, old _ (by omega) (by omega) (by omega) (by omega) (by omega) (by omega)]
      exact a4 i hi
  · have hc' : c < vN V + 1 := hc
    by_cases q : c = vN V
    · subst q
      refine ⟨?_, ?_, ?_, ?_, ?_, ?_, fun j hj => ?_⟩
      · show _ = nI (if vN V = vN V then col else vCol V (vN V))
        rw [if_pos rfl, pk_un (by omega), ro _ (by omega) (by omega), hr0]
        simp (disch := omega) only [pk_un, pk_us]
      · show _ = nI (if vN V = vN V then 0 else vSiz V (vN V))
        rw [if_pos rfl, pk_un (by omega), ro _ (by omega) (by omega), hr0]
        simp (disch := omega) only [pk_un, pk_us]
        rfl
      · show _ = encP (if vN V = vN V then par else vPar V (vN V))
        rw [if_pos rfl, pk_un (by omega), ro _ (by omega) (by omega), hr0]
        simp (disch := omega) only [pk_un, pk_us]
      · show _ = nI (if vN V = vN V then d else vDep V (vN V))
        rw [if_pos rfl, pk_un (by omega), ro _ (by omega) (by omega), hr0]
        simp (disch := omega) only [pk_un, pk_us]
      · show _ = b2 (if vN V = vN V then t else vTop V (vN V))
        rw [if_pos rfl, pk_un (by omega), ro _ (by omega) (by omega), hr0]
        simp (disch := omega) only [pk_un, pk_us]
      · show _ = nI (if vN V = vN V then vG V - 1 else vGrp V (vN V))
        rw [if_pos rfl, pk_un (by omega), ro _ (by omega) (by omega), hr0]
        simp (disch := omega) only [pk_un, pk_us]
      · have hz : vSiz (vAddC V col par d t) (vN V) = 0 := by
          show (if vN V = vN V then 0 else vSiz V (vN V)) = 0
          rw [if_pos rfl]
        rw [hz] at hj
        omega
    · obtain ⟨b1, b2', b3, b4, b5, b6, b7⟩ := a5 c (by omega)
      have h4 := hs c (by omega)
      refine ⟨?_, ?_, ?_, ?_, ?_, ?_, fun j hj => ?_⟩
      · show _ = nI (if c = vN V then col else vCol V c)
        rw [if_neg q, pk_un (by omega), ro _ (by omega) (by omega), old _ (by omega) (by omega) (by omega) (by omega) (by omega) (by omega)]; exact b1
      · show _ = nI (if c = vN V then 0 else vSiz V c)
        rw [if_neg q, pk_un (by omega), ro _ (by omega) (by omega), old _ (by omega) (by omega) (by omega) (by omega) (by omega) (by omega)]; exact b2'
      · show _ = encP (if c = vN V then par else vPar V c)
        rw [if_neg q, pk_un (by omega), ro _ (by omega) (by omega), old _ (by omega) (by omega) (by omega) (by omega) (by omega) (by omega)]; exact b3
      · show _ = nI (if c = vN V then d else vDep V c)
        rw [if_neg q, pk_un (by omega), ro _ (by omega) (by omega), old _ (by omega) (by omega) (by omega) (by omega) (by omega) (by omega)]; exact b4
      · show _ = b2 (if c = vN V then t else vTop V c)
        rw [if_neg q, pk_un (by omega), ro _ (by omega) (by omega), old _ (by omega) (by omega) (by omega) (by omega) (by omega) (by omega)]; exact b5
      · show _ = nI (if c = vN V then vG V - 1 else vGrp V c)
        rw [if_neg q, pk_un (by omega), ro _ (by omega) (by omega), old _ (by omega) (by omega) (by omega) (by omega) (by omega) (by omega)]; exact b6
      · have hz : vSiz (vAddC V col par d t) c = vSiz V c := if_neg q
        rw [hz] at hj
        rw [pk_un (by omega), ro _ (by omega) (by omega), old _ (by omega) (by omega) (by omega) (by omega) (by omega) (by omega)]
        exact b7 j hj
theorem ModV.addC {a : Nat → Int32} {V : Vw} {col d : Nat} {t : Bool} {par : Option Nat} (hV : ModV a V) (hn : vN V < 16) (hs : ∀ c, c < vN V → vSiz V c ≤ 4) : ModV (upd (upd (upd (upd (upd (upd (upd a (2 + vN V) (nI col)) (18 + vN V) 0) (98 + vN V) (encM par)) (114 + vN V) (nI (vG V - 1))) (130 + vN V) (b2 t)) (146 + vN V) (nI (vN V))) 0 (nI (vN V + 1))) (vAddC V col par d t) := by
  obtain ⟨a1, a2, a5⟩ := hV
  refine ⟨by rw [pk_us]; rfl, by simp (disch := omega) only [pk_un]; exact a2, fun c hc => ?_⟩
  have hc' : c < vN V + 1 := hc
  by_cases q : c = vN V
  · subst q
    refine ⟨?_, ?_, ?_, ?_, ?_, ?_, fun j hj => ?_⟩
    · show _ = nI (if vN V = vN V then col else vCol V (vN V))
      rw [if_pos rfl]
      simp (disch := omega) only [pk_un, pk_us]
    · show _ = nI (if vN V = vN V then 0 else vSiz V (vN V))
      rw [if_pos rfl]
      simp (disch := omega) only [pk_un, pk_us]
      rfl
    · show _ = encM (if vN V = vN V then par else vPar V (vN V))
      rw [if_pos rfl]
      simp (disch := omega) only [pk_un, pk_us]
    · show _ = nI (if vN V = vN V then vG V - 1 else vGrp V (vN V))
      rw [if_pos rfl]
      simp (disch := omega) only [pk_un, pk_us]
    · show _ = b2 (if vN V = vN V then t else vTop V (vN V))
      rw [if_pos rfl]
      simp (disch := omega) only [pk_un, pk_us]
    · show _ = nI (if vN V = vN V then vN V else vRk V (vN V))
      rw [if_pos rfl]
      simp (disch := omega) only [pk_un, pk_us]
    · have hz : vSiz (vAddC V col par d t) (vN V) = 0 := by
        show (if vN V = vN V then 0 else vSiz V (vN V)) = 0
        rw [if_pos rfl]
      rw [hz] at hj
      omega
  · obtain ⟨b1, b2', b3, b4, b5, b6, b7⟩ := a5 c (by omega)
    have h4 := hs c (by omega)
    refine ⟨?_, ?_, ?_, ?_, ?_, ?_, fun j hj => ?_⟩
    · show _ = nI (if c = vN V then col else vCol V c)
      rw [if_neg q]
      simp (disch := omega) only [pk_un]
      exact b1
    · show _ = nI (if c = vN V then 0 else vSiz V c)
      rw [if_neg q]
      simp (disch := omega) only [pk_un]
      exact b2'
    · show _ = encM (if c = vN V then par else vPar V c)
      rw [if_neg q]
      simp (disch := omega) only [pk_un]
      exact b3
    · show _ = nI (if c = vN V then vG V - 1 else vGrp V c)
      rw [if_neg q]
      simp (disch := omega) only [pk_un]
      exact b4
    · show _ = b2 (if c = vN V then t else vTop V c)
      rw [if_neg q]
      simp (disch := omega) only [pk_un]
      exact b5
    · show _ = nI (if c = vN V then vN V else vRk V c)
      rw [if_neg q]
      simp (disch := omega) only [pk_un]
      exact b6
    · have hz : vSiz (vAddC V col par d t) c = vSiz V c := if_neg q
      rw [hz] at hj
      simp (disch := omega) only [pk_un]
      exact b7 j hj
/-- a cluster put ahead of all others of the newest cord -/
def shf1 (row : Nat → Int32) (base u : Nat) : Nat → Int32 := fun i => if base < i ∧ i ≤ base + u then row (i - 1) else row i
theorem shf1_0 {row : Nat → Int32} {base : Nat} : shf1 row base 0 = row := by
  funext i
  unfold shf1
  rw [if_neg (by omega)]
theorem shf1_s {row : Nat → Int32} {base u : Nat} : shf1 (upd row (base + (u + 1)) (row (base + u))) base u = shf1 row base (u + 1) := by
  funext i
  unfold shf1
  by_cases h1 : base < i ∧ i ≤ base + u
  · rw [if_pos h1, if_pos (by omega), pk_un (by omega)]
  · rw [if_neg h1]
    by_cases h2 : i = base + (u + 1)
    · subst h2
      rw [pk_us, if_pos (by omega)]
      congr 1
    · rw [pk_un h2, if_neg (by omega)]
theorem clu_L {N n z : Nat} {v : Int32} {hh : Hp} (hn : n < 16) (hz : z < 4) : ∀ (u fuel : Nat) (row : Nat → Int32), u < 4 → u < fuel → fX0_addCluster_L37 N 4 v fuel (nI n) (nI (112 + 4 * n)) (nI z) (nI u) (cel hh 4 row) = some (0, cel hh 4 (upd (upd (shf1 row (112 + 4 * n) u) (112 + 4 * n) v) (16 + n) (nI (z + 1)))) := by
  intro u
  have l16 : (16 : Int32) + nI n = nI (16 + n) := nI_add 16 n
  induction u with
  | zero =>
    intro fuel row hu hf
    obtain ⟨fuel, rfl⟩ : ∃ f, fuel = f + 1 := ⟨fuel - 1, by omega⟩
    rw [fX0_addCluster_L37, if_neg (by decide), shf1_0]
    simp (disch := omega) only [put_nI, hset_cel, Option.bind_some, l16, nI_1]
  | succ u ih =>
    intro fuel row hu hf
    obtain ⟨fuel, rfl⟩ : ∃ f, fuel = f + 1 := ⟨fuel - 1, by omega⟩
    have e1 : (nI (112 + 4 * n + (u + 1)) - 1 : Int32) = nI (112 + 4 * n + u) := by rw [show (1 : Int32) = nI 1 from rfl, pk_sub (by omega)]; rfl
    rw [fX0_addCluster_L37, if_pos (show (0 : Int32) < nI (u + 1) from nI_lt (a := 0) (by omega) (by omega)), nI_add, e1, at_nI (by omega) (by omega), put_nI (by omega) (by omega), Option.bind_some, hset_cel, cel_s, pk_m1, ih fuel _ (by omega) (by omega), shf1_s]
theorem cluM_L {N n z : Nat} {v : Int32} {hh : Hp} (hn : n < 16) : ∀ (u fuel : Nat) (a : Nat → Int32), u < 4 → u < fuel → a (18 + n) = nI z → fX5_takesCluster_L7 N v fuel (nI n) (nI u) (cel hh 27 a) = some (1, hset (cel hh 27 (upd (upd (shf1 a (34 + 4 * n) u) (34 + 4 * n) v) (18 + n) (nI (z + 1)))) 22 8 3) := by
  intro u
  have l18 : (18 : Int32) + nI n = nI (18 + n) := nI_add 18 n
  have l34 : (34 : Int32) + 4 * nI n = nI (34 + 4 * n) := by rw [show (34 : Int32) = nI 34 from rfl, show (4 : Int32) = nI 4 from rfl, pk_mul, nI_add]
  induction u with
  | zero =>
    intro fuel a hu hf hz
    obtain ⟨fuel, rfl⟩ : ∃ f, fuel = f + 1 := ⟨fuel - 1, by omega⟩
    rw [fX5_takesCluster_L7, if_neg (by decide), shf1_0]
    unfold fX5_goesTo
    simp (disch := omega) only [l34, l18, rng, nI_clamp, Option.bind_some, hset_cel, rd_nI, cel_s, pk_un, hz, nI_1]
    rfl
  | succ u ih =>
    intro fuel a hu hf hz
    obtain ⟨fuel, rfl⟩ : ∃ f, fuel = f + 1 := ⟨fuel - 1, by omega⟩
    have e1 : (nI (34 + 4 * n + (u + 1)) - 1 : Int32) = nI (34 + 4 * n + u) := by rw [show (1 : Int32) = nI 1 from rfl, pk_sub (by omega)]; rfl
    rw [fX5_takesCluster_L7, if_pos (show (0 : Int32) < nI (u + 1) from nI_lt (a := 0) (by omega) (by omega)), l34, nI_add, e1, rd_nI (by omega) (by omega), Option.bind_some, rng (by omega) (by omega), nI_clamp (by omega), Option.bind_some, hset_cel, cel_s, pk_m1, ih fuel _ (by omega) (by omega) (by rw [pk_un (by omega)]; exact hz), shf1_s]
theorem RowV.addK {row : Nat → Int32} {V : Vw} {v : Nat} (hV : RowV row V) (h0 : 0 < vN V) (hn : vN V ≤ 16) (hl : (vL V).length ≤ 16) (hz : vSiz V (vN V - 1) < 4) (hs : ∀ c, c < vN V → vSiz V c ≤ 4) : RowV (upd (upd (shf1 row (112 + 4 * (vN V - 1)) (vSiz V (vN V - 1))) (112 + 4 * (vN V - 1)) (nI v)) (16 + (vN V - 1)) (nI (vSiz V (vN V - 1) + 1))) (vAddK V v) := by
  obtain ⟨a1, a2, a3, a4, a5⟩ := hV
  obtain ⟨m, hm⟩ : ∃ m, m = vN V - 1 := ⟨_, rfl⟩
  rw [← hm] at hz ⊢
  have out : ∀ i, (i < 112 + 4 * m ∨ 112 + 4 * m + vSiz V m < i) → i ≠ 16 + m → upd (upd (shf1 row (112 + 4 * m) (vSiz V m)) (112 + 4 * m) (nI v)) (16 + m) (nI (vSiz V m + 1)) i = row i := fun i h1 h2 => by
    rw [pk_un h2, pk_un (by omega)]
    unfold shf1
    rw [if_neg (by omega)]
  refine ⟨by rw [out _ (by omega) (by omega)]; exact a1, by rw [out _ (by omega) (by omega)]; exact a2, by rw [out _ (by omega) (by omega)]; exact a3, fun i hi => by replace hi : i < (vL V).length := hi; rw [out _ (by omega) (by omega)]; exact a4 i hi, fun c hc => ?_⟩
  replace hc : c < vN V := hc
  obtain ⟨b1, b2', b3, b4, b5, b6, b7⟩ := a5 c hc
  have h4 := hs c hc
  refine ⟨by rw [out _ (by omega) (by omega)]; exact b1, ?_, by rw [out _ (by omega) (by omega)]; exact b3, by rw [out _ (by omega) (by omega)]; exact b4, by rw [out _ (by omega) (by omega)]; exact b5, by rw [out _ (by omega) (by omega)]; exact b6, fun j hj => ?_⟩
  · show _ = nI (if c = vN V - 1 then vSiz V c + 1 else vSiz V c)
    rw [← hm]
    by_cases q : c = m
    · subst q; rw [pk_us, if_pos rfl]
    · rw [out _ (by omega) (by omega), if_neg q]; exact b2'
  · replace hj : j < (if c = vN V - 1 then vSiz V c + 1 else vSiz V c) := hj
    show _ = nI ((if c = vN V - 1 then (fun j => if j = 0 then v else vCod V c (j - 1)) else vCod V c) j)
    rw [← hm] at hj ⊢
    by_cases q : c = m
    · subst q
      rw [if_pos rfl] at hj ⊢
      show _ = nI (if j = 0 then v else vCod V c (j - 1))
      rw [pk_un (by omega)]
      by_cases hj0 : j = 0
      · subst hj0
        rw [Nat.add_zero, pk_us, if_pos rfl]
      · rw [pk_un (by omega), if_neg hj0]
        unfold shf1
        rw [if_pos (by omega), show 112 + 4 * c + j - 1 = 112 + 4 * c + (j - 1) by omega]
        exact b7 (j - 1) (by omega)
    · rw [if_neg q] at hj ⊢
      rw [out _ (by omega) (by omega)]
      exact b7 j hj
theorem ModV.addK {a : Nat → Int32} {V : Vw} {v : Nat} (hV : ModV a V) (h0 : 0 < vN V) (hn : vN V ≤ 16) (hz : vSiz V (vN V - 1) < 4) (hs : ∀ c, c < vN V → vSiz V c ≤ 4) : ModV (upd (upd (shf1 a (34 + 4 * (vN V - 1)) 3) (34 + 4 * (vN V - 1)) (nI v)) (18 + (vN V - 1)) (nI (vSiz V (vN V - 1) + 1))) (vAddK V v) := by
  obtain ⟨a1, a2, a5⟩ := hV
  obtain ⟨m, hm⟩ : ∃ m, m = vN V - 1 := ⟨_, rfl⟩
  rw [← hm] at hz ⊢
  have out : ∀ i, (i < 34 + 4 * m ∨ 34 + 4 * m + 3 < i) → i ≠ 18 + m → upd (upd (shf1 a (34 + 4 * m) 3) (34 + 4 * m) (nI v)) (18 + m) (nI (vSiz V m + 1)) i = a i := fun i h1 h2 => by
    rw [pk_un h2, pk_un (by omega)]
    unfold shf1
    rw [if_neg (by omega)]
  refine ⟨by rw [out _ (by omega) (by omega)]; exact a1, by rw [out _ (by omega) (by omega)]; exact a2, fun c hc => ?_⟩
  replace hc : c < vN V := hc
  obtain ⟨b1, b2', b3, b4, b5, b6, b7⟩ := a5 c hc
  have h4 := hs c hc
  refine ⟨by rw [out _ (by omega) (by omega)]; exact b1, ?_, by rw [out _ (by omega) (by omega)]; exact b3, by rw [out _ (by omega) (by omega)]; exact b4, by rw [out _ (by omega) (by omega)]; exact b5, by rw [out _ (by omega) (by omega)]; exact b6, fun j hj => ?_⟩
  · show _ = nI (if c = vN V - 1 then vSiz V c + 1 else vSiz V c)
    rw [← hm]
    by_cases q : c = m
    · subst q; rw [pk_us, if_pos rfl]
    · rw [out _ (by omega) (by omega), if_neg q]; exact b2'
  · replace hj : j < (if c = vN V - 1 then vSiz V c + 1 else vSiz V c) := hj
    show _ = nI ((if c = vN V - 1 then (fun j => if j = 0 then v else vCod V c (j - 1)) else vCod V c) j)
    rw [← hm] at hj ⊢
    by_cases q : c = m
    · subst q
      rw [if_pos rfl] at hj ⊢
      show _ = nI (if j = 0 then v else vCod V c (j - 1))
      rw [pk_un (by omega)]
      by_cases hj0 : j = 0
      · subst hj0
        rw [Nat.add_zero, pk_us, if_pos rfl]
      · rw [pk_un (by omega), if_neg hj0]
        unfold shf1
        rw [if_pos (by omega), show 34 + 4 * c + j - 1 = 34 + 4 * c + (j - 1) by omega]
        exact b7 (j - 1) (by omega)
    · rw [if_neg q] at hj ⊢
      rw [out _ (by omega) (by omega)]
      exact b7 j hj
