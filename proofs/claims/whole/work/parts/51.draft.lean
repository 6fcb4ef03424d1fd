/-! reading a text: the draft, letter by letter -/
def kk (s d : Nat) : Nat := if s ≤ 1 then d else d + 1
def rm (s : Nat) : Nat := if s = 3 then 5 else if s = 4 then 6 else if s = 5 then 3 else if s = 6 then 4 else s
def DrC (V : Vw) (c : Nat) : Prop := vCol V c ≤ 9 ∧ vSiz V c ≤ 4 ∧ (∀ j, j < vSiz V c → codOK (vCod V c j)) ∧ vDep V c ≤ 2 ∧ (vPar V c = none → vDep V c = 0) ∧ (∀ p, vPar V c = some p → p < c ∧ vDep V c = vDep V p + 1 ∧ vGrp V c = vGrp V p ∧ vTop V c = false) ∧ vGrp V c < vG V ∧ vRk V c = c
def Path (V : Vw) (L : Nat → Nat) (e : Nat) : Prop := L e < vN V ∧ vDep V (L e) = e ∧ vGrp V (L e) + 1 = vG V ∧ (∀ x, L e < x → x < vN V → under V x (L e) = true) ∧ (0 < e → vPar V (L e) = some (L (e - 1)))
def PI (V : Vw) (s d : Nat) (b : Bool) (L : Nat → Nat) : Prop := (vN V ≤ 16 ∧ vG V ≤ 5 ∧ d ≤ 2 ∧ s ≤ 6 ∧ (s = 0 → d = 0) ∧ (s ≠ 0 → 0 < vG V) ∧ (2 ≤ s → 0 < vN V)) ∧ (∀ c, c < vN V → DrC V c) ∧ (∀ c, c < vN V → vSiz V c = 0 → c + 1 = vN V ∧ (s = 2 ∨ s = 3 ∨ s = 4)) ∧ ((s = 3 ∨ s = 4) → vSiz V (vN V - 1) < 4) ∧ (s = 2 → vSiz V (vN V - 1) = 0) ∧ vL V = (List.range (vN V)).filter (isPl V) ∧ (∀ c d, c < vN V → d < vN V → vTop V c = true → vTop V d = true → vGrp V c = vGrp V d → c = d) ∧ (∀ c, c < vN V → vTop V c = true → vGrp V c + 1 = vG V → b = true ∧ ¬ (s = 1 ∧ d = 0)) ∧ (∀ c p, c < vN V → vPar V c = some p → ∀ e, p < e → e < c → ∃ q, vPar V e = some q ∧ (q = p ∨ vPar V q = some p)) ∧ (∀ e, e < kk s d → Path V L e)
theorem filter_len_le {p : Nat → Bool} (n : Nat) : ((List.range n).filter p).length ≤ n := by
  have := List.length_filter_le p (List.range n)
  rw [List.length_range] at this
  exact this
theorem PI.wf {V : Vw} {d : Nat} {b : Bool} {L : Nat → Nat} (h : PI V 0 d b L) : Wf 0 V := by
  obtain ⟨⟨h1, h2, -⟩, h3, h4, -, -, h5, h6, -, h7, -⟩ := h
  refine ⟨⟨h1, h2⟩, fun c hc => ?_, ?_, fun c => ?_, h6, h7⟩
  · obtain ⟨a1, a2, a3, a4, a5, a6, a7, a8⟩ := h3 c hc
    have hp : ¬ vSiz V c = 0 := fun q => by have := (h4 c hc q).2; omega
    exact ⟨a1, ⟨by omega, a2⟩, a3, a4, a5, a6, a7, by omega⟩
  · rw [h5]
    refine List.Pairwise.imp_of_mem ?_ (List.pairwise_lt_range.filter (isPl V))
    intro x y hx hy hxy
    have h8 := (h3 x (List.mem_range.mp (List.mem_filter.mp hx).1)).2.2.2.2.2.2.2
    have h9 := (h3 y (List.mem_range.mp (List.mem_filter.mp hy).1)).2.2.2.2.2.2.2
    omega
  · rw [h5, List.mem_filter, List.mem_range]
    unfold isPl
    cases vPar V c <;> cases vTop V c <;> simp
/-- the state alone changes -/
theorem PI.st {V : Vw} {s d s' d' : Nat} {b b' : Bool} {L : Nat → Nat} (h : PI V s d b L) (hd : d' ≤ 2) (hs : s' ≤ 6) (h0 : s' = 0 → d' = 0) (hs0 : s ≠ 0) (hn : 2 ≤ s' → 2 ≤ s) (hz : (s = 2 ∨ s = 3 ∨ s = 4) → (s' = 2 ∨ s' = 3 ∨ s' = 4)) (h3 : (s' = 3 ∨ s' = 4) → vSiz V (vN V - 1) < 4) (h2 : s' = 2 → s = 2) (ht : ∀ c, c < vN V → vTop V c = true → vGrp V c + 1 = vG V → b' = true ∧ ¬ (s' = 1 ∧ d' = 0)) (hk : kk s' d' ≤ kk s d) : PI V s' d' b' L := by
  obtain ⟨⟨a1, a2, a3, a4, a5, a6, a7⟩, b1, b2, b3, b4, b5, b6, b7, b8, b9⟩ := h
  exact ⟨⟨a1, a2, hd, hs, h0, fun _ => a6 hs0, fun q => a7 (hn q)⟩, b1, fun c hc q => ⟨(b2 c hc q).1, hz (b2 c hc q).2⟩, h3, fun q => b4 (h2 q), b5, b6, ht, b8, fun e he => b9 e (by omega)⟩
def vAddG (V : Vw) : Vw := (vN V, vG V + 1, V.2.2)
theorem PI.grp {V : Vw} {d : Nat} {b : Bool} {L : Nat → Nat} (h : PI V 0 d b L) (hg : vG V < 5) : PI (vAddG V) 1 0 false L := by
  obtain ⟨⟨a1, a2, a3, a4, a5, a6, a7⟩, b1, b2, b3, b4, b5, b6, b7, b8, b9⟩ := h
  refine ⟨⟨a1, hg, by omega, by omega, fun _ => rfl, fun _ => Nat.succ_pos _, fun q => by omega⟩, fun c hc => ?_, fun c hc q => by have := (b2 c hc q).2; omega, fun q => by omega, fun q => by omega, b5, b6, fun c hc ht hgr => ?_, b8, fun e he => by unfold kk at he; rw [if_pos (by omega)] at he; omega⟩
  · obtain ⟨c1, c2, c3, c4, c5, c6, c7, c8⟩ := b1 c hc
    exact ⟨c1, c2, c3, c4, c5, c6, Nat.lt_succ_of_lt c7, c8⟩
  · have c7 := (b1 c hc).2.2.2.2.2.2.1
    have : vGrp V c + 1 = vG V + 1 := hgr
    omega
def vAddC (V : Vw) (col : Nat) (par : Option Nat) (dep : Nat) (top : Bool) : Vw := (vN V + 1, vG V, (fun x => if x = vN V then col else vCol V x), (fun x => if x = vN V then 0 else vSiz V x), vCod V, (fun x => if x = vN V then par else vPar V x), (fun x => if x = vN V then dep else vDep V x), (fun x => if x = vN V then top else vTop V x), (fun x => if x = vN V then vG V - 1 else vGrp V x), (fun x => if x = vN V then vN V else vRk V x), if dep = 0 ∧ top = false then vL V ++ [vN V] else vL V)
def uL (L : Nat → Nat) (d n : Nat) : Nat → Nat := fun x => if x = d then n else L x
theorem uL_s {L : Nat → Nat} {d n : Nat} : uL L d n d = n := by unfold uL; rw [if_pos rfl]
theorem uL_o {L : Nat → Nat} {d n x : Nat} (h : ¬ x = d) : uL L d n x = L x := by unfold uL; rw [if_neg h]
def parO (L : Nat → Nat) (d : Nat) : Option Nat := if d = 0 then none else some (L (d - 1))
theorem PI.cord {V : Vw} {s d col : Nat} {b : Bool} {L : Nat → Nat} (h : PI V s d b L) (hs : s = 1 ∨ ((s = 5 ∨ s = 6) ∧ ¬ (d = 0 ∧ b = true))) (hn : vN V < 16) (hc : col ≤ 9) : PI (vAddC V col (parO L d) d (decide (d = 0) && b)) 2 d b (uL L d (vN V)) := by
  obtain ⟨⟨a1, a2, a3, a4, a5, a6, a7⟩, b1, b2, b3, b4, b5, b6, b7, b8, b9⟩ := h
  have hg0 : 0 < vG V := a6 (by omega)
  have hkd : d ≤ kk s d := by unfold kk; split <;> omega
  obtain ⟨W, hW⟩ : ∃ W, W = vAddC V col (parO L d) d (decide (d = 0) && b) := ⟨_, rfl⟩
  have wN : vN W = vN V + 1 := by rw [hW]; rfl
  have wG : vG W = vG V := by rw [hW]; rfl
  have o : ∀ x, x < vN V → vCol W x = vCol V x ∧ vSiz W x = vSiz V x ∧ vPar W x = vPar V x ∧ vDep W x = vDep V x ∧ vTop W x = vTop V x ∧ vGrp W x = vGrp V x ∧ vRk W x = vRk V x := fun x hx => by
    have hne : ¬ x = vN V := by omega
    rw [hW]
    exact ⟨if_neg hne, if_neg hne, if_neg hne, if_neg hne, if_neg hne, if_neg hne, if_neg hne⟩
  have nw : vCol W (vN V) = col ∧ vSiz W (vN V) = 0 ∧ vPar W (vN V) = parO L d ∧ vDep W (vN V) = d ∧ vTop W (vN V) = (decide (d = 0) && b) ∧ vGrp W (vN V) = vG V - 1 ∧ vRk W (vN V) = vN V := by
    rw [hW]
    exact ⟨if_pos rfl, if_pos rfl, if_pos rfl, if_pos rfl, if_pos rfl, if_pos rfl, if_pos rfl⟩
  have wCod : vCod W = vCod V := by rw [hW]; rfl
  rw [← hW]
  have hcase : ∀ c, c < vN W → c < vN V ∨ c = vN V := fun c hc => by omega
  -- who is beneath whom stays, the new one is beneath the last of each depth above
  have hund : ∀ x y, x < vN V → under W x y = under V x y := fun x y hx => by
    unfold under
    rw [(o x hx).2.2.1]
    cases hp : vPar V x with
    | none => rfl
    | some p =>
      have := (b1 x hx).2.2.2.2.2.1 p hp
      show (p == y || vPar W p == some y) = _
      rw [(o p (by omega)).2.2.1]
  have hnewu : ∀ e, e < d → under W (vN V) (L e) = true := fun e he => by
    have hp : vPar W (vN V) = some (L (d - 1)) := by rw [nw.2.2.1]; unfold parO; rw [if_neg (by omega)]
    have hl := b9 (d - 1) (by omega)
    unfold under
    rw [hp]
    show (L (d - 1) == L e || vPar W (L (d - 1)) == some (L e)) = true
    rw [(o _ hl.1).2.2.1]
    by_cases q : e = d - 1
    · subst q; simp
    · have h2 : e = d - 1 - 1 := by omega
      have := hl.2.2.2.2 (by omega)
      rw [← h2] at this
      rw [this]; simp
  refine ⟨⟨by omega, by omega, a3, by omega, fun q => by omega, fun _ => by omega, fun _ => by omega⟩, fun c hc' => ?_, fun c hc' q => ?_, fun q => by omega, fun _ => by rw [wN]; exact nw.2.1, ?_, fun c e hc' he tc te hg => ?_, fun c hc' tc hg => ?_, fun c p hc' hp e h1 h2 => ?_, fun e he => ?_⟩
  · rcases hcase c hc' with q | q
    · obtain ⟨e1, e2, e3, e4, e5, e6, e7⟩ := o c q
      obtain ⟨c1, c2, c3, c4, c5, c6, c7, c8⟩ := b1 c q
      refine ⟨by rw [e1]; exact c1, by rw [e2]; exact c2, by rw [e2, wCod]; exact c3, by rw [e4]; exact c4, by rw [e3, e4]; exact c5, fun p hp => ?_, by rw [e6, wG]; exact c7, by rw [e7]; exact c8⟩
      rw [e3] at hp
      have c6' := c6 p hp
      obtain ⟨f1, f2, f3, f4, f5, f6, f7⟩ := o p (by omega)
      rw [e4, e6, e5, f4, f6]
      exact c6'
    · subst q
      refine ⟨by rw [nw.1]; exact hc, by rw [nw.2.1]; omega, fun j hj => by rw [nw.2.1] at hj; omega, by rw [nw.2.2.2.1]; exact a3, fun q => ?_, fun p hp => ?_, by rw [nw.2.2.2.2.2.1, wG]; omega, nw.2.2.2.2.2.2⟩
      · rw [nw.2.2.1] at q
        unfold parO at q
        rw [nw.2.2.2.1]
        by_cases h0 : d = 0
        · exact h0
        · rw [if_neg h0] at q; cases q
      · rw [nw.2.2.1] at hp
        unfold parO at hp
        by_cases h0 : d = 0
        · rw [if_pos h0] at hp; cases hp
        · rw [if_neg h0] at hp
          injection hp with hp
          subst hp
          have hl := b9 (d - 1) (by omega)
          obtain ⟨f1, f2, f3, f4, f5, f6, f7⟩ := o _ hl.1
          refine ⟨hl.1, by rw [nw.2.2.2.1, f4, hl.2.1]; omega, by rw [nw.2.2.2.2.2.1, f6]; have := hl.2.2.1; omega, by rw [nw.2.2.2.2.1, decide_eq_false h0]; rfl⟩
  · rcases hcase c hc' with q2 | q2
    · rw [(o c q2).2.1] at q
      have := (b2 c q2 q).2
      omega
    · exact ⟨by omega, Or.inl rfl⟩
  · have e1 : (List.range (vN V)).filter (isPl W) = (List.range (vN V)).filter (isPl V) := filter_congrL (fun x hx => by
      have hx' := List.mem_range.mp hx
      unfold isPl
      rw [(o x hx').2.2.1, (o x hx').2.2.2.2.1])
    have e2 : vL W = if d = 0 ∧ (decide (d = 0) && b) = false then vL V ++ [vN V] else vL V := by rw [hW]; rfl
    rw [wN, List.range_succ, List.filter_append, e1, e2, b5]
    have e3 : isPl W (vN V) = decide (d = 0 ∧ (decide (d = 0) && b) = false) := by
      unfold isPl
      rw [nw.2.2.1, nw.2.2.2.2.1]
      unfold parO
      by_cases h0 : d = 0
      · rw [if_pos h0]; cases b <;> simp [h0]
      · rw [if_neg h0]; simp [h0]
    by_cases h4 : d = 0 ∧ (decide (d = 0) && b) = false
    · rw [if_pos h4, List.filter_cons_of_pos (by rw [e3]; exact decide_eq_true h4), List.filter_nil]
    · rw [if_neg h4, List.filter_cons_of_neg (by rw [e3, decide_eq_false h4]; decide), List.filter_nil, List.append_nil]
  · have key : ∀ x, x < vN V → vTop W x = true → vGrp W x = vGrp W (vN V) → vTop W (vN V) = true → False := fun x hx tx hgx tn => by
      rw [(o x hx).2.2.2.2.1] at tx
      rw [(o x hx).2.2.2.2.2.1, nw.2.2.2.2.2.1] at hgx
      rw [nw.2.2.2.2.1, Bool.and_eq_true, decide_eq_true_iff] at tn
      have h8 := b7 x hx tx (by omega)
      rcases hs with q | ⟨q, q2⟩
      · exact h8.2 ⟨q, tn.1⟩
      · exact q2 tn
    rcases hcase c hc' with q | q <;> rcases hcase e he with q2 | q2
    · refine b6 c e q q2 ?_ ?_ ?_
      · rw [← (o c q).2.2.2.2.1]; exact tc
      · rw [← (o e q2).2.2.2.2.1]; exact te
      · rw [← (o c q).2.2.2.2.2.1, ← (o e q2).2.2.2.2.2.1]; exact hg
    · subst q2; exact (key c q tc hg te).elim
    · subst q; exact (key e q2 te hg.symm tc).elim
    · omega
  · refine ⟨?_, fun q => by omega⟩
    rcases hcase c hc' with q | q
    · rw [(o c q).2.2.2.2.1] at tc
      rw [(o c q).2.2.2.2.2.1, wG] at hg
      exact (b7 c q tc hg).1
    · subst q
      rw [nw.2.2.2.2.1, Bool.and_eq_true] at tc
      exact tc.2
  · rcases hcase c hc' with q | q
    · rw [(o c q).2.2.1] at hp
      obtain ⟨z, z1, z2⟩ := b8 c p q hp e h1 h2
      have := (b1 e (by omega)).2.2.2.2.2.1 z z1
      exact ⟨z, by rw [(o e (by omega)).2.2.1]; exact z1, by rw [(o z (by omega)).2.2.1]; exact z2⟩
    · subst q
      rw [nw.2.2.1] at hp
      unfold parO at hp
      by_cases h0 : d = 0
      · rw [if_pos h0] at hp; cases hp
      · rw [if_neg h0] at hp
        injection hp with hp
        subst hp
        have hl := b9 (d - 1) (by omega)
        have hu := hl.2.2.2.1 e h1 h2
        obtain ⟨z, z1, z2⟩ := under_iff.mp hu
        have := (b1 e h2).2.2.2.2.2.1 z z1
        exact ⟨z, by rw [(o e h2).2.2.1]; exact z1, by rw [(o z (by omega)).2.2.1]; exact z2⟩
  · have hk2 : kk 2 d = d + 1 := by unfold kk; rw [if_neg (by omega)]
    rw [hk2] at he
    by_cases q : e = d
    · subst q
      unfold Path
      rw [uL_s, wN, nw.2.2.2.1, nw.2.2.2.2.2.1, wG, nw.2.2.1]
      refine ⟨by omega, rfl, by omega, fun x h1 h2 => by omega, fun h0 => ?_⟩
      unfold parO
      rw [if_neg (by omega), uL_o (by omega)]
    · have hl := b9 e (by omega)
      obtain ⟨f1, f2, f3, f4, f5, f6, f7⟩ := o _ hl.1
      unfold Path
      rw [uL_o q, wN, f4, f6, wG, f3, uL_o (show ¬ e - 1 = d by omega)]
      refine ⟨by have := hl.1; omega, hl.2.1, hl.2.2.1, fun x h1 h2 => ?_, hl.2.2.2.2⟩
      by_cases hx : x < vN V
      · rw [hund x _ hx]; exact hl.2.2.2.1 x h1 hx
      · have : x = vN V := by omega
        subst this
        exact hnewu e (by omega)
def vAddK (V : Vw) (v : Nat) : Vw := (vN V, vG V, vCol V, (fun x => if x = vN V - 1 then vSiz V x + 1 else vSiz V x), (fun x => if x = vN V - 1 then (fun j => if j = 0 then v else vCod V x (j - 1)) else vCod V x), V.2.2.2.2.2)
theorem PI.clu {V : Vw} {s d v : Nat} {b : Bool} {L : Nat → Nat} (h : PI V s d b L) (hs : s = 2 ∨ s = 3 ∨ s = 4 ∨ s = 5) (hz : vSiz V (vN V - 1) < 4) (hv : codOK v) : PI (vAddK V v) 5 d b L := by
  obtain ⟨⟨a1, a2, a3, a4, a5, a6, a7⟩, b1, b2, b3, b4, b5, b6, b7, b8, b9⟩ := h
  have hn0 := a7 (by omega)
  have sz : ∀ x, vSiz (vAddK V v) x = if x = vN V - 1 then vSiz V x + 1 else vSiz V x := fun x => rfl
  have hk : kk 5 d = kk s d := by unfold kk; rw [if_neg (by omega), if_neg (by omega)]
  refine ⟨⟨a1, a2, a3, by omega, fun q => by omega, fun _ => a6 (by omega), fun _ => hn0⟩, fun c hc => ?_, fun c hc q => ?_, fun q => by omega, fun q => by omega, b5, b6, fun c hc tc hg => ⟨(b7 c hc tc hg).1, by omega⟩, b8, fun e he => b9 e (by omega)⟩
  · obtain ⟨c1, c2, c3, c4, c5, c6, c7, c8⟩ := b1 c hc
    refine ⟨c1, ?_, fun j hj => ?_, c4, c5, c6, c7, c8⟩
    · rw [sz]
      split
      · rename_i q; rw [q]; omega
      · exact c2
    · rw [sz] at hj
      show codOK ((if c = vN V - 1 then (fun j => if j = 0 then v else vCod V c (j - 1)) else vCod V c) j)
      by_cases q : c = vN V - 1
      · rw [if_pos q] at hj ⊢
        show codOK (if j = 0 then v else vCod V c (j - 1))
        split
        · exact hv
        · exact c3 (j - 1) (by omega)
      · rw [if_neg q] at hj ⊢
        exact c3 j hj
  · rw [sz] at q
    by_cases q2 : c = vN V - 1
    · rw [if_pos q2] at q; omega
    · rw [if_neg q2] at q
      have h1 : c < vN V := hc
      have := (b2 c hc q).1
      omega
