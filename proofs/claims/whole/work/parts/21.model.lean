/-! the reference's readers -/
theorem ne_lit {a b : Nat} (ha : a < 2 ^ 31) (hb : b < 2 ^ 31) (h : ¬ a = b) : ¬ nI a = nI b := fun q => h ((nI_eq ha hb).mp q)
theorem nlt_lit {a b : Nat} (ha : a < 2 ^ 31) (hb : b < 2 ^ 31) (h : ¬ a < b) : ¬ nI a < nI b := fun q => h ((nI_ltI ha hb).mp q)
theorem lg_neg (x y : Int64) : lg_cmp x y < 0 ↔ x.toInt < y.toInt := by
  unfold lg_cmp
  by_cases h1 : x > y
  · rw [if_pos h1]
    have h2 : y.toInt < x.toInt := Int64.lt_iff_toInt_lt.mp h1
    exact ⟨fun h => absurd h (by decide), fun h => by omega⟩
  · rw [if_neg h1]
    have h2 : ¬ y.toInt < x.toInt := fun h => h1 (Int64.lt_iff_toInt_lt.mpr h)
    by_cases h3 : x = y
    · rw [if_pos h3]
      subst h3
      exact ⟨fun h => absurd h (by decide), fun h => by omega⟩
    · rw [if_neg h3]
      have h4 : ¬ x.toInt = y.toInt := fun h => h3 (Int64.toInt_inj.mp h)
      exact ⟨fun _ => by omega, fun _ => by decide⟩
theorem lg_pos (x y : Int64) : 0 < lg_cmp x y ↔ y.toInt < x.toInt := by
  unfold lg_cmp
  by_cases h1 : x > y
  · rw [if_pos h1]
    exact ⟨fun _ => Int64.lt_iff_toInt_lt.mp h1, fun _ => by decide⟩
  · rw [if_neg h1]
    have h2 : ¬ y.toInt < x.toInt := fun h => h1 (Int64.lt_iff_toInt_lt.mpr h)
    by_cases h3 : x = y
    · rw [if_pos h3]
      exact ⟨fun h => absurd h (by decide), fun h => absurd h h2⟩
    · rw [if_neg h3]
      exact ⟨fun h => absurd h (by decide), fun h => absurd h h2⟩
theorem in_yes (h : Hp) {x y z : Int64} (h1 : y.toInt ≤ x.toInt) (h2 : x.toInt ≤ z.toInt) : fX5_in h x y z = 1 := by
  unfold fX5_in
  rw [if_neg (fun q => by have := (lg_neg x y).mp q; omega), if_neg (fun q => by have := (lg_pos x z).mp q; omega)]
theorem in_no (h : Hp) {x y z : Int64} (h1 : x.toInt < y.toInt ∨ z.toInt < x.toInt) : fX5_in h x y z = 0 := by
  unfold fX5_in
  by_cases h2 : lg_cmp x y < 0
  · rw [if_pos h2]
  · rw [if_neg h2, if_pos ((lg_pos x z).mpr (by
      rcases h1 with q | q
      · exact absurd ((lg_neg x y).mpr q) h2
      · exact q))]
theorem nI_pred_toInt {n : Nat} (hn : n < 2 ^ 30) : (nI n - 1).toInt = (n : Int) - 1 := by
  rw [Int32.toInt_sub, nI_toInt (by omega)]
  have e5 : (1 : Int32).toInt = 1 := rfl
  rw [e5]
  exact Int.bmod_eq_of_le (by omega) (by omega)
/-- 'in(x, 0, n - 1)' -/
theorem in_nI (h : Hp) {n : Nat} (hn : n < 2 ^ 30) (x : Int32) : (fX5_in h x.toInt64 0 (nI n - 1).toInt64 = 1 ∧ ∃ c, c < n ∧ x = nI c) ∨ (fX5_in h x.toInt64 0 (nI n - 1).toInt64 = 0 ∧ ∀ c, c < n → x ≠ nI c) := by
  have e0 : (0 : Int64).toInt = 0 := rfl
  by_cases h1 : 0 ≤ x.toInt ∧ x.toInt < n
  · refine Or.inl ⟨in_yes h (by rw [Int32.toInt_toInt64, e0]; omega) (by rw [Int32.toInt_toInt64, Int32.toInt_toInt64, nI_pred_toInt hn]; omega), x.toInt.toNat, by omega, ?_⟩
    apply Int32.toInt_inj.mp
    rw [nI_toInt (by omega)]
    omega
  · refine Or.inr ⟨in_no h ?_, fun c hc e => h1 ?_⟩
    · rw [Int32.toInt_toInt64, Int32.toInt_toInt64, nI_pred_toInt hn, e0]; omega
    · subst e
      rw [nI_toInt (by omega)]
      omega
section MR
variable {h : Hp} {k : Nat} {V : Vw}
theorem m_cords (hV : ModV (h 23) V) : h 23 0 = nI (vN V) := hV.1
theorem m_isCord (hV : ModV (h 23) V) (hW : Wf k V) (x : Int32) : (fX5_isCord h x = 1 ∧ ∃ c, c < vN V ∧ x = nI c) ∨ (fX5_isCord h x = 0 ∧ ∀ c, c < vN V → x ≠ nI c) := by
  have := hW.n
  unfold fX5_isCord
  rw [hV.1]
  exact in_nI h (by omega) x
theorem m_isGroup (hV : ModV (h 23) V) (hW : Wf k V) (x : Int32) : (fX5_isGroup h x = 1 ∧ ∃ c, c < vG V ∧ x = nI c) ∨ (fX5_isGroup h x = 0 ∧ ∀ c, c < vG V → x ≠ nI c) := by
  have := hW.1.2
  unfold fX5_isGroup
  rw [hV.2.1]
  exact in_nI h (by omega) x
theorem r_col (hV : ModV (h 23) V) (hW : Wf k V) {c : Nat} (hc : c < vN V) : rdH h 23 162 (2 + nI c) = some (nI (vCol V c)) := by
  have := hW.n
  rw [show (2 : Int32) = nI 2 from rfl, nI_add, rd_nI (by omega) (by omega), (hV.c hc).1]
theorem r_siz (hV : ModV (h 23) V) (hW : Wf k V) {c : Nat} (hc : c < vN V) : rdH h 23 162 (18 + nI c) = some (nI (vSiz V c)) := by
  have := hW.n
  rw [show (18 : Int32) = nI 18 from rfl, nI_add, rd_nI (by omega) (by omega), (hV.c hc).2.1]
theorem r_par (hV : ModV (h 23) V) (hW : Wf k V) {c : Nat} (hc : c < vN V) : rdH h 23 162 (98 + nI c) = some (encM (vPar V c)) := by
  have := hW.n
  rw [show (98 : Int32) = nI 98 from rfl, nI_add, rd_nI (by omega) (by omega), (hV.c hc).2.2.1]
theorem r_grp (hV : ModV (h 23) V) (hW : Wf k V) {c : Nat} (hc : c < vN V) : rdH h 23 162 (114 + nI c) = some (nI (vGrp V c)) := by
  have := hW.n
  rw [show (114 : Int32) = nI 114 from rfl, nI_add, rd_nI (by omega) (by omega), (hV.c hc).2.2.2.1]
theorem r_top (hV : ModV (h 23) V) (hW : Wf k V) {c : Nat} (hc : c < vN V) : rdH h 23 162 (130 + nI c) = some (b2 (vTop V c)) := by
  have := hW.n
  rw [show (130 : Int32) = nI 130 from rfl, nI_add, rd_nI (by omega) (by omega), (hV.c hc).2.2.2.2.1]
theorem r_rk (hV : ModV (h 23) V) (hW : Wf k V) {c : Nat} (hc : c < vN V) : rdH h 23 162 (146 + nI c) = some (nI (vRk V c)) := by
  have := hW.n
  rw [show (146 : Int32) = nI 146 from rfl, nI_add, rd_nI (by omega) (by omega), (hV.c hc).2.2.2.2.2.1]
theorem m_knot0 (hV : ModV (h 23) V) (hW : Wf k V) {c j : Nat} (hc : c < vN V) (hj : j < vSiz V c) : fX5_knot0 h (nI c) (nI j) = some (nI (vCod V c j)) := by
  have := hW.n
  have := hW.siz hc
  unfold fX5_knot0
  rw [show (34 : Int32) = nI 34 from rfl, show (4 : Int32) = nI 4 from rfl, pk_mul, nI_add, nI_add, rd_nI (by omega) (by omega), (hV.c hc).2.2.2.2.2.2 j hj]
  rfl
theorem encM_neg (o : Option Nat) (ho : ∀ p, o = some p → p < 2 ^ 31) : (encM o < 0) ↔ o = none := by
  cases o with
  | none => exact ⟨fun _ => rfl, fun _ => by decide⟩
  | some p => exact ⟨fun h => absurd h (nI_pos (ho p rfl)), fun h => by cases h⟩
theorem Wf.par31 {k : Nat} {V : Vw} (h : Wf k V) {c : Nat} (hc : c < vN V) : ∀ p, vPar V c = some p → p < 2 ^ 31 := fun p hp => by
  have := h.par hc hp
  have := h.n
  omega
def isPl (V : Vw) (c : Nat) : Bool := (vPar V c).isNone && !vTop V c
theorem m_isPendant (hV : ModV (h 23) V) (hW : Wf k V) {c : Nat} (hc : c < vN V) : fX5_isPendant h (nI c) = some (b2 (vPar V c).isNone) := by
  unfold fX5_isPendant
  rw [r_par hV hW hc, Option.bind_some]
  cases hp : vPar V c with
  | none => rfl
  | some p => rw [show encM (some p) = nI p from rfl, if_neg (nI_pos (hW.par31 hc p hp))]; rfl
theorem m_isPlain (hV : ModV (h 23) V) (hW : Wf k V) {c : Nat} (hc : c < vN V) : fX5_isPlain h (nI c) = some (b2 (isPl V c)) := by
  unfold fX5_isPlain isPl
  rw [m_isPendant hV hW hc, Option.bind_some]
  cases (vPar V c).isNone with
  | false => rfl
  | true =>
    rw [r_top hV hW hc]
    cases vTop V c <;> rfl
/-- e hangs from c, or from one that does -/
def under (V : Vw) (e c : Nat) : Bool := match vPar V e with
  | none => false
  | some p => p == c || vPar V p == some c
theorem m_isUnder (hV : ModV (h 23) V) (hW : Wf k V) {e c : Nat} (he : e < vN V) (hc : c < vN V) : fX5_isUnder h (nI e) (nI c) = some (b2 (under V e c)) := by
  have hn := hW.n
  unfold fX5_isUnder under
  rw [r_par hV hW he, Option.bind_some]
  cases hp : vPar V e with
  | none =>
    show (if (-1 : Int32) = nI c then _ else if (-1 : Int32) < 0 then _ else _) = _
    rw [if_neg (fun q => nI_pos (n := c) (by omega) (by rw [← q]; decide)), if_pos (by decide)]
    rfl
  | some p =>
    have hpl := hW.par he hp
    show (if nI p = nI c then _ else if nI p < 0 then _ else _) = _
    by_cases h1 : p = c
    · subst h1
      rw [if_pos rfl]
      simp [b2]
    · rw [if_neg (fun q => h1 ((nI_eq (by omega) (by omega)).mp q)), if_neg (nI_pos (by omega)), show encM (some p) = nI p from rfl, r_par hV hW (show p < vN V by omega), Option.bind_some]
      cases hq : vPar V p with
      | none =>
        rw [show encM none = (-1 : Int32) from rfl, if_neg (fun q => nI_pos (n := c) (by omega) (by rw [← q]; decide))]
        simp [b2, h1, hq]
      | some q =>
        have hql := hW.par (show p < vN V by omega) hq
        rw [show encM (some q) = nI q from rfl]
        by_cases h2 : q = c
        · subst h2
          rw [if_pos rfl]
          simp [b2, hq]
        · rw [if_neg (fun z => h2 ((nI_eq (by omega) (by omega)).mp z))]
          simp [b2, h1, h2, hq]
/-- told(c, turned): the loop, over any order of the codes -/
theorem m_told_L (hV : ModV (h 23) V) (hW : Wf k V) {N c : Nat} (hc : c < vN V) {a2 : Int32} {cod : Nat → Nat} (hcod : ∀ j, j < vSiz V c → codOK (cod j)) (hk : ∀ j, j < vSiz V c → fX5_knot0 h (nI c) (if a2 = 0 then nI j else nI (vSiz V c) - 1 - nI j) = some (nI (cod j))) : ∀ (m j x fuel : Nat), j + m = vSiz V c → m < fuel → valUp cod j = some x → fX5_told_L19 N h (nI c) a2 fuel (nI (vSiz V c)) (nI x) (nI (10 ^ j)) (nI j) = some (encP (valUp cod (vSiz V c))) := by
  intro m
  have hs := hW.siz hc
  induction m with
  | zero =>
    intro j x fuel hj hf hx
    obtain ⟨fuel, rfl⟩ : ∃ f, fuel = f + 1 := ⟨fuel - 1, by omega⟩
    rw [fX5_told_L19, if_neg (nI_nlt (by omega) (by omega))]
    have : j = vSiz V c := by omega
    subst this
    rw [hx]
    rfl
  | succ m ih =>
    intro j x fuel hj hf hx
    obtain ⟨fuel, rfl⟩ : ∃ f, fuel = f + 1 := ⟨fuel - 1, by omega⟩
    have hlt : j < vSiz V c := by omega
    have hv := codOK_lt (hcod j hlt)
    have hd : nI (cod j) / 10 = nI (cod j / 10) := pk_div (d := 10) (by omega) (by omega) (by omega)
    have hm : nI (cod j) - nI (cod j) / 10 * 10 = nI (cod j % 10) := pk_rem (d := 10) (by omega) (by omega) (by omega)
    have hstep : (nI x + nI (cod j % 10) * nI (10 ^ j)) = nI (x + cod j % 10 * 10 ^ j) := by rw [pk_mul, nI_add]
    have h10 : nI (10 ^ j) * 10 = nI (10 ^ (j + 1)) := by rw [show (10 : Int32) = nI 10 from rfl, pk_mul, Nat.pow_succ]
    rw [fX5_told_L19, if_pos (nI_lt hlt (by omega))]
    unfold fX5_told_J42
    rw [hk j hlt, Option.bind_some]
    unfold fX5_told_J65 fX5_told_J79
    rw [hm, hd, hstep, h10, nI_1, Option.bind_some]
    by_cases hb : badB (cod j) j = true
    · have hn : valUp cod (j + 1) = none := by rw [valUp, hx]; simp [hb]
      rw [valUp_none hn _ hlt]
      simp only [badB, Bool.or_eq_true, Bool.and_eq_true, beq_iff_eq, decide_eq_true_eq] at hb
      rcases hb with ⟨h1, h2⟩ | ⟨h1, h2⟩
      · subst h2
        rw [h1, if_pos (show nI 1 = (1 : Int32) from rfl), if_pos (show nI 0 = (0 : Int32) from rfl)]; rfl
      · rw [if_neg (show ¬ nI (cod j / 10) = (1 : Int32) from ne_lit (b := 1) (by omega) (by omega) (by omega)), if_pos (show (1 : Int32) < nI (cod j / 10) from nI_lt (a := 1) h1 (by omega)), if_pos (show (0 : Int32) < nI j from nI_lt (a := 0) h2 (by omega))]; rfl
    · have hn : valUp cod (j + 1) = some (x + cod j % 10 * 10 ^ j) := by rw [valUp, hx]; simp [hb]
      have hgo := ih (j + 1) _ fuel (by omega) (by omega) hn
      have hb' : ¬ ((cod j / 10 = 1 ∧ j = 0) ∨ (1 < cod j / 10 ∧ 0 < j)) := fun q => hb (by
        simp only [badB, Bool.or_eq_true, Bool.and_eq_true, beq_iff_eq, decide_eq_true_eq]; exact q)
      by_cases h1 : cod j / 10 = 1
      · have hj0 : ¬ j = 0 := fun q => hb' (Or.inl ⟨h1, q⟩)
        rw [h1, if_pos (show nI 1 = (1 : Int32) from rfl), if_neg (show ¬ nI j = (0 : Int32) from ne_lit (b := 0) (by omega) (by omega) hj0), if_neg (show ¬ (1 : Int32) < nI 1 by decide)]
        exact hgo
      · rw [if_neg (show ¬ nI (cod j / 10) = (1 : Int32) from ne_lit (b := 1) (by omega) (by omega) h1)]
        by_cases h2 : 1 < cod j / 10
        · have hj0 : ¬ 0 < j := fun q => hb' (Or.inr ⟨h2, q⟩)
          rw [if_pos (show (1 : Int32) < nI (cod j / 10) from nI_lt (a := 1) h2 (by omega)), if_neg (show ¬ (0 : Int32) < nI j from nlt_lit (a := 0) (by omega) (by omega) hj0)]
          exact hgo
        · rw [if_neg (show ¬ (1 : Int32) < nI (cod j / 10) from nlt_lit (a := 1) (by omega) (by omega) h2)]
          exact hgo
theorem m_value (hV : ModV (h 23) V) (hW : Wf k V) {N c : Nat} (hN : 10 ≤ N) (hc : c < vN V) : fX5_value N h (nI c) = some (encP (vVal V c)) := by
  have hs := hW.siz hc
  unfold fX5_value fX5_told
  rw [r_siz hV hW hc, Option.bind_some]
  have := m_told_L (N := N) hV hW hc (a2 := 0) (cod := vCod V c) (fun j hj => hW.cod hc hj) (fun j hj => by rw [if_pos rfl]; exact m_knot0 hV hW hc hj) (vSiz V c) 0 0 N (by omega) (by omega) rfl
  rw [show fX5_told_L19 N h (nI c) 0 N (nI (vSiz V c)) 0 1 0 = some (encP (valUp (vCod V c) (vSiz V c))) from this]
  rfl
theorem m_other (hV : ModV (h 23) V) (hW : Wf k V) {N c : Nat} (hN : 10 ≤ N) (hc : c < vN V) : fX5_told N h (nI c) 1 = some (encP (vOth V c)) := by
  have hs := hW.siz hc
  unfold fX5_told
  rw [r_siz hV hW hc, Option.bind_some]
  exact m_told_L (N := N) hV hW hc (a2 := 1) (cod := fun j => vCod V c (vSiz V c - 1 - j)) (fun j hj => hW.cod hc (by omega)) (fun j hj => by
    rw [if_neg (by decide)]
    have e1 : nI (vSiz V c) - 1 - nI j = nI (vSiz V c - 1 - j) := by
      rw [show (1 : Int32) = nI 1 from rfl, pk_sub (by omega), pk_sub (by omega)]
    rw [e1]
    exact m_knot0 hV hW hc (by omega)) (vSiz V c) 0 0 N (by omega) (by omega) rfl
end MR
