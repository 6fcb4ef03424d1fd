/-! the plain pendants of a group, in their order -/
def LG (V : Vw) (g : Nat) : List Nat := (vL V).filter (inG V g)
theorem L_mem {k : Nat} {V : Vw} (hW : Wf k V) {c : Nat} : c ∈ vL V ↔ c < vN V ∧ isPl V c = true := by
  rw [hW.2.2.2.1 c]
  unfold isPl
  cases vPar V c <;> cases vTop V c <;> simp
theorem LG_mem {k : Nat} {V : Vw} (hW : Wf k V) {g c : Nat} : c ∈ LG V g ↔ c < vN V ∧ inG V g c = true := by
  unfold LG
  rw [List.mem_filter, L_mem hW]
  constructor
  · exact fun q => ⟨q.1.1, q.2⟩
  · intro q
    refine ⟨⟨q.1, ?_⟩, q.2⟩
    have := q.2
    unfold inG at this
    rw [Bool.and_eq_true] at this
    exact this.1
theorem LG_sorted {k : Nat} {V : Vw} (hW : Wf k V) (g : Nat) : (LG V g).Pairwise (fun a b => vRk V a < vRk V b) := hW.2.2.1.filter _
theorem LG_perm {k : Nat} {V : Vw} (hW : Wf k V) (g : Nat) : ((List.range (vN V)).filter (inG V g)).Perm (LG V g) := by
  unfold LG
  rw [List.perm_ext_iff_of_nodup (List.nodup_range.filter _) ((L_nodup hW).filter _)]
  intro c
  rw [List.mem_filter, List.mem_range]
  exact (LG_mem (V := V) hW).symm
/-- how many of the group come before -/
def ixG (V : Vw) (g c : Nat) : Nat := ((LG V g).filter (fun d => decide (vRk V d < vRk V c))).length
theorem ix_sorted (f : Nat → Nat) : ∀ (l : List Nat), l.Pairwise (fun a b => f a < f b) → ∀ (i c : Nat), l[i]? = some c → (l.filter (fun d => decide (f d < f c))).length = i
  | [], _, i, c, h => by simp at h
  | a :: l, hp, i, c, h => by
    rw [List.pairwise_cons] at hp
    cases i with
    | zero =>
      rw [List.getElem?_cons_zero] at h
      injection h with h
      subst h
      rw [List.filter_cons_of_neg (p := fun d => decide (f d < f a)) (a := a) (by simp)]
      rw [List.filter_eq_nil_iff.mpr (fun d hd => by have := hp.1 d hd; simp; omega)]
      rfl
    | succ i =>
      rw [List.getElem?_cons_succ] at h
      have hm := List.mem_of_getElem? h
      rw [List.filter_cons_of_pos (p := fun d => decide (f d < f c)) (a := a) (by have := hp.1 c hm; simp; omega), List.length_cons, ix_sorted f l hp.2 i c h]
theorem ixG_get {k : Nat} {V : Vw} (hW : Wf k V) {g i c : Nat} (h : (LG V g)[i]? = some c) : ixG V g c = i := ix_sorted (vRk V) _ (LG_sorted hW g) i c h
theorem ixG_ex {k : Nat} {V : Vw} (hW : Wf k V) {g c : Nat} (hc : c < vN V) (hg : inG V g c = true) : (LG V g)[ixG V g c]? = some c := by
  obtain ⟨i, hi, e⟩ := List.mem_iff_getElem.mp ((LG_mem hW).mpr ⟨hc, hg⟩)
  have h1 : (LG V g)[i]? = some c := by rw [List.getElem?_eq_getElem hi, e]
  rw [ixG_get hW h1]
  exact h1
theorem ixG_range {k : Nat} {V : Vw} (hW : Wf k V) (g c : Nat) : ((List.range (vN V)).filter (fun d => inG V g d && decide (vRk V d < vRk V c))).length = ixG V g c := by
  rw [show (fun d => inG V g d && decide (vRk V d < vRk V c)) = (fun d => decide (vRk V d < vRk V c) && inG V g d) from funext fun d => Bool.and_comm _ _, ← List.filter_filter]
  exact ((LG_perm hW g).filter _).length_eq
section PE
variable {h : Hp} {r k N : Nat} {V : Vw}
theorem vL_at (hV : RowV (h r) V) (hW : Wf k V) {j : Nat} (hj : j < (vL V).length) : atF h r 179 (96 + nI j) = nI ((vL V).getD j 0) ∧ (vL V).getD j 0 < vN V ∧ isPl V ((vL V).getD j 0) = true ∧ (vL V).drop j = (vL V).getD j 0 :: (vL V).drop (j + 1) := by
  have hl := L_len hW
  have hg : (vL V).getD j 0 = (vL V)[j] := by rw [List.getD_eq_getElem?_getD, List.getElem?_eq_getElem hj]; rfl
  have hm : (vL V).getD j 0 ∈ vL V := by rw [hg]; exact List.getElem_mem hj
  have hm2 := (L_mem hW).mp hm
  refine ⟨?_, hm2.1, hm2.2, ?_⟩
  · rw [show (96 : Int32) = nI 96 from rfl, nI_add, at_nI (by omega) (by omega), hV.2.2.2.1 j hj]
  · rw [hg]
    exact List.drop_eq_getElem_cons hj
theorem vL_many (hV : RowV (h r) V) : atF h r 179 178 = nI (vL V).length := by
  rw [show (178 : Int32) = nI 178 from rfl, at_nI (by omega) (by omega), hV.2.2.1]
theorem inG_pl {g c : Nat} (hg : g < 5) (hp : isPl V c = true) : inG V g c = true ↔ vGrp V c = g := by
  unfold inG
  rw [hp]
  have : ¬ g = 5 := by omega
  simp [this]
theorem grp_lt (hW : Wf k V) {c : Nat} (hc : c < vN V) : vGrp V c < 5 := by
  have := (hW.c hc).2.2.2.2.2.2.1
  have := hW.1.2
  omega
theorem q_pend_L (hV : RowV (h r) V) (hW : Wf k V) {g : Nat} (hg : g < 5) : ∀ (m j acc fuel : Nat), j + m = (vL V).length → m < fuel → fX0_pendantsIn_L4 N h r (nI g) fuel (nI acc) (nI j) = some (nI (acc + (((vL V).drop j).filter (inG V g)).length)) := by
  intro m
  have hl := L_len hW
  induction m with
  | zero =>
    intro j acc fuel hj hf
    obtain ⟨fuel, rfl⟩ : ∃ f, fuel = f + 1 := ⟨fuel - 1, by omega⟩
    rw [fX0_pendantsIn_L4, vL_many hV, if_neg (nI_nlt (by omega) (by omega)), List.drop_eq_nil_of_le (by omega)]
    rfl
  | succ m ih =>
    intro j acc fuel hj hf
    obtain ⟨fuel, rfl⟩ : ∃ f, fuel = f + 1 := ⟨fuel - 1, by omega⟩
    have hlt : j < (vL V).length := by omega
    obtain ⟨e1, e2, e3, e4⟩ := vL_at hV hW hlt
    have hgl := grp_lt hW e2
    rw [fX0_pendantsIn_L4, vL_many hV, if_pos (nI_lt hlt (by omega)), e1, q_group hV hW e2, nI_1 j, e4, if_nI (by omega) (by omega)]
    by_cases hb : vGrp V ((vL V).getD j 0) = g
    · rw [if_pos hb, nI_1, ih (j + 1) (acc + 1) fuel (by omega) (by omega), List.filter_cons_of_pos (p := inG V g) ((inG_pl hg e3).mpr hb), List.length_cons]
      congr 2; omega
    · rw [if_neg hb, add0, ih (j + 1) acc fuel (by omega) (by omega), List.filter_cons_of_neg (p := inG V g) (fun q => hb ((inG_pl hg e3).mp q))]
theorem q_pend (hV : RowV (h r) V) (hW : Wf k V) (hN : 20 ≤ N) {g : Nat} (hg : g < 5) : fX0_pendantsIn N h r (nI g) = some (nI (LG V g).length) := by
  have hl := L_len hW
  have := q_pend_L (N := N) hV hW hg (vL V).length 0 0 N (by omega) (by omega)
  rw [Nat.zero_add] at this
  exact this
theorem m_many_L (hV : ModV (h 23) V) (hW : Wf k V) {g : Nat} (hg : g < 2 ^ 31) : ∀ (m j acc fuel : Nat), j + m = vN V → m < fuel → fX5_manyOf_L4 N h (nI g) fuel (nI acc) (nI j) = some (nI (acc + ((List.range' j m).filter (inG V g)).length)) := by
  intro m
  have hn := hW.n
  induction m with
  | zero =>
    intro j acc fuel hj hf
    obtain ⟨fuel, rfl⟩ : ∃ f, fuel = f + 1 := ⟨fuel - 1, by omega⟩
    rw [fX5_manyOf_L4, hV.1, if_neg (nI_nlt (by omega) (by omega))]
    rfl
  | succ m ih =>
    intro j acc fuel hj hf
    obtain ⟨fuel, rfl⟩ : ∃ f, fuel = f + 1 := ⟨fuel - 1, by omega⟩
    have hlt : j < vN V := by omega
    rw [fX5_manyOf_L4, hV.1, if_pos (nI_lt hlt (by omega)), m_isOf hV hW hlt hg, Option.bind_some, nI_1 j, List.range'_succ]
    by_cases hb : inG V g j = true
    · rw [hb, show b2 true = (1 : Int32) from rfl, if_neg n10, nI_1, ih (j + 1) (acc + 1) fuel (by omega) (by omega), List.filter_cons_of_pos (p := inG V g) (a := j) hb, List.length_cons]
      congr 2; omega
    · have hb' : inG V g j = false := by simpa using hb
      rw [hb', show b2 false = (0 : Int32) from rfl, if_pos rfl, add0, ih (j + 1) acc fuel (by omega) (by omega), List.filter_cons_of_neg (p := inG V g) (a := j) hb]
theorem m_many (hV : ModV (h 23) V) (hW : Wf k V) (hN : 20 ≤ N) {g : Nat} (hg : g < 2 ^ 31) : fX5_manyOf N h (nI g) = some (nI (LG V g).length) := by
  have hn := hW.n
  have := m_many_L (N := N) hV hW hg (vN V) 0 0 N (by omega) (by omega)
  rw [Nat.zero_add, ← List.range_eq_range', (LG_perm hW g).length_eq] at this
  exact this
theorem q_pat_L (hV : RowV (h r) V) (hW : Wf k V) {g i : Nat} (hg : g < 5) (hi : i < 2 ^ 31) : ∀ (m j acc fuel : Nat), j + m = (vL V).length → m < fuel → acc ≤ j → acc ≤ i → fX0_pendantAt_L5 N h r (nI g) (nI i) fuel (nI acc) (nI j) = some (encP ((((vL V).drop j).filter (inG V g))[i - acc]?)) := by
  intro m
  have hl := L_len hW
  induction m with
  | zero =>
    intro j acc fuel hj hf ha hai
    obtain ⟨fuel, rfl⟩ : ∃ f, fuel = f + 1 := ⟨fuel - 1, by omega⟩
    rw [fX0_pendantAt_L5, vL_many hV, if_neg (nI_nlt (by omega) (by omega)), List.drop_eq_nil_of_le (by omega)]
    rfl
  | succ m ih =>
    intro j acc fuel hj hf ha hai
    obtain ⟨fuel, rfl⟩ : ∃ f, fuel = f + 1 := ⟨fuel - 1, by omega⟩
    have hlt : j < (vL V).length := by omega
    obtain ⟨e1, e2, e3, e4⟩ := vL_at hV hW hlt
    have hgl := grp_lt hW e2
    rw [fX0_pendantAt_L5, vL_many hV, if_pos (nI_lt hlt (by omega)), e1, q_group hV hW e2, nI_1 j, nI_1 acc, e4, if_nI (by omega) (by omega), if_nI (by omega) (by omega)]
    by_cases hb : vGrp V ((vL V).getD j 0) = g
    · rw [if_pos hb, List.filter_cons_of_pos (p := inG V g) ((inG_pl hg e3).mpr hb)]
      by_cases h2 : acc = i
      · subst h2
        rw [if_pos rfl, Nat.sub_self, List.getElem?_cons_zero]; rfl
      · rw [if_neg h2, ih (j + 1) (acc + 1) fuel (by omega) (by omega) (by omega) (by omega), show i - acc = (i - (acc + 1)) + 1 by omega, List.getElem?_cons_succ]
    · rw [if_neg hb, ih (j + 1) acc fuel (by omega) (by omega) (by omega) hai, List.filter_cons_of_neg (p := inG V g) (fun q => hb ((inG_pl hg e3).mp q))]
theorem q_pat (hV : RowV (h r) V) (hW : Wf k V) (hN : 20 ≤ N) {g i : Nat} (hg : g < 5) (hi : i < 2 ^ 31) : fX0_pendantAt N h r (nI g) (nI i) = some (encP ((LG V g)[i]?)) := by
  have hl := L_len hW
  exact q_pat_L (N := N) hV hW hg hi (vL V).length 0 0 N (by omega) (by omega) (by omega) (by omega)
theorem rk_b (hk : k < 64) (hW : Wf k V) {c : Nat} (hc : c < vN V) : vRk V c < 80 := by
  have := (hW.c hc).2.2.2.2.2.2.2
  omega
theorem m_pat_J (hk : k < 64) (hV : ModV (h 23) V) (hW : Wf k V) {g i c : Nat} (hg : g < 2 ^ 31) (hi : i < 2 ^ 31) (hc : c < vN V) (k2 : Int32 → Option Int32) : ∀ (m j acc fuel : Nat), j + m = vN V → m < fuel → acc ≤ j → fX5_pendantAt_L27 N h (nI g) (nI i) k2 fuel (nI c) (nI acc) (nI j) = if acc + ((List.range' j m).filter (fun d => inG V g d && decide (vRk V d < vRk V c))).length = i then some (nI c) else k2 (nI (c + 1)) := by
  intro m
  have hn := hW.n
  induction m with
  | zero =>
    intro j acc fuel hj hf ha
    obtain ⟨fuel, rfl⟩ : ∃ f, fuel = f + 1 := ⟨fuel - 1, by omega⟩
    rw [fX5_pendantAt_L27, hV.1, if_neg (nI_nlt (by omega) (by omega)), nI_1, if_nI (by omega) (by omega)]
    rfl
  | succ m ih =>
    intro j acc fuel hj hf ha
    obtain ⟨fuel, rfl⟩ : ∃ f, fuel = f + 1 := ⟨fuel - 1, by omega⟩
    have hlt : j < vN V := by omega
    rw [fX5_pendantAt_L27, hV.1, if_pos (nI_lt hlt (by omega)), m_isOf hV hW hlt hg, Option.bind_some, r_rk hV hW hlt, r_rk hV hW hc, Option.bind_some, Option.bind_some, nI_1 j, List.range'_succ]
    by_cases hb : inG V g j = true
    · rw [hb, show b2 true = (1 : Int32) from rfl, if_neg n10]
      by_cases h2 : vRk V j < vRk V c
      · rw [if_pos (nI_lt h2 (by have := rk_b hk hW hc; omega)), nI_1, ih (j + 1) (acc + 1) fuel (by omega) (by omega) (by omega), List.filter_cons_of_pos (p := fun d => inG V g d && decide (vRk V d < vRk V c)) (a := j) (by simp [hb, h2]), List.length_cons]
        rw [show acc + 1 + (List.filter (fun d => inG V g d && decide (vRk V d < vRk V c)) (List.range' (j + 1) m)).length = acc + ((List.filter (fun d => inG V g d && decide (vRk V d < vRk V c)) (List.range' (j + 1) m)).length + 1) by omega]
      · rw [if_neg (nlt_lit (by have := rk_b hk hW hlt; omega) (by have := rk_b hk hW hc; omega) h2), add0, ih (j + 1) acc fuel (by omega) (by omega) (by omega), List.filter_cons_of_neg (p := fun d => inG V g d && decide (vRk V d < vRk V c)) (a := j) (by simp [h2])]
    · have hb' : inG V g j = false := by simpa using hb
      rw [hb', show b2 false = (0 : Int32) from rfl, if_pos rfl, add0, ih (j + 1) acc fuel (by omega) (by omega) (by omega), List.filter_cons_of_neg (p := fun d => inG V g d && decide (vRk V d < vRk V c)) (a := j) (by simp [hb'])]
theorem m_pat_L (hk : k < 64) (hV : ModV (h 23) V) (hW : Wf k V) (hN : 20 ≤ N) {g i : Nat} (hg : g < 2 ^ 31) (hi : i < 2 ^ 31) : ∀ (m j fuel : Nat), j + m = vN V → m < fuel → (∀ c, c < j → inG V g c = true → ¬ ixG V g c = i) → fX5_pendantAt_L2 N h (nI g) (nI i) fuel (nI j) = some (encP ((LG V g)[i]?)) := by
  intro m
  have hn := hW.n
  induction m with
  | zero =>
    intro j fuel hj hf hno
    obtain ⟨fuel, rfl⟩ : ∃ f, fuel = f + 1 := ⟨fuel - 1, by omega⟩
    rw [fX5_pendantAt_L2, hV.1, if_neg (nI_nlt (by omega) (by omega))]
    cases hq : (LG V g)[i]? with
    | none => rfl
    | some c =>
      have h1 := (LG_mem hW).mp (List.mem_of_getElem? hq)
      exact absurd (ixG_get hW hq) (hno c (by omega) h1.2)
  | succ m ih =>
    intro j fuel hj hf hno
    obtain ⟨fuel, rfl⟩ : ∃ f, fuel = f + 1 := ⟨fuel - 1, by omega⟩
    have hlt : j < vN V := by omega
    have nxt : (inG V g j = true → ¬ ixG V g j = i) → fX5_pendantAt_L2 N h (nI g) (nI i) fuel (nI (j + 1)) = some (encP ((LG V g)[i]?)) := fun hb => ih (j + 1) fuel (by omega) (by omega) (fun c hc => by
      rcases Nat.lt_or_ge c j with q | q
      · exact hno c q
      · have : c = j := by omega
        subst this; exact hb)
    rw [fX5_pendantAt_L2, hV.1, if_pos (nI_lt hlt (by omega)), m_isOf hV hW hlt hg, Option.bind_some, nI_1 j]
    by_cases hb : inG V g j = true
    · have hJ := m_pat_J (N := N) hk hV hW hg hi hlt (fX5_pendantAt_L2 N h (nI g) (nI i) fuel) (vN V) 0 0 N (by omega) (by omega) (by omega)
      rw [Nat.zero_add, ← List.range_eq_range', ixG_range hW] at hJ
      rw [hb, show b2 true = (1 : Int32) from rfl, if_neg n10, show fX5_pendantAt_L27 N h (nI g) (nI i) (fX5_pendantAt_L2 N h (nI g) (nI i) fuel) N (nI j) 0 0 = _ from hJ]
      by_cases h2 : ixG V g j = i
      · rw [if_pos h2, ← h2, ixG_ex hW hlt hb]; rfl
      · rw [if_neg h2]; exact nxt (fun _ => h2)
    · have hb' : inG V g j = false := by simpa using hb
      rw [hb', show b2 false = (0 : Int32) from rfl, if_pos rfl]
      exact nxt (fun q => absurd q hb)
theorem m_pat (hk : k < 64) (hV : ModV (h 23) V) (hW : Wf k V) (hN : 20 ≤ N) {g i : Nat} (hg : g < 2 ^ 31) (hi : i < 2 ^ 31) : fX5_pendantAt N h (nI g) (nI i) = some (encP ((LG V g)[i]?)) := by
  have hn := hW.n
  exact m_pat_L hk hV hW hN hg hi (vN V) 0 N (by omega) (by omega) (fun c hc => by omega)
end PE
theorem nneg {x : Int32} (hx : ¬ x < 0) : ∃ i, i < 2 ^ 31 ∧ x = nI i := by
  rw [Int32.lt_iff_toInt_lt, show (0 : Int32).toInt = 0 from rfl] at hx
  have h2 := Int32.toInt_lt x
  refine ⟨x.toInt.toNat, by omega, ?_⟩
  apply Int32.toInt_inj.mp
  rw [nI_toInt (by omega)]
  omega
theorem st_pendant (N : Nat) (hN : 70000 ≤ N) : SF_pendant N RR := by
  intro k h hk hR a1 a2
  obtain ⟨V, hW, hC, hM⟩ := hR.2.2.1
  have key : ∃ v, fX4_pendant N h a1 a2 = some v ∧ fX5_pendant N h a1 a2 = some v := by
    unfold fX4_pendant fX5_pendant
    rcases grp_case hC hM hW a1 with ⟨h1, h2⟩ | ⟨h1, h2, g, hg, rfl⟩
    · exact ⟨-1, by rw [h1, if_pos rfl], by rw [h2, if_pos rfl]⟩
    · have hg5 : g < 5 := by have := hW.1.2; omega
      rw [h1, h2, if_neg n10, if_neg n10]
      by_cases h3 : a2 < 0
      · exact ⟨-1, by rw [if_pos h3], by rw [if_pos h3]⟩
      · obtain ⟨i, hi, rfl⟩ := nneg h3
        exact ⟨_, by rw [if_neg h3, q_pat hC hW (by omega) hg5 hi]; rfl, by rw [if_neg h3, m_pat hk hM hW (by omega) (by omega) hi]; rfl⟩
  obtain ⟨v, e4, e5⟩ := key
  exact ⟨v, h, h, by rw [e4]; rfl, by rw [e5]; rfl, RR_mono k h hR⟩
theorem st_group (N : Nat) (hN : 70000 ≤ N) : SF_group N RR := by
  intro k h hk hR a1 a2
  obtain ⟨V, hW, hC, hM⟩ := hR.2.2.1
  have key : ∃ v, fX4_group N h a1 a2 = some v ∧ fX5_group N h a1 a2 = some v := by
    unfold fX4_group fX5_group
    rcases grp_case hC hM hW a1 with ⟨h1, h2⟩ | ⟨h1, h2, g, hg, rfl⟩
    · exact ⟨-1, by rw [h1, if_pos rfl], by rw [h2, if_pos rfl]⟩
    · have hg5 : g < 5 := by have := hW.1.2; omega
      have hN2 : 20 ≤ N := by omega
      rw [h1, h2, if_neg n10, if_neg n10]
      by_cases c0 : a2 = 0
      · rw [if_pos c0, if_pos c0]; exact ⟨_, by rw [q_pend hC hW hN2 hg5]; rfl, by rw [m_many hM hW hN2 (by omega)]; rfl⟩
      rw [if_neg c0, if_neg c0]
      by_cases c1 : a2 = 1
      · rw [if_pos c1, if_pos c1]; exact ⟨_, by rw [q_topOf hC hW hN2 (by omega)]; rfl, by rw [m_topOf hM hW hN2 (by omega)]; rfl⟩
      rw [if_neg c1, if_neg c1]
      by_cases c2 : a2 = 2
      · rw [if_pos c2, if_pos c2]; exact ⟨_, by rw [q_sum hC hW hN2 hg5]; rfl, by rw [m_sum hM hW hN2 (by omega)]; rfl⟩
      rw [if_neg c2, if_neg c2]
      by_cases c3 : a2 = 3
      · rw [if_pos c3, if_pos c3, q_can hC hW hN2 hg5, m_wrongBy hM hW hN2 (by omega), Option.bind_some, Option.bind_some]
        cases hc : cmpS V g with
        | none => exact ⟨0, rfl, rfl⟩
        | some q =>
          obtain ⟨y, w⟩ := q
          rw [show (if (some (y, w)).isSome = true then (1 : Int32) else 0) = 1 from rfl, if_neg n10, q_excess hC hW hN2 hg5 hc, Option.bind_some]
          by_cases h0 : nI y - nI w = 0
          · refine ⟨1, by rw [if_pos h0], ?_⟩
            show (if nI y - nI w + 100000 = 100000 then _ else _) = _
            rw [h0, if_pos (by decide)]
          · refine ⟨0, by rw [if_neg h0], ?_⟩
            show (if nI y - nI w + 100000 = 100000 then _ else _) = _
            rw [if_neg (fun q => h0 (by
              have e : nI y - nI w = (nI y - nI w + 100000) - 100000 := by simp
              rw [e, q]; rfl))]
      rw [if_neg c3, if_neg c3]
      exact ⟨_, rfl, rfl⟩
  obtain ⟨v, e4, e5⟩ := key
  exact ⟨v, h, h, by rw [e4]; rfl, by rw [e5]; rfl, RR_mono k h hR⟩
