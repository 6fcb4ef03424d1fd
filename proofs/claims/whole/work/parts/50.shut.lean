/-! closed: the reference's masks -/
section SU
variable {k0 N : Nat} {V : Vw}
theorem m_cl_lay (hW : Wf k0 V) {c : Nat} (hc : c < vN V) {a2 a3 : Int32} : ∀ (m j fuel : Nat) (P : List Nat) (h : Hp), j + m = vSiz V c → m < fuel → ModV (h 23) V → Seg (h 31) 0 P → P.length ≤ j → ∃ h' : Hp, fX5_closed_L35 N (nI c) a2 a3 fuel (nI P.length) (nI j) h = fX5_closed_L92 N (nI c) a2 a3 N (nI (P ++ nzL V c j m).length) 0 (-4) 0 h' ∧ Seg (h' 31) 0 (P ++ nzL V c j m) ∧ (∀ q, q ≠ 31 → h' q = h q) := by
  intro m
  have hs := hW.siz hc
  induction m with
  | zero =>
    intro j fuel P h hj hf hM hP hl
    obtain ⟨fuel, rfl⟩ : ∃ f, fuel = f + 1 := ⟨fuel - 1, by omega⟩
    have e : P ++ nzL V c j 0 = P := List.append_nil P
    refine ⟨h, ?_, by rw [e]; exact hP, fun _ _ => rfl⟩
    rw [fX5_closed_L35, r_siz hM hW hc, Option.bind_some, if_neg (nI_nlt (by omega) (by omega)), e]
  | succ m ih =>
    intro j fuel P h hj hf hM hP hl
    obtain ⟨fuel, rfl⟩ : ∃ f, fuel = f + 1 := ⟨fuel - 1, by omega⟩
    have hlt : j < vSiz V c := by omega
    have hcd := codOK_lt (hW.cod hc hlt)
    rw [fX5_closed_L35, r_siz hM hW hc, Option.bind_some, if_pos (nI_lt hlt (by omega)), m_knot0 hM hW hc hlt, Option.bind_some, nI_1, nz_s]
    by_cases h0 : vCod V c j = 0
    · rw [if_pos (show nI (vCod V c j) = (0 : Int32) by rw [h0]; rfl), if_pos h0]
      exact ih (j + 1) fuel P h (by omega) (by omega) hM hP (by omega)
    · have hcl : (nI P.length).toNatClampNeg = P.length := nI_clamp (by omega)
      have hsn := hP.snoc (x := vCod V c j)
      rw [Nat.zero_add] at hsn
      obtain ⟨h', w1, w2, w3⟩ := ih (j + 1) fuel (P ++ [vCod V c j]) (hset h 31 P.length (nI (vCod V c j))) (by omega) (by omega) (by rw [hset_o (by decide)]; exact hM) (by rw [hset_s]; exact hsn) (by rw [List.length_append, List.length_singleton]; omega)
      rw [List.length_append, List.length_singleton, List.append_assoc, List.singleton_append] at w1
      rw [List.append_assoc, List.singleton_append] at w2
      refine ⟨h', ?_, by rw [if_neg h0]; exact w2, fun q hq => by rw [w3 q hq, hset_o hq]⟩
      rw [if_neg (show ¬ nI (vCod V c j) = (0 : Int32) from ne_lit (b := 0) (by omega) (by omega) h0), Option.bind_some, if_pos (by rw [nI_toInt (by omega)]; omega), hcl, Option.bind_some, nI_1, if_neg h0]
      exact w1
theorem cl_dead {a1 a2 a3 : Int32} {k92 : Int32 → Int32 → Int32 → Int32 → Hp → Option Rs} {u4 u5 u6 u8 u9 u11 : Int32} {M : Nat} {h : Hp} : ∀ fuel, 0 < fuel → fX5_closed_L112 N a1 a2 a3 k92 fuel u4 u5 u6 (nI M) u8 u9 0 u11 h = k92 u4 u5 u6 (nI (M + 1)) h := fun fuel hf => by
  obtain ⟨fuel, rfl⟩ : ∃ f, fuel = f + 1 := ⟨fuel - 1, by omega⟩
  rw [fX5_closed_L112]
  unfold fX5_closed_J219
  rw [if_pos rfl, if_pos rfl, nI_1]
  split <;> rfl
def lowr (u6 : Int32) (x : Nat) : Int32 := if u6 = -4 then nI x else (if nI x < u6 then nI x else u6)
theorem m_cl_M {a1 a3 u5 u6 : Int32} {k92 : Int32 → Int32 → Int32 → Int32 → Hp → Option Rs} {M a : Nat} {zs : List Nat} {h : Hp} (ha : a ≤ 6) (hM : M < 2 ^ 31) (hz : zs.length ≤ 4) (hzb : ∀ z, z ∈ zs → z < 40) (hs : Seg (h 31) 0 zs) (hN : 70000 ≤ N) : ∀ (n p i acc fuel : Nat), p + n = a → n + 1 < fuel → i ≤ zs.length → fX5_closed_L112 N a1 (nI a) a3 k92 fuel (nI zs.length) u5 u6 (nI M) (nI i) (nI acc) 1 (nI p) h = (match evF M n p (zs.drop i) acc with | none => k92 (nI zs.length) u5 u6 (nI (M + 1)) h | some x => k92 (nI zs.length) (u5 + 1) (lowr u6 x) (nI (M + 1)) h) := by
  intro n
  induction n with
  | zero =>
    intro p i acc fuel hp hf hi
    obtain ⟨fuel, rfl⟩ : ∃ f, fuel = f + 1 := ⟨fuel - 1, by omega⟩
    rw [fX5_closed_L112, if_neg (nI_nlt (by omega) (by omega))]
    unfold fX5_closed_J219
    rw [if_neg n10, if_nI (by omega) (by omega), nI_1]
    rcases Nat.lt_or_ge i zs.length with q | q
    · rw [List.drop_eq_getElem_cons q, evF_c, if_neg (by omega)]
    · rw [List.drop_eq_nil_of_le q, evF_n, if_pos (by omega)]
      rfl
  | succ n ih =>
    intro p i acc fuel hp hf hi
    obtain ⟨fuel, rfl⟩ : ∃ f, fuel = f + 1 := ⟨fuel - 1, by omega⟩
    rw [fX5_closed_L112, if_pos (nI_lt (by omega) (by omega)), if_neg n10, x_bit1 hM (by omega)]
    by_cases hb : M.testBit p = true
    · rw [if_pos hb]
      rcases Nat.lt_or_ge i zs.length with q | q
      · have hz1 : h 31 i = nI (zs[i]) := by
          have := seg_get hs q
          rw [Nat.zero_add] at this
          exact this
        have hzi := hzb (zs[i]) (List.getElem_mem q)
        have hdiv : nI (zs[i]) / 10 = nI (zs[i] / 10) := pk_div (d := 10) (by omega) (by omega) (by omega)
        have hrem : (nI (zs[i]) - nI (zs[i]) / 10 * 10 : Int32) = nI (zs[i] % 10) := pk_rem (d := 10) (by omega) (by omega) (by omega)
        have e1 : (if nI (zs[i]) / 10 = 1 then (1 : Int32) else 0) = b2 (sg (zs[i])) := by
          rw [hdiv]
          refine b2_if ?_
          unfold sg
          rw [beq_iff_eq]
          exact nI_eq (b := 1) (by omega) (by omega)
        have e2 : (if (0 : Int32) < nI p then (1 : Int32) else 0) = b2 (decide (0 < p)) := by
          refine b2_if ?_
          rw [decide_eq_true_iff]
          exact nI_ltI (a := 0) (by omega) (by omega)
        have e3 : ∀ x y : Bool, (if b2 x = b2 y then (1 : Int32) else 0) = b2 (decide (x = y)) := by decide
        rw [if_pos (nI_lt q (by omega)), rd_nI (by omega) (by omega), hz1, Option.bind_some, e1]
        unfold fX5_closed_J160 fX5_closed_J170 fX5_closed_J178
        rw [e2, e3, b2_01, rd_nI (by omega) (by omega), hz1, Option.bind_some, m_pow (by omega) (by omega), Option.bind_some, hrem, pk_mul, nI_add, Option.bind_some, nI_1, nI_1, List.drop_eq_getElem_cons q, evF_1c M n p acc _ _ hb]
        by_cases h2 : sg (zs[i]) = decide (0 < p)
        · rw [if_pos (decide_eq_true h2), if_pos h2, decide_eq_true h2, show b2 true = (1 : Int32) from rfl]
          exact ih (p + 1) (i + 1) _ fuel (by omega) (by omega) (by omega)
        · rw [if_neg (by rw [decide_eq_true_iff]; exact h2), if_neg h2, decide_eq_false h2, show b2 false = (0 : Int32) from rfl]
          exact cl_dead fuel (by omega)
      · rw [if_neg (nI_nlt (by omega) (by omega)), List.drop_eq_nil_of_le q, evF_1n M n p acc hb]
        unfold fX5_closed_J178
        rw [if_pos rfl]
        exact cl_dead fuel (by omega)
    · rw [if_neg hb, evF_0 M n p acc _ hb, nI_1]
      exact ih (p + 1) i acc fuel (by omega) (by omega) hi
def okM (a : Nat) (zs : List Nat) (M : Nat) : Bool := (evF M a 0 zs 0).isSome
theorem m_cl_L {a1 a3 : Int32} {a : Nat} {zs : List Nat} {h : Hp} (ha : a ≤ 6) (hz : zs.length ≤ 4) (hzb : ∀ z, z ∈ zs → z < 40) (hs : Seg (h 31) 0 zs) (hN : 70000 ≤ N) : ∀ (m t fuel : Nat) (o : Option Nat), t + m = 2 ^ a → m < fuel → IsMin (fun x => ∃ M, M < t ∧ evF M a 0 zs 0 = some x) o → ∃ o', IsMin (fun x => ∃ M, M < 2 ^ a ∧ evF M a 0 zs 0 = some x) o' ∧ fX5_closed_L92 N a1 (nI a) a3 fuel (nI zs.length) (nI ((List.range t).filter (okM a zs)).length) (encP o) (nI t) h = some (if a3 = 0 then nI ((List.range (2 ^ a)).filter (okM a zs)).length else encP o', h) := by
  intro m
  have h2 : 2 ^ a ≤ 2 ^ 6 := Nat.pow_le_pow_right (by decide) ha
  have hshl : (1 : Int32) <<< (nI a &&& 31) = nI (2 ^ a) := x_shl1 (by omega)
  have hb : ∀ M x, evF M a 0 zs 0 = some x → x < 1000000 := fun M x hx => by
    have h3 := ev_b M a 0 zs 0 x (by decide) hx
    rw [Nat.zero_add] at h3
    have : 10 ^ a ≤ 10 ^ 6 := Nat.pow_le_pow_right (by decide) ha
    omega
  induction m with
  | zero =>
    intro t fuel o ht hf ho
    obtain ⟨fuel, rfl⟩ : ∃ f, fuel = f + 1 := ⟨fuel - 1, by omega⟩
    have e : t = 2 ^ a := by omega
    subst e
    refine ⟨o, ho, ?_⟩
    rw [fX5_closed_L92, hshl, if_neg (nI_nlt (by omega) (by omega))]
    split <;> rfl
  | succ m ih =>
    intro t fuel o ht hf ho
    obtain ⟨fuel, rfl⟩ : ∃ f, fuel = f + 1 := ⟨fuel - 1, by omega⟩
    have hM := m_cl_M (N := N) (a1 := a1) (a3 := a3) (u5 := nI ((List.range t).filter (okM a zs)).length) (u6 := encP o) (k92 := fX5_closed_L92 N a1 (nI a) a3 fuel) (M := t) ha (by omega) hz hzb hs hN a 0 0 0 N (by omega) (by omega) (by omega)
    rw [fX5_closed_L92, hshl, if_pos (nI_lt (by omega) (by omega))]
    refine (show ∃ o', _ ∧ fX5_closed_L112 N a1 (nI a) a3 (fX5_closed_L92 N a1 (nI a) a3 fuel) N (nI zs.length) (nI ((List.range t).filter (okM a zs)).length) (encP o) (nI t) (nI 0) (nI 0) 1 (nI 0) h = _ from ?_)
    rw [hM, List.drop_zero]
    cases hev : evF t a 0 zs 0 with
    | none =>
      have hok : okM a zs t = false := by unfold okM; rw [hev]; rfl
      have e1 : (List.range (t + 1)).filter (okM a zs) = (List.range t).filter (okM a zs) := by
        rw [List.range_succ, List.filter_append, List.filter_cons_of_neg (by rw [hok]; decide), List.filter_nil, List.append_nil]
      have := ih (t + 1) fuel o (by omega) (by omega) (ho.congr (fun x => ⟨fun ⟨M, q1, q2⟩ => ⟨M, by omega, q2⟩, fun ⟨M, q1, q2⟩ => ⟨M, by
        by_cases e : M = t
        · subst e; rw [hev] at q2; cases q2
        · omega, q2⟩⟩))
      rw [e1] at this
      exact this
    | some x =>
      have hok : okM a zs t = true := by unfold okM; rw [hev]; rfl
      have e1 : ((List.range (t + 1)).filter (okM a zs)).length = ((List.range t).filter (okM a zs)).length + 1 := by
        rw [List.range_succ, List.filter_append, List.filter_cons_of_pos hok, List.filter_nil, List.length_append, List.length_singleton]
      have hx := hb t x hev
      have hcm : IsMin (fun y => ∃ M, M < t + 1 ∧ evF M a 0 zs 0 = some y) (cmb o (some x)) := by
        refine (cmb_min ho (show IsMin (fun y => y = x) (some x) from ⟨rfl, fun c hc => by omega⟩)).congr (fun y => ⟨?_, ?_⟩)
        · rintro (⟨M, q1, q2⟩ | q)
          · exact ⟨M, by omega, q2⟩
          · subst q; exact ⟨t, by omega, hev⟩
        · rintro ⟨M, q1, q2⟩
          by_cases e : M = t
          · subst e
            rw [hev] at q2
            injection q2 with q2
            exact Or.inr q2.symm
          · exact Or.inl ⟨M, by omega, q2⟩
      have el : lowr (encP o) x = encP (cmb o (some x)) := by
        unfold lowr
        cases o with
        | none => rw [if_pos (show encP none = -4 from rfl)]; rfl
        | some b =>
          obtain ⟨M, q1, q2⟩ := ho.1
          have hbb := hb M b q2
          rw [show encP (some b) = nI b from rfl, if_neg (encP_ne (by omega))]
          show _ = encP (if x < b then some x else some b)
          by_cases hxb : x < b
          · rw [if_pos (nI_lt hxb (by omega)), if_pos hxb]; rfl
          · rw [if_neg (nlt_lit (by omega) (by omega) hxb), if_neg hxb]; rfl
      have := ih (t + 1) fuel _ (by omega) (by omega) hcm
      rw [e1] at this
      show ∃ o', _ ∧ fX5_closed_L92 N a1 (nI a) a3 fuel (nI zs.length) (nI ((List.range t).filter (okM a zs)).length + 1) (lowr (encP o) x) (nI (t + 1)) h = _
      rw [nI_1, el]
      exact this
end SU
theorem cl_cnt {a : Nat} {zs : List Nat} (ha : a < 7) (h0 : 0 < a) (hz : zs.length ≤ 4) : ((List.range (2 ^ a)).filter (okM a zs)).length = if okZ zs = true then bi (a - 1) (kZ zs) else 0 := by
  have e1 : (List.range (2 ^ a)).filter (okM a zs) = (List.range (2 ^ a)).filter (fun M => vd M a 0 (zs.map sg)) := filter_congrL (fun M _ => ev_vd M a 0 zs 0)
  have e2 : okB (zs.map sg) = okZ zs := by
    cases zs with
    | nil => rfl
    | cons c cs =>
      show (cs.map sg).all id = cs.all sg
      rw [List.all_map]; rfl
  have e3 : ((zs.map sg).filter id).length = kZ zs := by
    unfold kZ
    rw [List.filter_map, List.length_map]
    rfl
  have go : goB a (zs.map sg) = true := by
    have d := fun b0 b1 b2 b3 => cntb_dec a ha h0 b0 b1 b2 b3
    simp only [Bool.and_eq_true] at d
    match zs, hz with
    | [], _ => exact (d true true true true).1.1.1.1
    | [c0], _ => exact (d (sg c0) true true true).1.1.1.2
    | [c0, c1], _ => exact (d (sg c0) (sg c1) true true).1.1.2
    | [c0, c1, c2], _ => exact (d (sg c0) (sg c1) (sg c2) true).1.2
    | [c0, c1, c2, c3], _ => exact (d (sg c0) (sg c1) (sg c2) (sg c3)).2
    | _ :: _ :: _ :: _ :: _ :: _, hz => simp at hz
  unfold goB cntB at go
  rw [beq_iff_eq, e2, e3] at go
  rw [e1, go]
theorem cl_min {a : Nat} {zs : List Nat} (ha : a < 7) (h0 : 0 < a) (hz : zs.length ≤ 4) {o : Option Nat} (ho : IsMin (fun x => ∃ M, M < 2 ^ a ∧ evF M a 0 zs 0 = some x) o) : o = if okZ zs = true ∧ ¬ bi (a - 1) (kZ zs) = 0 then some (accZ zs) else none := by
  obtain ⟨n, rfl⟩ : ∃ n, a = n + 1 := ⟨a - 1, by omega⟩
  rw [Nat.add_sub_cancel]
  have hcnt := cl_cnt ha h0 hz
  rw [Nat.add_sub_cancel] at hcnt
  by_cases hg : okZ zs = true ∧ ¬ bi n (kZ zs) = 0
  · rw [if_pos hg]
    obtain ⟨hok, hbi⟩ := hg
    have hkz : kZ zs ≤ zs.length := List.length_filter_le _ _
    have hkn : kZ zs ≤ n := by
      have := bi_0 n (by omega) (kZ zs) (by omega)
      omega
    have kall : ∀ l : List Nat, l.all sg = true → (l.filter sg).length = l.length := fun l hl => by
      rw [List.filter_eq_self.mpr (fun a ha => List.all_eq_true.mp hl a ha)]
    refine IsMin.uniq ho ⟨?_, fun x ⟨M, q1, q2⟩ => ?_⟩
    · -- the lowest places
      have two : ∀ (k j : Nat), (2 * (2 ^ k - 1)).testBit j = if j < 1 then false else decide (j - 1 < k) := fun k j => by
        have := Nat.testBit_two_pow_mul_add (2 ^ k - 1) (b := 0) (i := 1) (by decide) j
        rw [Nat.pow_one, Nat.add_zero, Nat.zero_testBit, Nat.testBit_two_pow_sub_one] at this
        exact this
      have single : zs.all sg = true → zs.length ≤ n → ∃ M, M < 2 ^ (n + 1) ∧ evF M (n + 1) 0 zs 0 = some (lst 1 zs) := fun hall hln => by
        have hp : 2 ^ zs.length ≤ 2 ^ n := Nat.pow_le_pow_right (by decide) hln
        have hp1 : 0 < 2 ^ zs.length := Nat.pow_pos (by decide)
        refine ⟨2 * (2 ^ zs.length - 1), by rw [Nat.pow_succ]; omega, ?_⟩
        rw [evF_0 _ n 0 0 zs (by rw [two, if_pos (by omega)]; decide), ev_on zs n 1 0 (by omega) hall hln (fun i hi => by rw [two, if_neg (by omega)]; exact decide_eq_true (by omega)) (fun i hi => by rw [two, if_neg (by omega)]; exact decide_eq_false (by omega)), Nat.zero_add]
      cases zs with
      | nil => exact single rfl (by simp)
      | cons c cs =>
        have hall : cs.all sg = true := hok
        rw [accZ_c]
        cases hc : sg c with
        | true =>
          have ha2 : (c :: cs).all sg = true := by rw [List.all_cons, hc, hall]; rfl
          have hk2 : kZ (c :: cs) = (c :: cs).length := kall _ ha2
          rw [if_pos rfl]
          exact single ha2 (by omega)
        | false =>
          have hk2 : kZ (c :: cs) = cs.length := by unfold kZ; rw [List.filter_cons_of_neg (by rw [hc]; decide)]; exact kall _ hall
          have hln : cs.length ≤ n := by omega
          have hp : 2 ^ (cs.length + 1) ≤ 2 ^ (n + 1) := Nat.pow_le_pow_right (by decide) (by omega)
          have hp1 : 0 < 2 ^ (cs.length + 1) := Nat.pow_pos (by decide)
          have tb : ∀ i, (2 ^ (cs.length + 1) - 1).testBit i = decide (i < cs.length + 1) := fun i => Nat.testBit_two_pow_sub_one _ _
          rw [if_neg (by decide)]
          refine ⟨2 ^ (cs.length + 1) - 1, by omega, ?_⟩
          rw [evF_1c _ n 0 0 c cs (by rw [tb]; exact decide_eq_true (by omega)), if_pos (by rw [hc]; decide), ev_on cs n 1 _ (by omega) hall hln (fun i hi => by rw [tb]; exact decide_eq_true (by omega)) (fun i hi => by rw [tb]; exact decide_eq_false (by omega))]
          rw [Nat.pow_zero, Nat.mul_one, Nat.zero_add]
    · by_cases hb : M.testBit 0 = true
      · cases zs with
        | nil => exact Nat.zero_le _
        | cons c cs =>
          rw [evF_1c M n 0 0 c cs hb] at q2
          by_cases hc : sg c = decide (0 < 0)
          · rw [if_pos hc] at q2
            have := ev_ge M n 1 cs _ x q2
            rw [accZ_c, if_neg (by rw [hc]; decide)]
            rw [Nat.pow_zero] at this
            omega
          · rw [if_neg hc] at q2; cases q2
      · rw [evF_0 M n 0 0 zs hb] at q2
        have := ev_ge M n 1 zs 0 x q2
        cases zs with
        | nil => exact Nat.zero_le _
        | cons c cs =>
          rw [accZ_c]
          split
          · omega
          · have h3 : lst 1 cs ≤ lst 2 cs := lst_up cs 1
            have h4 : lst 1 (c :: cs) = c % 10 * 10 ^ 1 + lst 2 cs := rfl
            omega
  · rw [if_neg hg]
    have hz0 : ((List.range (2 ^ (n + 1))).filter (okM (n + 1) zs)).length = 0 := by
      rw [hcnt]
      by_cases q : okZ zs = true
      · rw [if_pos q]
        by_cases q2 : bi n (kZ zs) = 0
        · exact q2
        · exact absurd ⟨q, q2⟩ hg
      · rw [if_neg q]
    refine IsMin.uniq ho (fun x ⟨M, q1, q2⟩ => ?_)
    have hm : M ∈ (List.range (2 ^ (n + 1))).filter (okM (n + 1) zs) := List.mem_filter.mpr ⟨List.mem_range.mpr q1, by unfold okM; rw [q2]; rfl⟩
    have := List.length_pos_of_mem hm
    omega
theorem st_closed (N : Nat) (hN : 70000 ≤ N) : SF_closed N RR := by
  intro k h hk hR a1 a2 a3
  obtain ⟨hT, hD, ⟨V, hW, hC, hM⟩, hU, hK⟩ := id hR
  have hn := hW.n
  unfold fX4_closed fX5_closed
  rcases cord_case hC hM hW a1 with ⟨h1, h2⟩ | ⟨h1, h2, c, hc, rfl⟩
  · exact ⟨-1, h, h, by rw [h1, if_pos rfl]; rfl, by rw [h2, if_pos rfl], RR_mono k h hR⟩
  rw [h1, if_neg n10]
  have t1' : (1 : Int32).toInt = 1 := rfl
  have t6' : (6 : Int32).toInt = 6 := rfl
  have s1' : (1 : Int64).toInt = 1 := rfl
  have s6' : (6 : Int64).toInt = 6 := rfl
  by_cases c1 : a2 < 1
  · refine ⟨-1, h, h, by rw [if_pos c1]; rfl, ?_, RR_mono k h hR⟩
    rw [Int32.lt_iff_toInt_lt, t1'] at c1
    rw [h2, if_neg n10, in_no h (by rw [Int32.toInt_toInt64, s1', s6']; omega), if_pos rfl]
  by_cases c2 : 6 < a2
  · refine ⟨-1, h, h, by rw [if_neg c1, if_pos c2]; rfl, ?_, RR_mono k h hR⟩
    rw [Int32.lt_iff_toInt_lt, t6'] at c2
    rw [h2, if_neg n10, in_no h (by rw [Int32.toInt_toInt64, s1', s6']; omega), if_pos rfl]
  rw [if_neg c1, if_neg c2]
  have hin : ∀ h', fX5_in h' a2.toInt64 1 6 = 1 := fun h' => by
    rw [Int32.lt_iff_toInt_lt, t1'] at c1
    rw [Int32.lt_iff_toInt_lt, t6'] at c2
    exact in_yes h' (by rw [Int32.toInt_toInt64, s1']; omega) (by rw [Int32.toInt_toInt64, s6']; omega)
  obtain ⟨a, ha1, ha6, rfl⟩ : ∃ a, 1 ≤ a ∧ a ≤ 6 ∧ a2 = nI a := by
    rw [Int32.lt_iff_toInt_lt, t1'] at c1
    rw [Int32.lt_iff_toInt_lt, t6'] at c2
    refine ⟨a2.toInt.toNat, by omega, by omega, ?_⟩
    apply Int32.toInt_inj.mp
    rw [nI_toInt (by omega)]
    omega
  rcases two_case2 h a3 with ⟨t1, t2 | ⟨t2, t3⟩⟩ | ⟨t1, t2, t3⟩
  · exact ⟨-1, h, h, by rw [if_pos t2]; rfl, by rw [h2, if_neg n10, hin, if_neg n10, t1, if_pos rfl], RR_mono k h hR⟩
  · exact ⟨-1, h, h, by rw [if_neg t2, if_pos t3]; rfl, by rw [h2, if_neg n10, hin, if_neg n10, t1, if_pos rfl], RR_mono k h hR⟩
  rw [if_neg t2, if_neg t3]
  have hs := hW.siz hc
  have ex : (nI a - 1 : Int32) = nI (a - 1) := by rw [show (1 : Int32) = nI 1 from rfl, pk_sub (by omega)]
  have hB := q_cl_B (N := N) hC hW hN hc (x := a - 1) (by omega) (nI a) a3 ex (vSiz V c) 0 N (by omega) (by omega)
  obtain ⟨zs, hzs⟩ : ∃ zs, zs = nzL V c 0 (vSiz V c) := ⟨_, rfl⟩
  rw [← hzs] at hB
  have hzl : zs.length ≤ 4 := by rw [hzs]; exact Nat.le_trans (nz_len V c 0 _) hs
  have hzb : ∀ z, z ∈ zs → z < 40 := fun z hz => by
    rw [hzs] at hz
    unfold nzL at hz
    obtain ⟨j, hj, e⟩ := List.mem_map.mp (List.mem_filter.mp hz).1
    rw [List.mem_range'_1] at hj
    have := codOK_lt (hW.cod hc (j := j) (by omega))
    omega
  obtain ⟨h', w1, w2, w3⟩ := m_cl_lay (N := N) hW hc (a2 := nI a) (a3 := a3) (vSiz V c) 0 N [] h (by omega) (by omega) hM (fun i x hx => by cases hx) (Nat.le_refl _)
  rw [List.nil_append, ← hzs] at w1 w2
  obtain ⟨o, o1, o2⟩ := m_cl_L (N := N) (a1 := nI c) (a3 := a3) ha6 hzl hzb w2 hN (2 ^ a) 0 N none (by omega) (by have : 2 ^ a ≤ 2 ^ 6 := Nat.pow_le_pow_right (by decide) ha6; omega) (fun x ⟨M, q1, q2⟩ => by omega)
  have hcn := cl_cnt (a := a) (by omega) (by omega) hzl
  have hmn := cl_min (a := a) (by omega) (by omega) hzl o1
  have hRc : Rc a3 (a - 1) (okZ zs) (accZ zs) (kZ zs) = if a3 = 0 then nI ((List.range (2 ^ a)).filter (okM a zs)).length else encP o := by
    rw [hcn, hmn]
    unfold Rc
    by_cases hok : okZ zs = true
    · rw [if_pos hok, if_pos hok]
      by_cases h3 : a3 = 0
      · rw [if_pos h3, if_pos h3]
      · rw [if_neg h3, if_neg h3]
        by_cases h4 : bi (a - 1) (kZ zs) = 0
        · rw [if_pos h4, if_neg (fun q => q.2 h4)]; rfl
        · rw [if_neg h4, if_pos ⟨hok, h4⟩]; rfl
    · have hno : ¬ (okZ zs = true ∧ ¬ bi (a - 1) (kZ zs) = 0) := fun q => hok q.1
      rw [if_neg hok, if_neg hok, if_neg hno]
      rfl
  refine ⟨Rc a3 (a - 1) (okZ zs) (accZ zs) (kZ zs), h, h', ?_, ?_, ?_⟩
  · rw [show fX4_closed_L45 N h (nI c) (nI a) a3 N 0 0 1 0 = _ from hB]
    rfl
  · rw [h2, if_neg n10, hin, if_neg n10, t1, if_neg n10]
    refine (show fX5_closed_L35 N (nI c) (nI a) a3 N 0 0 h = _ from w1).trans ?_
    refine (show fX5_closed_L92 N (nI c) (nI a) a3 N (nI zs.length) 0 (-4) 0 h' = _ from o2).trans ?_
    rw [hRc]
  · have fr := w3
    exact RR_mono k h' (RR_frame hR (TX_frame hT (fr 0 (by decide)) (fr 1 (by decide)) (fr 26 (by decide)) (by rw [fr 22 (by decide)])) (DY_frame hD (by rw [fr 8 (by decide)]) (by rw [fr 10 (by decide)]) (by rw [fr 12 (by decide)]) (by rw [fr 12 (by decide)])) (fr 7 (by decide)) (by rw [fr 8 (by decide)]) (fr 9 (by decide)) (by rw [fr 10 (by decide)]) (fr 11 (by decide)) (fr 23 (by decide)) (fr 24 (by decide)) (fr 25 (by decide)) (by rw [fr 22 (by decide)]) (by rw [fr 22 (by decide)]))
