/-! share: the members, and all sets of cords tried -/
section MB
variable (mem : Nat → Bool) (n : Nat)
def cvL : List Nat := (List.range n).filter mem
def cvF (i : Nat) : Nat := (cvL mem n).getD i 0
theorem cv_len : (cvL mem n).length = idx mem n := rfl
theorem cv_at {i : Nat} (hi : i < idx mem n) : cvF mem n i < n ∧ mem (cvF mem n i) = true := by
  have hl : i < (cvL mem n).length := hi
  have hm : cvF mem n i ∈ cvL mem n := by
    unfold cvF
    rw [List.getD_eq_getElem?_getD, List.getElem?_eq_getElem hl]
    exact List.getElem_mem _
  unfold cvL at hm
  rw [List.mem_filter, List.mem_range] at hm
  exact hm
theorem cv_lt {i j : Nat} (hij : i < j) (hj : j < idx mem n) : cvF mem n i < cvF mem n j := by
  have hl : j < (cvL mem n).length := hj
  have hp : (cvL mem n).Pairwise (· < ·) := List.pairwise_lt_range.filter _
  unfold cvF
  rw [List.getD_eq_getElem?_getD, List.getD_eq_getElem?_getD, List.getElem?_eq_getElem (by omega), List.getElem?_eq_getElem hl]
  exact List.pairwise_iff_getElem.mp hp i j (by omega) hl hij
theorem cv_idx {b : Nat} (hb : b < n) (hm : mem b = true) : cvF mem n (idx mem b) = b := by
  obtain ⟨k, hk⟩ : ∃ k, n = b + (k + 1) := ⟨n - b - 1, by omega⟩
  have e : cvL mem n = (List.range b).filter mem ++ b :: ((List.range k).map (fun i => b + (i + 1))).filter mem := by
    unfold cvL
    rw [hk, List.range_add, List.filter_append, List.range_succ_eq_map, List.map_cons, Nat.add_zero, List.filter_cons_of_pos (p := mem) (a := b) hm, List.map_map]
    rfl
  unfold cvF
  rw [e, List.getD_eq_getElem?_getD, show idx mem b = ((List.range b).filter mem).length from rfl, List.getElem?_append_right (Nat.le_refl _), Nat.sub_self]
  rfl
theorem asN_pw (s : Nat) : asN mem s n = sI (pw (cvF mem n)) s (idx mem n) := by
  have key : ∀ k, k ≤ n → asN mem s k = sI (pw (cvF mem n)) s (idx mem k) := by
    intro k
    induction k with
    | zero => intro _; rfl
    | succ k ih =>
      intro hk
      rw [asN, ih (by omega), idx_s]
      by_cases hm : mem k = true
      · rw [if_pos hm, hm, Bool.true_and, sI]
        show _ = _ + (if s.testBit (idx mem k) = true then 2 ^ cvF mem n (idx mem k) else 0)
        rw [cv_idx mem n (by omega) hm]
      · have hm' : mem k = false := by simpa using hm
        rw [if_neg hm, hm']
        rfl
  exact key n (Nat.le_refl _)
theorem tv_as {val v : Nat → Nat} (hv : ∀ b, b < n → mem b = true → v (idx mem b) = val b) : sI val (uN mem n) n = tv v (idx mem n) := by
  have key : ∀ k, k ≤ n → sI val (uN mem n) k = tv v (idx mem k) := by
    intro k
    induction k with
    | zero => intro _; rfl
    | succ k ih =>
      intro hk
      rw [sI, ih (by omega), idx_s, uN_bit, decide_eq_true (show k < n by omega), Bool.true_and]
      by_cases hm : mem k = true
      · rw [if_pos hm, if_pos hm, tv, hv k (by omega) hm]
      · rw [if_neg hm, if_neg hm, Nat.add_zero, Nat.add_zero]
  exact key n (Nat.le_refl _)
end MB
theorem subm_le {M U : Nat} (h : subm M U) : M ≤ U := by
  have : M &&& U = M := by
    apply Nat.eq_of_testBit_eq
    intro b
    rw [Nat.testBit_and]
    cases hM : M.testBit b with
    | false => rfl
    | true => rw [h b hM]; rfl
  rw [← this]
  exact Nat.and_le_right
theorem add_one {h : Hp} {k : Nat} {cv v : Nat → Nat} (hk : k < 16) (hM : Mb h k cv v) : ∃ h' : Hp, fX2_add h (nI (cv k)) (nI (v k)) = some (0, h') ∧ Mb h' (k + 1) cv v ∧ (∀ i, i ≠ 5 → h' 12 i = h 12 i) ∧ (∀ q, q ≠ 12 → q ≠ 13 → q ≠ 14 → h' q = h q) := by
  obtain ⟨h5, hc⟩ := hM
  refine ⟨hset (hset (hset h 13 k (nI (cv k))) 14 k (nI (v k))) 12 5 (nI (k + 1)), ?_, ⟨by rw [hset_s, pk_us], fun i hi => ?_⟩, fun i hi => by rw [hset_s, pk_un hi, hset_o (by decide), hset_o (by decide)], fun q q1 q2 q3 => by rw [hset_o q1, hset_o q3, hset_o q2]⟩
  · unfold fX2_add
    rw [h5, put_nI (by omega) (by omega), Option.bind_some, hset_o (by decide), h5, put_nI (by omega) (by omega), Option.bind_some, hset_o (by decide), hset_o (by decide), h5, nI_1, Option.bind_some]
  · rw [hset_o (p := 13) (by decide), hset_o (p := 13) (by decide), hset_s, hset_o (p := 14) (by decide), hset_s, hset_o (p := 14) (by decide)]
    by_cases e : i = k
    · subst e; rw [pk_us, pk_us]; exact ⟨rfl, rfl⟩
    · rw [pk_un e, pk_un e]; exact hc i (by omega)
def vl (V : Vw) (c : Nat) : Nat := (vVal V c).getD 0
def vI (V : Vw) (mem : Nat → Bool) (i : Nat) : Nat := vl V (cvF mem (vN V) i)
section SH
variable {k0 N : Nat} {V : Vw}
theorem vl_lt (hW : Wf k0 V) {c : Nat} (hc : c < vN V) : vl V c ≤ 9999 := by
  unfold vl
  cases hv : vVal V c with
  | none => exact Nat.zero_le _
  | some x => have := vVal_lt hW hc hv; show x ≤ 9999; omega
theorem sh_mem {g : Nat} {a1 : Int32} (hg : (a1 = 5 ∧ g = 5) ∨ (g < 5 ∧ a1 = nI g)) (hW : Wf k0 V) {c : Nat} (hc : c < vN V) {h : Hp} (hC : RowV (h 7) V) (X Y : Option Rs) : (if fX0_isPlainPendant h 7 (nI c) = 0 then X else (if a1 = 5 then Y else (if fX0_groupOf h 7 (nI c) = a1 then Y else X))) = if inG V g c = true then Y else X := by
  have hgl := grp_lt hW hc
  rw [q_plain hC hW hc, b2_01]
  cases hp : isPl V c with
  | false => rw [if_neg (by decide), if_neg (by unfold inG; rw [hp, Bool.false_and]; decide)]
  | true =>
    rw [if_pos rfl]
    rcases hg with ⟨e1, e2⟩ | ⟨e1, e2⟩
    · rw [if_pos e1, if_pos (by unfold inG; rw [hp, e2]; rfl)]
    · rw [if_neg (show ¬ a1 = 5 by rw [e2]; exact ne_lit (b := 5) (by omega) (by omega) (by omega)), q_group hC hW hc, e2, if_nI (by omega) (by omega)]
      by_cases e3 : vGrp V c = g
      · rw [if_pos e3, if_pos ((inG_pl e1 hp).mpr e3)]
      · rw [if_neg e3, if_neg (fun z => e3 ((inG_pl e1 hp).mp z))]
/-- every member of the group tells -/
def okG (V : Vw) (g j : Nat) : Prop := ∀ c, j ≤ c → c < vN V → inG V g c = true → ¬ vVal V c = none
theorem q_share_L (hW : Wf k0 V) {g : Nat} {a1 a2 : Int32} (hN : 70000 ≤ N) (hg : (a1 = 5 ∧ g = 5) ∨ (g < 5 ∧ a1 = nI g)) : ∀ (m j fuel : Nat) (h : Hp), j + m = vN V → m < fuel → RowV (h 7) V → Mb h (idx (inG V g) j) (cvF (inG V g) (vN V)) (vI V (inG V g)) → ∃ h' : Hp, (∀ q, q ≠ 12 → q ≠ 13 → q ≠ 14 → h' q = h q) ∧ (∀ i, i ≠ 5 → h' 12 i = h 12 i) ∧ ((okG V g j ∧ fX4_share_L36 N a1 a2 fuel (nI j) h = ((fX2_findEvenest N h').bind fun z2 => (if a2 = 0 then (some ((z2.2 12 7), z2.2)) else (some ((z2.2 12 8), z2.2)))) ∧ Mb h' (idx (inG V g) (vN V)) (cvF (inG V g) (vN V)) (vI V (inG V g))) ∨ (¬ okG V g j ∧ fX4_share_L36 N a1 a2 fuel (nI j) h = some (-4, h'))) := by
  intro m
  have hn := hW.n
  induction m with
  | zero =>
    intro j fuel h hj hf hC hM
    obtain ⟨fuel, rfl⟩ : ∃ f, fuel = f + 1 := ⟨fuel - 1, by omega⟩
    have e : j = vN V := by omega
    subst e
    refine ⟨h, fun _ _ _ _ => rfl, fun _ _ => rfl, Or.inl ⟨fun c h1 h2 => by omega, ?_, hM⟩⟩
    rw [fX4_share_L36, q_cords hC, if_neg (nI_nlt (by omega) (by omega))]
  | succ m ih =>
    intro j fuel h hj hf hC hM
    obtain ⟨fuel, rfl⟩ : ∃ f, fuel = f + 1 := ⟨fuel - 1, by omega⟩
    have hlt : j < vN V := by omega
    have hok : ∀ (hx : inG V g j = true → ¬ vVal V j = none), (okG V g j ↔ okG V g (j + 1)) := fun hx => ⟨fun q c h1 h2 => q c (by omega) h2, fun q c h1 h2 h3 => by
      by_cases e : c = j
      · subst e; exact hx h3
      · exact q c (by omega) h2 h3⟩
    have hix := idx_s (inG V g) j
    rw [fX4_share_L36, q_cords hC, if_pos (nI_lt hlt (by omega)), sh_mem hg hW hlt hC]
    cases hm : inG V g j with
    | false =>
      rw [if_neg (by decide), nI_1]
      rw [hm, if_neg (by decide), Nat.add_zero] at hix
      obtain ⟨h', w1, w2, w3⟩ := ih (j + 1) fuel h (by omega) (by omega) hC (by rw [hix]; exact hM)
      refine ⟨h', w1, w2, ?_⟩
      rw [hok (fun q => by rw [hm] at q; cases q)]
      exact w3
    | true =>
      rw [if_pos rfl]
      unfold fX4_share_J75
      rw [q_value hC hW (by omega) hlt, Option.bind_some]
      cases hv : vVal V j with
      | none =>
        refine ⟨h, fun _ _ _ _ => rfl, fun _ _ => rfl, Or.inr ⟨fun q => q j (Nat.le_refl _) hlt hm hv, ?_⟩⟩
        rw [if_pos (show encP none = -4 from rfl)]
      | some x =>
        have hx := vVal_lt hW hlt hv
        rw [hm, if_pos rfl] at hix
        have hi16 := idx_le (inG V g) j
        have ec : cvF (inG V g) (vN V) (idx (inG V g) j) = j := cv_idx _ _ hlt hm
        have ev : vI V (inG V g) (idx (inG V g) j) = x := by unfold vI vl; rw [ec, hv]; rfl
        obtain ⟨h1, a1', a2', a3', a4'⟩ := add_one (k := idx (inG V g) j) (by omega) hM
        rw [ec, ev] at a1'
        obtain ⟨h', w1, w2, w3⟩ := ih (j + 1) fuel h1 (by omega) (by omega) (by rw [a4' 7 (by decide) (by decide) (by decide)]; exact hC) (by rw [hix]; exact a2')
        refine ⟨h', fun q q1 q2 q3 => by rw [w1 q q1 q2 q3, a4' q q1 q2 q3], fun i hi => by rw [w2 i hi, a3' i hi], ?_⟩
        rw [hok (fun _ => by rw [hv]; exact fun z => by cases z), show encP (some x) = nI x from rfl, if_neg (encP_ne (by omega)), a1', Option.bind_some, nI_1]
        exact w3
/-! the reference -/
theorem m_lay_L (hW : Wf k0 V) (hN : 70000 ≤ N) : ∀ (m j fuel : Nat) (h : Hp), j + m = vN V → m < fuel → ModV (h 23) V → (∀ c, c < j → h 32 c = encP (vVal V c)) → ∃ h' : Hp, fX5_layValues_L2 N fuel (nI j) h = some (0, h') ∧ (∀ c, c < vN V → h' 32 c = encP (vVal V c)) ∧ (∀ q, q ≠ 32 → h' q = h q) := by
  intro m
  have hn := hW.n
  induction m with
  | zero =>
    intro j fuel h hj hf hM hd
    obtain ⟨fuel, rfl⟩ : ∃ f, fuel = f + 1 := ⟨fuel - 1, by omega⟩
    refine ⟨h, by rw [fX5_layValues_L2, hM.1, if_neg (nI_nlt (by omega) (by omega))], fun c hc => hd c (by omega), fun _ _ => rfl⟩
  | succ m ih =>
    intro j fuel h hj hf hM hd
    obtain ⟨fuel, rfl⟩ : ∃ f, fuel = f + 1 := ⟨fuel - 1, by omega⟩
    have hlt : j < vN V := by omega
    have hcl : (nI j).toNatClampNeg = j := nI_clamp (by omega)
    obtain ⟨h', w1, w2, w3⟩ := ih (j + 1) fuel (hset h 32 j (encP (vVal V j))) (by omega) (by omega) (by rw [hset_o (by decide)]; exact hM) (fun c hc => by
      rw [hset_s]
      by_cases e : c = j
      · subst e; rw [pk_us]
      · rw [pk_un e]; exact hd c (by omega))
    refine ⟨h', ?_, w2, fun q hq => by rw [w3 q hq, hset_o hq]⟩
    rw [fX5_layValues_L2, hM.1, if_pos (nI_lt hlt (by omega)), m_value hM hW (by omega) hlt, Option.bind_some, if_pos (by rw [nI_toInt (by omega)]; omega), hcl, Option.bind_some, nI_1]
    exact w1
theorem m_lay (hW : Wf k0 V) (hN : 70000 ≤ N) {h : Hp} (hM : ModV (h 23) V) : ∃ h' : Hp, fX5_layValues N h = some (0, h') ∧ (∀ c, c < vN V → h' 32 c = encP (vVal V c)) ∧ (∀ q, q ≠ 32 → h' q = h q) := m_lay_L hW hN (vN V) 0 N h (by omega) (by have := hW.n; omega) hM (fun c hc => by omega)
theorem m_tell_L (hW : Wf k0 V) {h : Hp} (hM : ModV (h 23) V) (h32 : ∀ c, c < vN V → h 32 c = encP (vVal V c)) {M : Nat} (hM17 : M < 2 ^ 17) (hok : ∀ c, c < vN V → M.testBit c = true → ¬ vVal V c = none) : ∀ (m j fuel : Nat), j + m = vN V → m < fuel → fX5_tellOf_L4 N h (nI M) fuel (nI (sI (vl V) M j)) (nI j) = some (nI (sI (vl V) M (vN V))) := by
  intro m
  have hn := hW.n
  induction m with
  | zero =>
    intro j fuel hj hf
    obtain ⟨fuel, rfl⟩ : ∃ f, fuel = f + 1 := ⟨fuel - 1, by omega⟩
    rw [fX5_tellOf_L4, hM.1, if_neg (nI_nlt (by omega) (by omega)), show j = vN V by omega]
  | succ m ih =>
    intro j fuel hj hf
    obtain ⟨fuel, rfl⟩ : ∃ f, fuel = f + 1 := ⟨fuel - 1, by omega⟩
    have hlt : j < vN V := by omega
    have hnx := ih (j + 1) fuel (by omega) (by omega)
    rw [sI] at hnx
    rw [fX5_tellOf_L4, hM.1, if_pos (nI_lt hlt (by omega)), x_bit1 (by omega) (by omega), nI_1]
    cases hb : M.testBit j with
    | false =>
      rw [hb, if_neg (by decide), Nat.add_zero] at hnx
      rw [if_neg (by decide), add0]
      exact hnx
    | true =>
      rw [hb, if_pos rfl] at hnx
      rw [if_pos rfl, rd_nI (by omega) (by omega), h32 j hlt, Option.bind_some]
      cases hv : vVal V j with
      | none => exact absurd hv (hok j hlt hb)
      | some x =>
        have e : vl V j = x := by unfold vl; rw [hv]; rfl
        rw [e] at hnx
        rw [show encP (some x) = nI x from rfl, nI_add]
        exact hnx
theorem m_tell (hW : Wf k0 V) (hN : 70000 ≤ N) {h : Hp} (hM : ModV (h 23) V) (h32 : ∀ c, c < vN V → h 32 c = encP (vVal V c)) {M : Nat} (hM17 : M < 2 ^ 17) (hok : ∀ c, c < vN V → M.testBit c = true → ¬ vVal V c = none) : fX5_tellOf N h (nI M) = some (nI (sI (vl V) M (vN V))) := m_tell_L hW hM h32 hM17 hok (vN V) 0 N (by omega) (by have := hW.n; omega)
/-- how unlike these cords and all others are -/
def Gs (V : Vw) (U M : Nat) : Nat := ((sI (vl V) U (vN V) : Int) - 2 * (sI (vl V) M (vN V) : Nat)).natAbs
theorem sv_le (hW : Wf k0 V) (M : Nat) : sI (vl V) M (vN V) ≤ 16 * 9999 := by
  have hn := hW.n
  exact Nat.le_trans (sI_le (v := vl V) (K := 9999) M (vN V) (fun i hi => vl_lt hW hi)) (Nat.mul_le_mul_right _ hn)
theorem m_sh_L (hW : Wf k0 V) (hN : 70000 ≤ N) {h : Hp} (hM : ModV (h 23) V) (h32 : ∀ c, c < vN V → h 32 c = encP (vVal V c)) {U : Nat} (hU : U < 2 ^ 16) (hok : ∀ c, c < vN V → U.testBit c = true → ¬ vVal V c = none) {a1 a2 : Int32} : ∀ (m t fuel best : Nat), t + m = U + 1 → m < fuel → LexMin (fun M => subm M U ∧ M < t) (Gs V U) best → ∃ best', LexMin (fun M => subm M U) (Gs V U) best' ∧ fX5_share_L97 N a1 a2 fuel (nI U) (nI (sI (vl V) U (vN V))) (nI best) (nI (Gs V U best)) (nI t) h = some (if a2 = 0 then nI best' else nI (Gs V U best'), h) := by
  intro m
  have hsU := sv_le hW U
  have hGb : ∀ M, Gs V U M < 2 ^ 20 := fun M => by
    have := sv_le hW M
    unfold Gs
    omega
  induction m with
  | zero =>
    intro t fuel best ht hf hb
    obtain ⟨fuel, rfl⟩ : ∃ f, fuel = f + 1 := ⟨fuel - 1, by omega⟩
    refine ⟨best, hb.congr (fun M => ⟨fun q => q.1, fun q => ⟨q, by have := subm_le q; omega⟩⟩), ?_⟩
    rw [fX5_share_L97, if_pos (nI_lt (by omega) (by omega))]
    split <;> rfl
  | succ m ih =>
    intro t fuel best ht hf hb
    obtain ⟨fuel, rfl⟩ : ∃ f, fuel = f + 1 := ⟨fuel - 1, by omega⟩
    rw [fX5_share_L97, if_neg (nI_nlt (by omega) (by omega)), nI_1]
    by_cases hs : subm t U
    · have hst := sv_le hW t
      have ep : fX5_plain h (nI (sI (vl V) U (vN V)) - 2 * nI (sI (vl V) t (vN V))) = nI (Gs V U t) := by
        rw [show (2 : Int32) = nI 2 from rfl, pk_mul, z_nI, z_nI, z_sub, z_plain h (by omega) (by omega)]
        unfold Gs
        congr 2
      rw [if_pos ((x_subm (by omega) (by omega)).mpr hs), m_tell hW hN hM h32 (by omega) (fun c hc hbit => hok c hc (hs c hbit)), Option.bind_some, ep, Option.bind_some]
      unfold fX5_share_J142
      rw [nI_1]
      have g1 := hGb t
      have g2 := hGb best
      by_cases hlt : Gs V U t < Gs V U best
      · obtain ⟨b', w1, w2⟩ := ih (t + 1) fuel t (by omega) (by omega) ⟨⟨hs, by omega⟩, fun M ⟨q1, q2⟩ => by
          by_cases e : M = t
          · subst e; exact Or.inr ⟨rfl, Nat.le_refl _⟩
          · have := hb.2 M ⟨q1, by omega⟩
            omega⟩
        refine ⟨b', w1, ?_⟩
        rw [if_pos (nI_lt hlt (by omega)), if_pos (nI_lt hlt (by omega))]
        exact w2
      · obtain ⟨b', w1, w2⟩ := ih (t + 1) fuel best (by omega) (by omega) ⟨⟨hb.1.1, by have := hb.1.2; omega⟩, fun M ⟨q1, q2⟩ => by
          by_cases e : M = t
          · subst e
            have := hb.1.2
            omega
          · exact hb.2 M ⟨q1, by omega⟩⟩
        refine ⟨b', w1, ?_⟩
        rw [if_neg (nlt_lit (by omega) (by omega) hlt), if_neg (nlt_lit (by omega) (by omega) hlt)]
        exact w2
    · rw [if_neg (fun q => hs ((x_subm (by omega) (by omega)).mp q))]
      obtain ⟨b', w1, w2⟩ := ih (t + 1) fuel best (by omega) (by omega) ⟨⟨hb.1.1, by have := hb.1.2; omega⟩, fun M ⟨q1, q2⟩ => by
        by_cases e : M = t
        · subst e; exact absurd q1 hs
        · exact hb.2 M ⟨q1, by omega⟩⟩
      exact ⟨b', w1, w2⟩
theorem m_share_L (hW : Wf k0 V) (hN : 70000 ≤ N) {h : Hp} (hM : ModV (h 23) V) (h32 : ∀ c, c < vN V → h 32 c = encP (vVal V c)) {g : Nat} (hg : g < 2 ^ 31) {a2 : Int32} (hr16 : ∀ c, c < vN V → rdH h 32 16 (nI c) = some (encP (vVal V c))) : ∀ (m j fuel : Nat), j + m = vN V → m < fuel → (okG V g j ∧ fX5_share_L31 N (nI g) a2 fuel (nI (uN (inG V g) j)) (nI j) h = ((fX5_tellOf N h (nI (uN (inG V g) (vN V)))).bind fun v5 => (fX5_share_L97 N (nI g) a2 N (nI (uN (inG V g) (vN V))) v5 0 1000000 0 h))) ∨ (¬ okG V g j ∧ fX5_share_L31 N (nI g) a2 fuel (nI (uN (inG V g) j)) (nI j) h = some (-4, h)) := by
  intro m
  have hn := hW.n
  induction m with
  | zero =>
    intro j fuel hj hf
    obtain ⟨fuel, rfl⟩ : ∃ f, fuel = f + 1 := ⟨fuel - 1, by omega⟩
    have e : j = vN V := by omega
    subst e
    refine Or.inl ⟨fun c h1 h2 => by omega, ?_⟩
    rw [fX5_share_L31, hM.1, if_neg (nI_nlt (by omega) (by omega))]
  | succ m ih =>
    intro j fuel hj hf
    obtain ⟨fuel, rfl⟩ : ∃ f, fuel = f + 1 := ⟨fuel - 1, by omega⟩
    have hlt : j < vN V := by omega
    have hok : ∀ (hx : inG V g j = true → ¬ vVal V j = none), (okG V g j ↔ okG V g (j + 1)) := fun hx => ⟨fun q c h1 h2 => q c (by omega) h2, fun q c h1 h2 h3 => by
      by_cases e : c = j
      · subst e; exact hx h3
      · exact q c (by omega) h2 h3⟩
    have hnx := ih (j + 1) fuel (by omega) (by omega)
    rw [uN] at hnx
    rw [fX5_share_L31, hM.1, if_pos (nI_lt hlt (by omega)), m_isOf hM hW hlt hg, Option.bind_some, nI_1]
    cases hm : inG V g j with
    | false =>
      rw [hm, if_neg (by decide), Nat.add_zero] at hnx
      rw [show b2 false = (0 : Int32) from rfl, if_pos rfl, hok (fun q => by rw [hm] at q; cases q)]
      exact hnx
    | true =>
      rw [hm, if_pos rfl] at hnx
      rw [show b2 true = (1 : Int32) from rfl, if_neg n10, hr16 j hlt, Option.bind_some]
      cases hv : vVal V j with
      | none => exact Or.inr ⟨fun q => q j (Nat.le_refl _) hlt hm hv, by rw [if_pos (show encP none = -4 from rfl)]⟩
      | some x =>
        have hx := vVal_lt hW hlt hv
        have hul := uN_lt (inG V g) j
        rw [show encP (some x) = nI x from rfl, if_neg (encP_ne (by omega)), x_shl1 (by omega), x_oradd hul, Option.bind_some, hok (fun _ => by rw [hv]; exact fun z => by cases z)]
        exact hnx
theorem RR_sets {k : Nat} {h h' : Hp} (hR : RR k h) {K S : Nat} (hK : HK h' K S) (fr : ∀ q, q ≠ 12 → q ≠ 13 → q ≠ 14 → q ≠ 15 → q ≠ 16 → q ≠ 17 → q ≠ 32 → h' q = h q) : RR (k + 1) h' := by
  have f : ∀ q, (q < 12 ∨ (17 < q ∧ q ≠ 32)) → h' q = h q := fun q hq => fr q (by omega) (by omega) (by omega) (by omega) (by omega) (by omega) (by omega)
  obtain ⟨hT, hD, hB, hU, hKe⟩ := id hR
  refine RR_mono k h' (RR_frame hR (TX_frame hT (f 0 (by omega)) (f 1 (by omega)) (f 26 (by omega)) (by rw [f 22 (by omega)])) ?_ (f 7 (by omega)) (by rw [f 8 (by omega)]) (f 9 (by omega)) (by rw [f 10 (by omega)]) (f 11 (by omega)) (f 23 (by omega)) (f 24 (by omega)) (f 25 (by omega)) (by rw [f 22 (by omega)]) (by rw [f 22 (by omega)]))
  refine ⟨by rw [f 8 (by omega), f 10 (by omega)]; exact hD.1, ?_⟩
  rcases hK.1 with ⟨e1, e2⟩ | ⟨e1, e2⟩ <;> subst e1 <;> subst e2
  · exact Or.inl ⟨hK.2.1, hK.2.2⟩
  · exact Or.inr ⟨hK.2.1, hK.2.2⟩
theorem DY.hk {h : Hp} (hD : DY h) : ∃ K S, HK h K S := by
  rcases hD.2 with ⟨a, b⟩ | ⟨a, b⟩
  · exact ⟨16, 17, Or.inl ⟨rfl, rfl⟩, a, b⟩
  · exact ⟨17, 16, Or.inr ⟨rfl, rfl⟩, a, b⟩
end SH
theorem st_share (N : Nat) (hN : 70000 ≤ N) : SF_share N RR := by
  intro k h hk hR a1 a2
  obtain ⟨hT, hD, ⟨V, hW, hC, hM⟩, hU, hK⟩ := id hR
  have hn := hW.n
  -- the group
  have hgc : (fX0_hasGroup h 7 a1 = 0 ∧ fX5_isGroup h a1 = 0 ∧ ¬ a1 = 5) ∨ ∃ g, ((a1 = 5 ∧ g = 5) ∨ (g < 5 ∧ a1 = nI g)) ∧ (a1 = 5 ∨ (fX0_hasGroup h 7 a1 = 1 ∧ fX5_isGroup h a1 = 1)) ∧ a1 = nI g ∧ g < 6 := by
    by_cases h5 : a1 = 5
    · exact Or.inr ⟨5, Or.inl ⟨h5, rfl⟩, Or.inl h5, h5, by decide⟩
    · rcases grp_case hC hM hW a1 with ⟨h1, h2⟩ | ⟨h1, h2, g, hg, e⟩
      · exact Or.inl ⟨h1, h2, h5⟩
      · have hg5 : g < 5 := by have := hW.1.2; omega
        exact Or.inr ⟨g, Or.inr ⟨hg5, e⟩, Or.inr ⟨h1, h2⟩, e, by omega⟩
  rcases hgc with ⟨h1, h2, h5⟩ | ⟨g, hg, hgo, he, hg6⟩
  · refine ⟨-1, h, h, ?_, ?_, RR_mono k h hR⟩
    · unfold fX4_share; rw [if_neg h5, h1, if_pos rfl]
    · unfold fX5_share; rw [h2, if_pos rfl, if_neg h5]
  have e4 : ∀ h', fX4_share N h a1 a2 = h' ↔ fX4_share_J16 N a1 a2 h = h' := fun h' => by
    unfold fX4_share
    rcases hgo with q | ⟨q, -⟩
    · rw [if_pos q]
    · rw [q, if_neg n10]; split <;> exact Iff.rfl
  have e5 : ∀ (h1 : Hp), h1 23 = h 23 → ∀ X, fX5_share_J13 N a1 a2 h1 = X → fX5_share N h1 a1 a2 = X := fun h1 h23 X hX => by
    unfold fX5_share
    rcases hgo with q | ⟨-, q⟩
    · rw [if_pos q]; split <;> exact hX
    · have : fX5_isGroup h1 a1 = 1 := by rw [← q]; unfold fX5_isGroup; rw [h23]; rfl
      rw [this, if_neg n10]; exact hX
  rcases two_case2 h a2 with ⟨t1, t2⟩ | ⟨t1, t2, t3⟩
  · refine ⟨-1, h, h, (e4 _).mpr ?_, e5 h rfl _ ?_, RR_mono k h hR⟩
    · unfold fX4_share_J16
      rcases t2 with t2 | ⟨t2, t3⟩
      · rw [if_pos t2]
      · rw [if_neg t2, if_pos t3]
    · unfold fX5_share_J13
      rw [t1, if_pos rfl]
  obtain ⟨mem, hmem⟩ : ∃ mem, mem = inG V g := ⟨_, rfl⟩
  obtain ⟨K, S, hKS⟩ := hD.hk
  obtain ⟨h0, hh0⟩ : ∃ h0, h0 = hset h 12 5 0 := ⟨_, rfl⟩
  have f0 : ∀ q, q ≠ 12 → h0 q = h q := fun q hq => by rw [hh0, hset_o hq]
  have f012 : ∀ i, i ≠ 5 → h0 12 i = h 12 i := fun i hi => by rw [hh0, hset_s, pk_un hi]
  obtain ⟨h1, w1, w2, w3⟩ := q_share_L (N := N) (a2 := a2) hW hN hg (vN V) 0 N h0 (by omega) (by omega) (by rw [f0 7 (by decide)]; exact hC) ⟨by rw [hh0, hset_s, pk_us]; rfl, fun i hi => by have : i < 0 := hi; omega⟩
  have hK1 : HK h1 K S := ⟨hKS.1, by rw [w2 3 (by decide), f012 3 (by decide)]; exact hKS.2.1, by rw [w2 4 (by decide), f012 4 (by decide)]; exact hKS.2.2⟩
  have cl : fX4_share_J16 N a1 a2 h = fX4_share_L36 N a1 a2 N (nI 0) h0 := by
    unfold fX4_share_J16 fX2_clear
    rw [if_neg t2, if_neg t3, Option.bind_some, Option.bind_some, ← hh0]
    rfl
  -- the reference, from any heap that has its bundle
  have rf : ∀ hx : Hp, hx 23 = h 23 → ∃ hm : Hp, (∀ q, q ≠ 32 → hm q = hx q) ∧ ((okG V g 0 ∧ ∃ best, LexMin (fun M => subm M (uN mem (vN V))) (Gs V (uN mem (vN V))) best ∧ fX5_share N hx a1 a2 = some (if a2 = 0 then nI best else nI (Gs V (uN mem (vN V)) best), hm)) ∨ (¬ okG V g 0 ∧ fX5_share N hx a1 a2 = some (-4, hm))) := by
    intro hx h23
    have hMx : ModV (hx 23) V := by rw [h23]; exact hM
    obtain ⟨hm, m1, m2, m3⟩ := m_lay hW hN hMx
    have hMm : ModV (hm 23) V := by rw [m3 23 (by decide)]; exact hMx
    refine ⟨hm, m3, ?_⟩
    have hul := uN_lt mem (vN V)
    have hU16 : uN mem (vN V) < 2 ^ 16 := Nat.lt_of_lt_of_le hul (Nat.pow_le_pow_right (by decide) hn)
    have h13 : fX5_share_J13 N a1 a2 hx = fX5_share_L31 N (nI g) a2 N (nI (uN mem 0)) (nI 0) hm := by
      have tt : fX5_isTwo hx a2 = 1 := t1
      unfold fX5_share_J13
      rw [tt, if_neg n10, m1, Option.bind_some, he]
      rfl
    rcases m_share_L (N := N) hW hN hMm m2 (g := g) (by omega) (a2 := a2) (fun c hc => by rw [rd_nI (by omega) (by omega), m2 c hc]) (vN V) 0 N (by omega) (by omega) with ⟨o1, o2⟩ | ⟨o1, o2⟩
    · left
      refine ⟨o1, ?_⟩
      rw [← hmem] at o2
      have hokU : ∀ c, c < vN V → (uN mem (vN V)).testBit c = true → ¬ vVal V c = none := fun c hc hb => by
        rw [uN_bit, Bool.and_eq_true, hmem] at hb
        exact o1 c (Nat.zero_le _) hc hb.2
      have ht := m_tell hW hN hMm m2 (M := uN mem (vN V)) (by omega) hokU
      have hs0 : sI (vl V) 0 (vN V) = 0 := by
        have : ∀ n, sI (vl V) 0 n = 0 := fun n => by
          induction n with
          | zero => rfl
          | succ n ih => rw [sI, ih, Nat.zero_testBit]; rfl
        exact this _
      have hsU := sv_le hW (uN mem (vN V))
      have hG0 : Gs V (uN mem (vN V)) 0 = sI (vl V) (uN mem (vN V)) (vN V) := by unfold Gs; rw [hs0]; omega
      have hsub0 : subm 0 (uN mem (vN V)) := fun b hb => by rw [Nat.zero_testBit] at hb; cases hb
      obtain ⟨best, b1, b2'⟩ := m_sh_L (N := N) hW hN hMm m2 hU16 hokU (a1 := nI g) (a2 := a2) (uN mem (vN V)) 1 (N - 1) 0 (by omega) (by omega) ⟨⟨hsub0, by omega⟩, fun M ⟨q1, q2⟩ => by
        have : M = 0 := by omega
        subst this
        exact Or.inr ⟨rfl, Nat.le_refl _⟩⟩
      refine ⟨best, b1, e5 hx h23 _ ?_⟩
      rw [h13, o2, ht, Option.bind_some]
      obtain ⟨f, hf⟩ : ∃ f, N = f + 1 := ⟨N - 1, by omega⟩
      have ep : fX5_plain hm (nI (sI (vl V) (uN mem (vN V)) (vN V)) - 2 * nI (sI (vl V) 0 (vN V))) = nI (Gs V (uN mem (vN V)) 0) := by
        rw [show (2 : Int32) = nI 2 from rfl, pk_mul, z_nI, z_nI, z_sub, z_plain hm (by omega) (by omega)]
        unfold Gs
        congr 2
      have ht0 := m_tell hW hN hMm m2 (M := 0) (by omega) (fun c hc hb => by rw [Nat.zero_testBit] at hb; cases hb)
      have step : ∀ n', fX5_share_L97 N (nI g) a2 (n' + 1) (nI (uN mem (vN V))) (nI (sI (vl V) (uN mem (vN V)) (vN V))) 0 1000000 0 hm = fX5_share_L97 N (nI g) a2 n' (nI (uN mem (vN V))) (nI (sI (vl V) (uN mem (vN V)) (vN V))) (nI 0) (nI (Gs V (uN mem (vN V)) 0)) (nI 1) hm := fun n' => by
        have hsb := (x_subm (M := 0) (U := uN mem (vN V)) (by omega) (by omega)).mpr hsub0
        rw [fX5_share_L97, if_neg (show ¬ nI (uN mem (vN V)) < (0 : Int32) from nI_pos (by omega)), if_pos (show (0 : Int32) &&& (nI (uN mem (vN V)) ^^^ (-1)) = 0 from hsb), show fX5_tellOf N hm 0 = some (nI (sI (vl V) 0 (vN V))) from ht0, Option.bind_some, ep, Option.bind_some]
        unfold fX5_share_J142
        have hlt : nI (Gs V (uN mem (vN V)) 0) < (1000000 : Int32) := nI_lt (b := 1000000) (by rw [hG0]; omega) (by omega)
        rw [if_pos hlt, if_pos hlt]
        rfl
      have hN1 : N = (N - 1) + 1 := by omega
      have st := step (N - 1)
      rw [← hN1] at st
      rw [st]
      exact b2'
    · right
      refine ⟨o1, e5 hx h23 _ ?_⟩
      rw [h13, hmem]
      exact o2
  rcases w3 with ⟨o1, o2, o3⟩ | ⟨o1, o2⟩
  · -- all tell
    have hm16 : idx (inG V g) (vN V) ≤ 16 := Nat.le_trans (idx_le _ _) hn
    have hvb : ∀ j, j < idx (inG V g) (vN V) → vI V (inG V g) j ≤ 9999 := fun j hj => vl_lt hW (cv_at _ _ hj).1
    obtain ⟨h2, K', S', s, y1, y2, y3, y4, y5, y6⟩ := even_all (N := N) hN hm16 hvb (fun j k q1 q2 => cv_lt _ _ q1 q2) (fun j hj => by have := (cv_at (inG V g) (vN V) hj).1; omega) hK1 o3
    have h23 : h2 23 = h 23 := by rw [y6 23 (by decide) (by decide) (by decide) (by decide), w1 23 (by decide) (by decide) (by decide), f0 23 (by decide)]
    obtain ⟨hm, r1, r2⟩ := rf h2 h23
    rcases r2 with ⟨-, best, r3, r4⟩ | ⟨z, -⟩
    · rw [hmem] at r3 r4
      have hvi : ∀ b, b < vN V → inG V g b = true → vI V (inG V g) (idx (inG V g) b) = vl V b := fun b hb hmb => by unfold vI; rw [cv_idx _ _ hb hmb]
      have hFG : ∀ t, t < 2 ^ idx (inG V g) (vN V) → Fs (vI V (inG V g)) (idx (inG V g) (vN V)) t = Gs V (uN (inG V g) (vN V)) (asN (inG V g) t (vN V)) := fun t ht => by
        unfold Fs Gs
        rw [sI_as (inG V g) t (vN V) hvi, tv_as (inG V g) (vN V) hvi]
      have hl := lex_as (inG V g) (P := fun _ => True) (Q := fun _ => True) (n := vN V) (y3.congr (fun t => ⟨fun q => ⟨q, trivial⟩, fun q => q.1⟩)) (fun t _ => Iff.rfl) hFG
      have hbs : best = asN (inG V g) s (vN V) := LexMin.uniq r3 (hl.congr (fun M => ⟨fun q => q.1, fun q => ⟨q, trivial⟩⟩))
      refine ⟨if a2 = 0 then nI best else nI (Gs V (uN (inG V g) (vN V)) best), h2, hm, (e4 _).mpr ?_, r4, RR_sets hR (K := K') (S := S') ⟨y2.1, by rw [r1 12 (by decide)]; exact y2.2.1, by rw [r1 12 (by decide)]; exact y2.2.2⟩ (fun q q1 q2 q3 q4 q5 q6 q7 => by rw [r1 q q7, y6 q q1 q4 q5 q6, w1 q q1 q2 q3, f0 q q1])⟩
      rw [cl, o2, y1, Option.bind_some]
      show (if a2 = 0 then some (h2 12 7, h2) else some (h2 12 8, h2)) = _
      rw [y4, y5, ← asN_pw, hFG s y3.1, hbs]
      split <;> rfl
    · exact absurd o1 z
  · obtain ⟨hm, r1, r2⟩ := rf h1 (by rw [w1 23 (by decide) (by decide) (by decide), f0 23 (by decide)])
    rcases r2 with ⟨z, -⟩ | ⟨-, r4⟩
    · exact absurd z o1
    · exact ⟨-4, h1, hm, (e4 _).mpr (by rw [cl, o2]), r4, RR_sets hR (K := K) (S := S) ⟨hK1.1, by rw [r1 12 (by decide)]; exact hK1.2.1, by rw [r1 12 (by decide)]; exact hK1.2.2⟩ (fun q q1 q2 q3 q4 q5 q6 q7 => by rw [r1 q q7, w1 q q1 q2 q3, f0 q q1])⟩
