/-! a cord's codes put anew: tie, more, knot -/
def wr (row : Nat → Int32) (b n : Nat) (f : Nat → Nat) : Nat → Int32 := fun i => if b ≤ i ∧ i < b + n then nI (f (i - b)) else row i
theorem wr_0 {row : Nat → Int32} {b : Nat} {f : Nat → Nat} : wr row b 0 f = row := by
  funext i
  unfold wr
  rw [if_neg (by omega)]
theorem wr_out {row : Nat → Int32} {b n i : Nat} {f : Nat → Nat} (hi : i < b ∨ b + n ≤ i) : wr row b n f i = row i := by
  unfold wr
  rw [if_neg (by omega)]
theorem wr_in {row : Nat → Int32} {b n i : Nat} {f : Nat → Nat} (hi : i < n) : wr row b n f (b + i) = nI (f i) := by
  unfold wr
  rw [if_pos (by omega), Nat.add_sub_cancel_left]
theorem wr_s {row : Nat → Int32} {b n : Nat} {f : Nat → Nat} : upd (wr row b n f) (b + n) (nI (f n)) = wr row b (n + 1) f := by
  funext i
  by_cases h1 : i = b + n
  · subst h1
    rw [pk_us, wr_in (by omega)]
  · rw [pk_un h1]
    by_cases h2 : b ≤ i ∧ i < b + n
    · obtain ⟨j, rfl⟩ : ∃ j, i = b + j := ⟨i - b, by omega⟩
      rw [wr_in (by omega), wr_in (by omega)]
    · rw [wr_out (by omega), wr_out (by omega)]
theorem if_nI {α : Type} {a b : Nat} (ha : a < 2 ^ 31) (hb : b < 2 ^ 31) (x y : α) : (if nI a = nI b then x else y) = if a = b then x else y := by
  by_cases h : a = b
  · rw [if_pos (congrArg nI h), if_pos h]
  · rw [if_neg (ne_lit ha hb h), if_neg h]
def vSet (V : Vw) (c : Nat) (f : Nat → Nat) : Vw := (vN V, vG V, vCol V, vSiz V, (fun d => if d = c then f else vCod V d), V.2.2.2.2.2)
theorem vSet_s {V : Vw} {c : Nat} {f : Nat → Nat} : vCod (vSet V c f) c = f := by
  show (if c = c then f else vCod V c) = f
  rw [if_pos rfl]
theorem vSet_o {V : Vw} {c d : Nat} {f : Nat → Nat} (h : d ≠ c) : vCod (vSet V c f) d = vCod V d := by
  show (if d = c then f else vCod V d) = _
  rw [if_neg h]
theorem Wf.set {k : Nat} {V : Vw} (hW : Wf k V) {c : Nat} {f : Nat → Nat} (hf : ∀ j, j < vSiz V c → codOK (f j)) : Wf k (vSet V c f) := by
  refine ⟨hW.1, fun d hd => ?_, hW.2.2⟩
  obtain ⟨w1, w2, w3, w4⟩ := hW.2.1 d hd
  refine ⟨w1, w2, fun j hj => ?_, w4⟩
  by_cases h1 : d = c
  · subst h1; rw [vSet_s]; exact hf j hj
  · rw [vSet_o h1]; exact w3 j hj
theorem RowV.set {row row' : Nat → Int32} {k : Nat} {V : Vw} (hW : Wf k V) (hC : RowV row V) {c : Nat} {f : Nat → Nat} (hc : c < vN V) (h1 : ∀ i, (i < 112 ∨ 176 ≤ i) → row' i = row i) (h2 : ∀ d j, d ≠ c → d < 16 → j < 4 → row' (112 + 4 * d + j) = row (112 + 4 * d + j)) (h3 : ∀ j, j < vSiz V c → row' (112 + 4 * c + j) = nI (f j)) : RowV row' (vSet V c f) := by
  have hn := hW.n
  have hl := L_len hW
  obtain ⟨a1, a2, a3, a4, a5⟩ := hC
  refine ⟨by rw [h1 176 (by omega)]; exact a1, by rw [h1 177 (by omega)]; exact a2, by rw [h1 178 (by omega)]; exact a3, fun i hi => by replace hi : i < (vL V).length := hi; rw [h1 _ (by omega)]; exact a4 i hi, fun d hd => ?_⟩
  replace hd : d < vN V := hd
  obtain ⟨b1, b2, b3, b4, b5, b6, b7⟩ := a5 d hd
  refine ⟨by rw [h1 _ (by omega)]; exact b1, by rw [h1 _ (by omega)]; exact b2, by rw [h1 _ (by omega)]; exact b3, by rw [h1 _ (by omega)]; exact b4, by rw [h1 _ (by omega)]; exact b5, by rw [h1 _ (by omega)]; exact b6, fun j hj => ?_⟩
  have hs := hW.siz hd
  replace hj : j < vSiz V d := hj
  by_cases h : d = c
  · subst h; rw [vSet_s]; exact h3 j hj
  · rw [vSet_o h, h2 d j h (by omega) (by omega)]; exact b7 j hj
theorem ModV.set {a a' : Nat → Int32} {k : Nat} {V : Vw} (hW : Wf k V) (hM : ModV a V) {c : Nat} {f : Nat → Nat} (hc : c < vN V) (h1 : ∀ i, (i < 34 ∨ 98 ≤ i) → a' i = a i) (h2 : ∀ d j, d ≠ c → d < 16 → j < 4 → a' (34 + 4 * d + j) = a (34 + 4 * d + j)) (h3 : ∀ j, j < vSiz V c → a' (34 + 4 * c + j) = nI (f j)) : ModV a' (vSet V c f) := by
  have hn := hW.n
  obtain ⟨a1, a2, a5⟩ := hM
  refine ⟨by rw [h1 0 (by omega)]; exact a1, by rw [h1 1 (by omega)]; exact a2, fun d hd => ?_⟩
  replace hd : d < vN V := hd
  obtain ⟨b1, b2, b3, b4, b5, b6, b7⟩ := a5 d hd
  refine ⟨by rw [h1 _ (by omega)]; exact b1, by rw [h1 _ (by omega)]; exact b2, by rw [h1 _ (by omega)]; exact b3, by rw [h1 _ (by omega)]; exact b4, by rw [h1 _ (by omega)]; exact b5, by rw [h1 _ (by omega)]; exact b6, fun j hj => ?_⟩
  have hs := hW.siz hd
  replace hj : j < vSiz V d := hj
  by_cases h : d = c
  · subst h; rw [vSet_s]; exact h3 j hj
  · rw [vSet_o h, h2 d j h (by omega) (by omega)]; exact b7 j hj
def cf (d j : Nat) : Nat := if d = 0 then 0 else if 0 < j then 10 + d else if d = 1 then 31 else 20 + d
theorem cf_dec4 : ∀ d, d < 10 → ∀ j, j < 4 → fX4_codeToTell (fun _ _ => 0) (nI d) (nI j) = nI (cf d j) := by decide +kernel
theorem cf_dec5 : ∀ d, d < 10 → ∀ j, j < 4 → fX5_clusterFor (fun _ _ => 0) (nI d) (nI j) = nI (cf d j) := by decide +kernel
theorem cf_ok {d : Nat} (hd : d < 10) (j : Nat) : codOK (cf d j) := by
  unfold cf codOK
  split
  · omega
  · split
    · omega
    · split <;> omega
theorem q_cf (h : Hp) {d j : Nat} (hd : d < 10) (hj : j < 4) : fX4_codeToTell h (nI d) (nI j) = nI (cf d j) := cf_dec4 d hd j hj
theorem m_cf (h : Hp) {d j : Nat} (hd : d < 10) (hj : j < 4) : fX5_clusterFor h (nI d) (nI j) = nI (cf d j) := cf_dec5 d hd j hj
def digs (n : Nat) (j : Nat) : Nat := cf (n / 10 ^ j % 10) j
theorem digs_ok (n j : Nat) : codOK (digs n j) := cf_ok (by omega) j
theorem dg_rem {n j : Nat} (hn : n < 2 ^ 31) : nI (n / 10 ^ j) - nI (n / 10 ^ j) / 10 * 10 = nI (n / 10 ^ j % 10) := by
  have : n / 10 ^ j ≤ n := Nat.div_le_self _ _
  exact pk_rem (d := 10) (by omega) (by omega) (by omega)
theorem dg_div {n j : Nat} (hn : n < 2 ^ 31) : nI (n / 10 ^ j) / 10 = nI (n / 10 ^ (j + 1)) := by
  have : n / 10 ^ j ≤ n := Nat.div_le_self _ _
  rw [show (10 : Int32) = nI 10 from rfl, pk_div (by omega) (by omega) (by omega), Nat.div_div_eq_div_mul, Nat.pow_succ]
theorem tell_L {N k n : Nat} {h : Hp} {V : Vw} (hC : RowV (h 7) V) (hW : Wf k V) (hn : n < 2 ^ 31) {c : Nat} (hc : c < vN V) {a2 : Int32} : ∀ (m j fuel : Nat), j + m = vSiz V c → m < fuel → fX0_tell_L5 N 7 (nI c) a2 fuel (nI (n / 10 ^ j)) (nI j) (cel h 7 (wr (h 7) (112 + 4 * c) j (digs n))) = some (0, cel h 7 (wr (h 7) (112 + 4 * c) (vSiz V c) (digs n))) := by
  intro m
  have hs := hW.siz hc
  have hN := hW.n
  have es : ∀ j, fX0_sizeOf (cel h 7 (wr (h 7) (112 + 4 * c) j (digs n))) 7 (nI c) = nI (vSiz V c) := fun j => by
    unfold fX0_sizeOf
    rw [show (16 : Int32) = nI 16 from rfl, nI_add, at_nI (by omega) (by omega), cel_s, wr_out (by omega)]
    exact (hC.c hc).2.1
  induction m with
  | zero =>
    intro j fuel hj hf
    obtain ⟨fuel, rfl⟩ : ∃ f, fuel = f + 1 := ⟨fuel - 1, by omega⟩
    rw [fX0_tell_L5, es, if_neg (nI_nlt (by omega) (by omega))]
    have : j = vSiz V c := by omega
    subst this; rfl
  | succ m ih =>
    intro j fuel hj hf
    obtain ⟨fuel, rfl⟩ : ∃ f, fuel = f + 1 := ⟨fuel - 1, by omega⟩
    have hlt : j < vSiz V c := by omega
    rw [fX0_tell_L5, es, if_pos (nI_lt hlt (by omega)), dg_rem hn, dg_div hn, q_cf _ (by omega) (by omega), nI_1]
    unfold fX0_setCode
    rw [show (112 : Int32) = nI 112 from rfl, show (4 : Int32) = nI 4 from rfl, pk_mul, nI_add, nI_add, put_nI (by omega) (by omega), Option.bind_some, Option.bind_some, hset_cel]
    show fX0_tell_L5 N 7 (nI c) a2 fuel (nI (n / 10 ^ (j + 1))) (nI (j + 1)) (cel h 7 (upd (wr (h 7) (112 + 4 * c) j (digs n)) (112 + 4 * c + j) (nI (digs n j)))) = _
    rw [wr_s]
    exact ih (j + 1) fuel (by omega) (by omega)
theorem ties_L {N k n : Nat} {h : Hp} {V : Vw} (hM : ModV (h 23) V) (hW : Wf k V) (hn : n < 2 ^ 31) {c : Nat} (hc : c < vN V) {a2 : Int32} : ∀ (m j fuel : Nat), j + m = vSiz V c → m < fuel → fX5_ties_L9 N (nI c) a2 fuel (nI (n / 10 ^ j)) (nI j) (cel h 23 (wr (h 23) (34 + 4 * c) j (digs n))) = some (0, cel h 23 (wr (h 23) (34 + 4 * c) (vSiz V c) (digs n))) := by
  intro m
  have hs := hW.siz hc
  have hN := hW.n
  have es : ∀ j, rdH (cel h 23 (wr (h 23) (34 + 4 * c) j (digs n))) 23 162 (18 + nI c) = some (nI (vSiz V c)) := fun j => by
    rw [show (18 : Int32) = nI 18 from rfl, nI_add, rd_nI (by omega) (by omega), cel_s, wr_out (by omega)]
    exact congrArg some (hM.c hc).2.1
  induction m with
  | zero =>
    intro j fuel hj hf
    obtain ⟨fuel, rfl⟩ : ∃ f, fuel = f + 1 := ⟨fuel - 1, by omega⟩
    rw [fX5_ties_L9, es, Option.bind_some, if_neg (nI_nlt (by omega) (by omega))]
    have : j = vSiz V c := by omega
    subst this; rfl
  | succ m ih =>
    intro j fuel hj hf
    obtain ⟨fuel, rfl⟩ : ∃ f, fuel = f + 1 := ⟨fuel - 1, by omega⟩
    have hlt : j < vSiz V c := by omega
    have hcl : (nI (34 + 4 * c + j)).toNatClampNeg = 34 + 4 * c + j := nI_clamp (by omega)
    rw [fX5_ties_L9, es, Option.bind_some, if_pos (nI_lt hlt (by omega)), dg_rem hn, dg_div hn, m_cf _ (by omega) (by omega), nI_1, show (34 : Int32) = nI 34 from rfl, show (4 : Int32) = nI 4 from rfl, pk_mul, nI_add, nI_add, if_pos (by rw [nI_toInt (by omega)]; omega), hcl, Option.bind_some, hset_cel]
    show fX5_ties_L9 N (nI c) a2 fuel (nI (n / 10 ^ (j + 1))) (nI (j + 1)) (cel h 23 (upd (wr (h 23) (34 + 4 * c) j (digs n)) (34 + 4 * c + j) (nI (digs n j)))) = _
    rw [wr_s]
    exact ih (j + 1) fuel (by omega) (by omega)
def wk (cod f : Nat → Nat) : Nat → Nat
  | 0 => 0
  | s + 1 => wk cod f s + if cod s = f s then 0 else kn (cod s) + kn (f s)
theorem q_work {N k n : Nat} {h : Hp} {V : Vw} (hC : RowV (h 7) V) (hW : Wf k V) (hn : n < 2 ^ 31) {c : Nat} (hc : c < vN V) {a2 : Int32} : ∀ (m j fuel : Nat), j + m = vSiz V c → m < fuel → fX0_workToTell_L8 N h 7 (nI c) a2 fuel (nI (wk (vCod V c) (digs n) j)) (nI (n / 10 ^ j)) (nI j) = some (nI (wk (vCod V c) (digs n) (vSiz V c))) := by
  intro m
  have hs := hW.siz hc
  have hN := hW.n
  induction m with
  | zero =>
    intro j fuel hj hf
    obtain ⟨fuel, rfl⟩ : ∃ f, fuel = f + 1 := ⟨fuel - 1, by omega⟩
    rw [fX0_workToTell_L8, q_size hC hW hc, if_neg (nI_nlt (by omega) (by omega))]
    have : j = vSiz V c := by omega
    subst this; rfl
  | succ m ih =>
    intro j fuel hj hf
    obtain ⟨fuel, rfl⟩ : ∃ f, fuel = f + 1 := ⟨fuel - 1, by omega⟩
    have hlt : j < vSiz V c := by omega
    have hk := hW.cod hc hlt
    have hk2 := codOK_lt hk
    have hd : fX4_codeToTell h (nI (n / 10 ^ j % 10)) (nI j) = nI (digs n j) := q_cf _ (by omega) (by omega)
    have hdo := digs_ok n j
    have hd2 := codOK_lt hdo
    rw [fX0_workToTell_L8, q_size hC hW hc, if_pos (nI_lt hlt (by omega)), dg_rem hn, hd, Option.bind_some]
    unfold fX0_workToTell_J62
    rw [q_code hC hW hc hlt, q_kn h hk, q_kn h hdo, dg_div hn, nI_1, nI_add, if_nI (by omega) (by omega)]
    have hi := ih (j + 1) fuel (by omega) (by omega)
    rw [show wk (vCod V c) (digs n) (j + 1) = wk (vCod V c) (digs n) j + (if vCod V c j = digs n j then 0 else kn (vCod V c j) + kn (digs n j)) from rfl] at hi
    by_cases h1 : vCod V c j = digs n j
    · rw [if_pos h1] at hi ⊢
      rw [show (0 : Int32) = nI 0 from rfl, nI_add]
      exact hi
    · rw [if_neg h1] at hi ⊢
      rw [nI_add]
      exact hi
theorem m_work {N k n : Nat} {h : Hp} {V : Vw} (hM : ModV (h 23) V) (hW : Wf k V) (hn : n < 2 ^ 31) {c : Nat} (hc : c < vN V) {a2 : Int32} : ∀ (m j fuel : Nat), j + m = vSiz V c → m < fuel → fX5_workFor_L8 N h (nI c) a2 fuel (nI (wk (vCod V c) (digs n) j)) (nI (n / 10 ^ j)) (nI j) = some (nI (wk (vCod V c) (digs n) (vSiz V c))) := by
  intro m
  have hs := hW.siz hc
  have hN := hW.n
  induction m with
  | zero =>
    intro j fuel hj hf
    obtain ⟨fuel, rfl⟩ : ∃ f, fuel = f + 1 := ⟨fuel - 1, by omega⟩
    rw [fX5_workFor_L8, r_siz hM hW hc, Option.bind_some, if_neg (nI_nlt (by omega) (by omega))]
    have : j = vSiz V c := by omega
    subst this; rfl
  | succ m ih =>
    intro j fuel hj hf
    obtain ⟨fuel, rfl⟩ : ∃ f, fuel = f + 1 := ⟨fuel - 1, by omega⟩
    have hlt : j < vSiz V c := by omega
    have hk := hW.cod hc hlt
    have hk2 := codOK_lt hk
    have hd : fX5_clusterFor h (nI (n / 10 ^ j % 10)) (nI j) = nI (digs n j) := m_cf _ (by omega) (by omega)
    have hdo := digs_ok n j
    have hd2 := codOK_lt hdo
    rw [fX5_workFor_L8, r_siz hM hW hc, Option.bind_some, if_pos (nI_lt hlt (by omega)), dg_rem hn, hd, Option.bind_some, m_knot0 hM hW hc hlt, Option.bind_some, Option.bind_some, Option.bind_some, m_kn h hk2, m_kn h hd2, dg_div hn, nI_1, nI_add, if_nI (by omega) (by omega)]
    have hi := ih (j + 1) fuel (by omega) (by omega)
    rw [show wk (vCod V c) (digs n) (j + 1) = wk (vCod V c) (digs n) j + (if vCod V c j = digs n j then 0 else kn (vCod V c j) + kn (digs n j)) from rfl] at hi
    by_cases h1 : vCod V c j = digs n j
    · rw [if_pos h1] at hi
      rw [if_pos h1.symm, show (0 : Int32) = nI 0 from rfl, nI_add]
      exact hi
    · rw [if_neg h1] at hi
      rw [if_neg (fun q => h1 q.symm), nI_add, Nat.add_comm (kn (digs n j))]
      exact hi
theorem m_pow_L {N : Nat} {h : Hp} {s : Nat} (hs : s < 10) : ∀ (m j fuel : Nat), j + m = s → m < fuel → fX5_power_L4 N h (nI s) fuel (nI (10 ^ j)) (nI j) = some (nI (10 ^ s)) := by
  intro m
  induction m with
  | zero =>
    intro j fuel hj hf
    obtain ⟨fuel, rfl⟩ : ∃ f, fuel = f + 1 := ⟨fuel - 1, by omega⟩
    rw [fX5_power_L4, if_neg (nI_nlt (by omega) (by omega))]
    have : j = s := by omega
    subst this; rfl
  | succ m ih =>
    intro j fuel hj hf
    obtain ⟨fuel, rfl⟩ : ∃ f, fuel = f + 1 := ⟨fuel - 1, by omega⟩
    rw [fX5_power_L4, if_pos (nI_lt (by omega) (by omega)), show (10 : Int32) = nI 10 from rfl, pk_mul, nI_1, ← Nat.pow_succ]
    exact ih (j + 1) fuel (by omega) (by omega)
theorem m_pow {N : Nat} {h : Hp} {s : Nat} (hs : s < 10) (hN : 10 ≤ N) : fX5_power N h (nI s) = some (nI (10 ^ s)) := m_pow_L (h := h) hs s 0 N (by omega) (by omega)
/-- a number between bounds -/
theorem bd_case {n : Nat} (h0 : 0 < n) (hn : n < 2 ^ 30) (y : Int32) : (∃ j, j < n ∧ y = nI j ∧ ¬ y < 0 ∧ ¬ nI n - 1 < y ∧ y < nI n) ∨ y < 0 ∨ (¬ y < 0 ∧ nI n - 1 < y ∧ ¬ y < nI n) := by
  rcases pk_ix y (n := n) (by omega) with q | q | ⟨j, hj, rfl⟩
  · exact Or.inr (Or.inl q)
  · by_cases h1 : y < 0
    · exact Or.inr (Or.inl h1)
    · refine Or.inr (Or.inr ⟨h1, ?_, i_nlt q⟩)
      have := i_nlt q
      rw [Int32.lt_iff_toInt_lt, nI_toInt (by omega)] at this
      rw [Int32.lt_iff_toInt_lt, nI_pred_toInt hn]
      omega
  · refine Or.inl ⟨j, hj, rfl, nI_pos (by omega), ?_, nI_lt hj (by omega)⟩
    rw [show (1 : Int32) = nI 1 from rfl, pk_sub (by omega)]
    exact nlt_lit (by omega) (by omega) (by omega)
theorem in_bd {n : Nat} (hn : n < 2 ^ 30) {h : Hp} {y : Int32} (hy : y < 0 ∨ (¬ y < 0 ∧ nI n - 1 < y ∧ ¬ y < nI n)) : fX5_in h y.toInt64 0 (nI n - 1).toInt64 = 0 := by
  rcases in_nI h hn y with ⟨h1, j, hj, rfl⟩ | ⟨h1, h2⟩
  · rcases hy with q | ⟨q1, q2, q3⟩
    · exact absurd q (nI_pos (by omega))
    · exact absurd (nI_lt hj (by omega)) q3
  · exact h1
theorem in_bd1 {n : Nat} (hn : n < 2 ^ 30) {h : Hp} {j : Nat} (hj : j < n) : fX5_in h (nI j).toInt64 0 (nI n - 1).toInt64 = 1 := by
  rcases in_nI h hn (nI j) with ⟨h1, _⟩ | ⟨h1, h2⟩
  · exact h1
  · exact absurd rfl (h2 j hj)
theorem q_most {h : Hp} {r k : Nat} {V : Vw} (hV : RowV (h r) V) (hW : Wf k V) {c : Nat} (hc : c < vN V) : fX0_mostOn h r (nI c) = nI (10 ^ vSiz V c) - 1 := by
  have hs := hW.siz hc
  unfold fX0_mostOn
  rw [q_size hV hW hc, tens_dec _ (by omega)]
theorem ten_lt {k : Nat} {V : Vw} (hW : Wf k V) {c : Nat} (hc : c < vN V) : 0 < 10 ^ vSiz V c ∧ 10 ^ vSiz V c ≤ 10000 := by
  have hs := hW.siz hc
  exact ⟨Nat.pow_pos (by omega), Nat.le_trans (Nat.pow_le_pow_right (n := 10) (by omega) hs) (by decide)⟩
/-- the class tells n on cord c, and the reference does -/
theorem tells {N k : Nat} {h : Hp} {V : Vw} (hN : 70000 ≤ N) (hR : RR k h) (hW : Wf k V) (hC : RowV (h 7) V) (hM : ModV (h 23) V) {c n : Nat} (hc : c < vN V) (hn : n < 2 ^ 31) : ∃ ha0 ha hb : Hp, fX3_add N h 8 9 1432 7 179 = some (0, ha0) ∧ fX0_tell N ha0 7 (nI c) (nI n) = some (0, ha) ∧ ha 23 = h 23 ∧ fX5_ties N ha (nI c) (nI n) = some (0, hb) ∧ RR (k + 1) hb := by
  obtain ⟨ha0, q1, q7, q23, qf⟩ := change hN hR
  have hs := hW.siz hc
  have hn16 := hW.n
  obtain ⟨hb0, r1, r23, rg⟩ := qf (wr (h 7) (112 + 4 * c) (vSiz V c) (digs n))
  refine ⟨ha0, cel ha0 7 (wr (h 7) (112 + 4 * c) (vSiz V c) (digs n)), cel hb0 23 (wr (h 23) (34 + 4 * c) (vSiz V c) (digs n)), q1, ?_, by rw [cel_o (by decide), q23], ?_, rg _ (BR.of (hW.set (c := c) (f := digs n) (fun j _ => digs_ok n j)) (hC.set hW hc (fun i hi => wr_out (by omega)) (fun d j hd h16 hj => wr_out (by omega)) (fun j hj => wr_in hj)) (hM.set hW hc (fun i hi => wr_out (by omega)) (fun d j hd h16 hj => wr_out (by omega)) (fun j hj => wr_in hj)))⟩
  · have := tell_L (N := N) (h := ha0) (n := n) (by rw [q7]; exact hC) hW hn hc (a2 := nI n) (vSiz V c) 0 N (by omega) (by omega)
    rw [wr_0, cel_id, Nat.pow_zero, Nat.div_one, q7] at this
    exact this
  · have := ties_L (N := N) (h := hb0) (n := n) (by rw [r23]; exact hM) hW hn hc (a2 := nI n) (vSiz V c) 0 N (by omega) (by omega)
    rw [wr_0, cel_id, Nat.pow_zero, Nat.div_one, r23] at this
    unfold fX5_ties
    rw [r1, Option.bind_some]
    exact this
theorem MRd {h h1 : Hp} (e : h1 23 = h 23) {V : Vw} (hM : ModV (h 23) V) : ModV (h1 23) V := by rw [e]; exact hM
theorem st_tie (N : Nat) (hN : 70000 ≤ N) : SF_tie N RR := by
  intro k h hk hR a1 a2
  obtain ⟨hT, hD, ⟨V, hW, hC, hM⟩, hU, hK⟩ := id hR
  have hn := hW.n
  unfold fX4_tie fX5_tie
  rcases cord_case hC hM hW a1 with ⟨h1, h2⟩ | ⟨h1, h2, c, hc, rfl⟩
  · exact ⟨-1, h, h, by rw [h1, if_pos rfl], by rw [h2, if_pos rfl], RR_mono k h hR⟩
  have ht := ten_lt hW hc
  have hs := hW.siz hc
  rw [h1, if_neg n10, q_most hC hW hc]
  rcases bd_case ht.1 (by omega) a2 with ⟨n, hlt, rfl, b1, b2, b3⟩ | b1 | ⟨b1, b2, b3⟩
  · obtain ⟨ha0, ha, hb, e1, e2, e23, e3, e4⟩ := tells hN hR hW hC hM hc (n := n) (by omega)
    have hM1 : ModV (ha 23) V := MRd e23 hM
    refine ⟨nI (wk (vCod V c) (digs n) (vSiz V c)), ha, hb, ?_, ?_, e4⟩
    · have := q_work (N := N) (h := h) (n := n) hC hW (by omega) hc (a2 := nI n) (vSiz V c) 0 N (by omega) (by omega)
      rw [Nat.pow_zero, Nat.div_one] at this
      have e : fX0_workToTell N h 7 (nI c) (nI n) = some (nI (wk (vCod V c) (digs n) (vSiz V c))) := this
      rw [if_neg b1, if_neg b2, e, Option.bind_some, e1, Option.bind_some]
      show (fX0_tell N ha0 7 (nI c) (nI n)).bind _ = _
      rw [e2]; rfl
    · have := m_work (N := N) (h := ha) (n := n) hM1 hW (by omega) hc (a2 := nI n) (vSiz V c) 0 N (by omega) (by omega)
      rw [Nat.pow_zero, Nat.div_one] at this
      have e : fX5_workFor N ha (nI c) (nI n) = some (nI (wk (vCod V c) (digs n) (vSiz V c))) := this
      have e0 : fX5_isCord ha (nI c) = 1 := by rw [← h2]; unfold fX5_isCord; rw [e23]; rfl
      rw [e0, if_neg n10, if_neg b1, r_siz hM1 hW hc, Option.bind_some, m_pow (by omega) (by omega), Option.bind_some, if_pos b3, e, Option.bind_some, e3]; rfl
  · exact ⟨-1, h, h, by rw [if_pos b1], by rw [h2, if_neg n10, if_pos b1], RR_mono k h hR⟩
  · exact ⟨-2, h, h, by rw [if_neg b1, if_pos b2], by rw [h2, if_neg n10, if_neg b1, r_siz hM hW hc, Option.bind_some, m_pow (by omega) (by omega), Option.bind_some, if_neg b3], RR_mono k h hR⟩
theorem st_more (N : Nat) (hN : 70000 ≤ N) : SF_more N RR := by
  intro k h hk hR a1 a2
  obtain ⟨hT, hD, ⟨V, hW, hC, hM⟩, hU, hK⟩ := id hR
  have hn := hW.n
  unfold fX4_more fX5_more
  rcases cord_case hC hM hW a1 with ⟨h1, h2⟩ | ⟨h1, h2, c, hc, rfl⟩
  · exact ⟨-1, h, h, by rw [h1, if_pos rfl], by rw [h2, if_pos rfl], RR_mono k h hR⟩
  have ht := ten_lt hW hc
  have hs := hW.siz hc
  rw [h1, if_neg n10, q_most hC hW hc, q_value hC hW (by omega) hc, Option.bind_some]
  have t9 : (-9999 : Int32).toInt = -9999 := rfl
  have u9 : (9999 : Int32).toInt = 9999 := rfl
  have t9' : (-9999 : Int64).toInt = -9999 := rfl
  have u9' : (9999 : Int64).toInt = 9999 := rfl
  by_cases r1 : a2 < -9999
  · refine ⟨-1, h, h, by rw [if_pos r1], ?_, RR_mono k h hR⟩
    rw [Int32.lt_iff_toInt_lt, t9] at r1
    rw [h2, if_neg n10, in_no h (by rw [Int32.toInt_toInt64, t9', u9']; omega), if_pos rfl]
  by_cases r2 : 9999 < a2
  · refine ⟨-1, h, h, by rw [if_neg r1, if_pos r2], ?_, RR_mono k h hR⟩
    rw [Int32.lt_iff_toInt_lt, u9] at r2
    rw [h2, if_neg n10, in_no h (by rw [Int32.toInt_toInt64, t9', u9']; omega), if_pos rfl]
  rw [if_neg r1, if_neg r2]
  have rin : ∀ h', fX5_in h' a2.toInt64 (-9999) 9999 = 1 := fun h' => by
    rw [Int32.lt_iff_toInt_lt, t9] at r1
    rw [Int32.lt_iff_toInt_lt, u9] at r2
    exact in_yes h' (by rw [Int32.toInt_toInt64, t9']; omega) (by rw [Int32.toInt_toInt64, u9']; omega)
  cases hv : vVal V c with
  | none => exact ⟨-2, h, h, by rw [if_pos (show encP none = -4 from rfl)], by rw [h2, if_neg n10, rin, if_neg n10, m_value hM hW (by omega) hc, Option.bind_some, Option.bind_some, hv, if_pos (show encP none = -4 from rfl)], RR_mono k h hR⟩
  | some x =>
    have hx := vVal_lt hW hc hv
    have hx4 : ¬ encP (some x) = -4 := encP_ne (by omega)
    rw [if_neg hx4, show encP (some x) = nI x from rfl]
    rcases bd_case ht.1 (by omega) (nI x + a2) with ⟨n, hlt, e, b1, b2, b3⟩ | b1 | ⟨b1, b2, b3⟩
    · obtain ⟨ha0, ha, hb, e1, e2, e23, e3, e4⟩ := tells hN hR hW hC hM hc (n := n) (by omega)
      have hM1 : ModV (ha 23) V := MRd e23 hM
      rw [e] at b1 b2 b3 ⊢
      refine ⟨nI n, ha, hb, ?_, ?_, e4⟩
      · rw [if_neg b1, if_neg b2, e1, Option.bind_some]
        show (fX0_tell N ha0 7 (nI c) (nI n)).bind _ = _
        rw [e2]; rfl
      · have e0 : fX5_isCord ha (nI c) = 1 := by rw [← h2]; unfold fX5_isCord; rw [e23]; rfl
        rw [e0, if_neg n10, rin, if_neg n10, m_value hM1 hW (by omega) hc, Option.bind_some, Option.bind_some, hv, if_neg hx4, r_siz hM1 hW hc, Option.bind_some, m_pow (by omega) (by omega), Option.bind_some, show encP (some x) = nI x from rfl, e, in_bd1 (by omega) hlt, if_neg n10, e3]; rfl
    · refine ⟨-2, h, h, by rw [if_pos b1], ?_, RR_mono k h hR⟩
      rw [h2, if_neg n10, rin, if_neg n10, m_value hM hW (by omega) hc, Option.bind_some, Option.bind_some, hv, if_neg hx4, r_siz hM hW hc, Option.bind_some, m_pow (by omega) (by omega), Option.bind_some, show encP (some x) = nI x from rfl, in_bd (by omega) (Or.inl b1), if_pos rfl]
    · refine ⟨-2, h, h, by rw [if_neg b1, if_pos b2], ?_, RR_mono k h hR⟩
      rw [h2, if_neg n10, rin, if_neg n10, m_value hM hW (by omega) hc, Option.bind_some, Option.bind_some, hv, if_neg hx4, r_siz hM hW hc, Option.bind_some, m_pow (by omega) (by omega), Option.bind_some, show encP (some x) = nI x from rfl, in_bd (by omega) (Or.inr ⟨b1, b2, b3⟩), if_pos rfl]
/-- type and count -/
theorem knot_dec : ∀ j, j < 10 → ((1 ≤ j → fX4_canCount (fun _ _ => 0) 1 (nI j) = 1) ∧ (2 ≤ j → fX4_canCount (fun _ _ => 0) 2 (nI j) = 1) ∧ fX4_canCount (fun _ _ => 0) 2 1 = 0) ∧ fX5_isKnot (fun _ _ => 0) 1 (nI j) = fX4_canCount (fun _ _ => 0) 1 (nI j) ∧ fX5_isKnot (fun _ _ => 0) 2 (nI j) = fX4_canCount (fun _ _ => 0) 2 (nI j) := by decide +kernel
theorem knot_case (h h' : Hp) (a3 a4 : Int32) : (fX4_canCount h a3 a4 = 0 ∧ fX5_isKnot h' a3 a4 = 0) ∨ (fX4_canCount h a3 a4 = 1 ∧ fX5_isKnot h' a3 a4 = 1 ∧ ∃ v, codOK v ∧ 10 * a3 + a4 = nI v) := by
  unfold fX4_canCount fX5_isKnot
  have e1 : (1 : Int32).toInt = 1 := rfl
  have e9 : (9 : Int32).toInt = 9 := rfl
  have e2 : (2 : Int32).toInt = 2 := rfl
  have f1 : (1 : Int64).toInt = 1 := rfl
  have f9 : (9 : Int64).toInt = 9 := rfl
  have f2 : (2 : Int64).toInt = 2 := rfl
  have hj : 0 ≤ a4.toInt → a4.toInt ≤ 9 → a4 = nI a4.toInt.toNat := fun q1 q2 => by
    apply Int32.toInt_inj.mp
    rw [nI_toInt (by omega)]
    omega
  by_cases c0 : a3 = 0
  · subst c0
    rw [if_pos rfl, if_pos rfl]
    by_cases d0 : a4 = 0
    · subst d0
      rw [if_pos rfl]
      exact Or.inr ⟨rfl, rfl, 0, Or.inl rfl, rfl⟩
    · rw [if_neg d0]; exact Or.inl ⟨rfl, rfl⟩
  rw [if_neg c0, if_neg c0]
  by_cases c1 : a3 = 1
  · subst c1
    rw [if_pos rfl, if_pos rfl]
    simp only [Int32.lt_iff_toInt_lt, e1, e9]
    by_cases d1 : a4.toInt < 1
    · rw [if_pos d1, in_no h' (by rw [Int32.toInt_toInt64, f1, f9]; omega)]; exact Or.inl ⟨rfl, rfl⟩
    rw [if_neg d1]
    by_cases d2 : 9 < a4.toInt
    · rw [if_pos d2, in_no h' (by rw [Int32.toInt_toInt64, f1, f9]; omega)]; exact Or.inl ⟨rfl, rfl⟩
    rw [if_neg d2, in_yes h' (by rw [Int32.toInt_toInt64, f1]; omega) (by rw [Int32.toInt_toInt64, f9]; omega)]
    refine Or.inr ⟨rfl, rfl, 10 + a4.toInt.toNat, Or.inr (Or.inl (by omega)), ?_⟩
    rw [← nI_add, ← hj (by omega) (by omega)]; rfl
  rw [if_neg c1, if_neg c1]
  by_cases c2 : a3 = 2
  · subst c2
    rw [if_pos rfl, if_pos rfl]
    simp only [Int32.lt_iff_toInt_lt, e2, e9]
    by_cases d1 : a4.toInt < 2
    · rw [if_pos d1, in_no h' (by rw [Int32.toInt_toInt64, f2, f9]; omega)]; exact Or.inl ⟨rfl, rfl⟩
    rw [if_neg d1]
    by_cases d2 : 9 < a4.toInt
    · rw [if_pos d2, in_no h' (by rw [Int32.toInt_toInt64, f2, f9]; omega)]; exact Or.inl ⟨rfl, rfl⟩
    rw [if_neg d2, in_yes h' (by rw [Int32.toInt_toInt64, f2]; omega) (by rw [Int32.toInt_toInt64, f9]; omega)]
    refine Or.inr ⟨rfl, rfl, 20 + a4.toInt.toNat, Or.inr (Or.inr (Or.inl (by omega))), ?_⟩
    rw [← nI_add, ← hj (by omega) (by omega)]; rfl
  rw [if_neg c2, if_neg c2]
  by_cases c3 : a3 = 3
  · subst c3
    rw [if_pos rfl]
    by_cases d1 : a4 = 1
    · subst d1
      rw [if_pos rfl]
      exact Or.inr ⟨rfl, rfl, 31, Or.inr (Or.inr (Or.inr rfl)), rfl⟩
    · rw [if_neg d1]; exact Or.inl ⟨rfl, rfl⟩
  rw [if_neg c3]
  exact Or.inl ⟨rfl, rfl⟩
theorem st_knot (N : Nat) (hN : 70000 ≤ N) : SF_knot N RR := by
  intro k h hk hR a1 a2 a3 a4
  obtain ⟨hT, hD, ⟨V, hW, hC, hM⟩, hU, hK⟩ := id hR
  have hn := hW.n
  unfold fX4_knot fX5_knot fX0_hasCluster
  rcases cord_case hC hM hW a1 with ⟨h1, h2⟩ | ⟨h1, h2, c, hc, rfl⟩
  · exact ⟨-1, h, h, by rw [h1, if_pos rfl, if_pos rfl], by rw [h2, if_pos rfl], RR_mono k h hR⟩
  have hs := hW.siz hc
  have hs1 := hW.siz1 hc
  rw [h1, if_neg n10, q_size hC hW hc]
  rcases bd_case (n := vSiz V c) (by omega) (by omega) a2 with ⟨j, hlt, rfl, b1, b2, b3⟩ | b1 | ⟨b1, b2, b3⟩
  · rcases knot_case h h a3 a4 with ⟨k1, k2⟩ | ⟨k1, k2, v, hv, hev⟩
    · exact ⟨-1, h, h, by rw [if_neg b1, if_pos b3, if_neg n10, k1, if_pos rfl], by rw [h2, if_neg n10, r_siz hM hW hc, Option.bind_some, in_bd1 (by omega) hlt, if_neg n10, k2, if_pos rfl], RR_mono k h hR⟩
    obtain ⟨ha0, q1, q7, q23, qf⟩ := change hN hR
    obtain ⟨hb0, r1, r23, rg⟩ := qf (upd (h 7) (112 + 4 * c + j) (nI v))
    obtain ⟨f, hf⟩ : ∃ f : Nat → Nat, f = fun i => if i = j then v else vCod V c i := ⟨_, rfl⟩
    have hW' : Wf k (vSet V c f) := hW.set (fun i hi => by
      rw [hf]
      show codOK (if i = j then v else vCod V c i)
      split
      · exact hv
      · exact hW.cod hc hi)
    have hC' : RowV (upd (h 7) (112 + 4 * c + j) (nI v)) (vSet V c f) := hC.set hW hc (fun i hi => pk_un (by omega)) (fun d i hd h16 hi => pk_un (by omega)) (fun i hi => by
      rw [hf]
      show _ = nI (if i = j then v else vCod V c i)
      by_cases hij : i = j
      · subst hij; rw [pk_us, if_pos rfl]
      · rw [pk_un (by omega), if_neg hij]; exact (hC.c hc).2.2.2.2.2.2 i hi)
    have hM' : ModV (upd (h 23) (34 + 4 * c + j) (nI v)) (vSet V c f) := hM.set hW hc (fun i hi => pk_un (by omega)) (fun d i hd h16 hi => pk_un (by omega)) (fun i hi => by
      rw [hf]
      show _ = nI (if i = j then v else vCod V c i)
      by_cases hij : i = j
      · subst hij; rw [pk_us, if_pos rfl]
      · rw [pk_un (by omega), if_neg hij]; exact (hM.c hc).2.2.2.2.2.2 i hi)
    refine ⟨nI (vKn (vSet V c f) c), cel ha0 7 (upd (h 7) (112 + 4 * c + j) (nI v)), cel hb0 23 (upd (h 23) (34 + 4 * c + j) (nI v)), ?_, ?_, rg _ (BR.of hW' hC' hM')⟩
    · rw [if_neg b1, if_pos b3, if_neg n10, k1, if_neg n10, q1, Option.bind_some]
      show (fX0_setCode ha0 7 (nI c) (nI j) (10 * a3 + a4)).bind _ = _
      unfold fX0_setCode
      rw [show (112 : Int32) = nI 112 from rfl, show (4 : Int32) = nI 4 from rfl, pk_mul, nI_add, nI_add, put_nI (by omega) (by omega), Option.bind_some, Option.bind_some, hev, hset_c, q7]
      show (fX0_knotsOf N (cel ha0 7 (upd (h 7) (112 + 4 * c + j) (nI v))) 7 (nI c)).bind _ = _
      have := q_knots (N := N) (h := cel ha0 7 (upd (h 7) (112 + 4 * c + j) (nI v))) (r := 7) (by rw [cel_s]; exact hC') hW' (by omega) hc
      rw [this]; rfl
    · have e0 : fX5_isCord (cel ha0 7 (upd (h 7) (112 + 4 * c + j) (nI v))) (nI c) = 1 := by rw [← h2]; unfold fX5_isCord; rw [cel_o (by decide), q23]; rfl
      have hM1 : ModV (cel ha0 7 (upd (h 7) (112 + 4 * c + j) (nI v)) 23) V := by rw [cel_o (by decide), q23]; exact hM
      have hcl : (nI (34 + 4 * c + j)).toNatClampNeg = 34 + 4 * c + j := nI_clamp (by omega)
      rw [e0, if_neg n10, r_siz hM1 hW hc, Option.bind_some, in_bd1 (by omega) hlt, if_neg n10, show fX5_isKnot (cel ha0 7 (upd (h 7) (112 + 4 * c + j) (nI v))) a3 a4 = 1 from k2, if_neg n10, r1, Option.bind_some, hev, show (34 : Int32) = nI 34 from rfl, show (4 : Int32) = nI 4 from rfl, pk_mul, nI_add, nI_add, if_pos (by rw [nI_toInt (by omega)]; omega), hcl, Option.bind_some]
      show (fX5_knots_ N (hset hb0 23 (34 + 4 * c + j) (nI v)) (nI c)).bind _ = _
      rw [hset_c, r23]
      have := m_knots (N := N) (h := cel hb0 23 (upd (h 23) (34 + 4 * c + j) (nI v))) (by rw [cel_s]; exact hM') hW' (by omega) hc
      rw [this]; rfl
  · exact ⟨-1, h, h, by rw [if_pos b1, if_pos rfl], by rw [h2, if_neg n10, r_siz hM hW hc, Option.bind_some, in_bd (by omega) (Or.inl b1), if_pos rfl], RR_mono k h hR⟩
  · exact ⟨-1, h, h, by rw [if_neg b1, if_neg b3, if_pos rfl], by rw [h2, if_neg n10, r_siz hM hW hc, Option.bind_some, in_bd (by omega) (Or.inr ⟨b1, b2, b3⟩), if_pos rfl], RR_mono k h hR⟩
