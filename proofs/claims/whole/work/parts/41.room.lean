/-! the room of a group's clusters: how far each place can go up and down -/
def tU (V : Vw) (c i : Nat) : Nat := if i < vSiz V c then (if vTop V c = true then vCod V c i % 10 else 9 - vCod V c i % 10) else 0
def tD (V : Vw) (c i : Nat) : Nat := if i < vSiz V c then (if vTop V c = true then 9 - vCod V c i % 10 else vCod V c i % 10) else 0
def upS (V : Vw) (g : Nat) : Nat → Nat → Nat
  | 0, _ => 0
  | j + 1, i => upS V g j i + (if gD V g j = true then tU V j i else 0)
def dnS (V : Vw) (g : Nat) : Nat → Nat → Nat
  | 0, _ => 0
  | j + 1, i => dnS V g j i + (if gD V g j = true then tD V j i else 0)
theorem tU_le (V : Vw) (c i : Nat) : tU V c i ≤ 9 := by unfold tU; split <;> (try split) <;> omega
theorem tD_le (V : Vw) (c i : Nat) : tD V c i ≤ 9 := by unfold tD; split <;> (try split) <;> omega
theorem upS_le (V : Vw) (g : Nat) : ∀ j i, upS V g j i ≤ 9 * j
  | 0, _ => by rw [upS]; omega
  | j + 1, i => by
    have := upS_le V g j i
    have := tU_le V j i
    rw [upS]
    split <;> omega
theorem dnS_le (V : Vw) (g : Nat) : ∀ j i, dnS V g j i ≤ 9 * j
  | 0, _ => by rw [dnS]; omega
  | j + 1, i => by
    have := dnS_le V g j i
    have := tD_le V j i
    rw [dnS]
    split <;> omega
def Ar (h : Hp) (p q : Nat) (A B : Nat → Nat) : Prop := ∀ i, i < 4 → h p i = nI (A i) ∧ h q i = nI (B i)
theorem fill_L {N n : Nat} {a : Int32} {q : Nat} (hn : n < 2 ^ 20) : ∀ (m j fuel : Nat) (h : Hp), j + m = n → m < fuel → (∀ i, i < j → h q i = a) → ∃ h' : Hp, fJ7_fill_53178_L5 N q n a fuel (nI j) (nI n) h = some (0, h') ∧ (∀ p, p ≠ q → h' p = h p) ∧ ∀ i, i < n → h' q i = a := by
  intro m
  induction m with
  | zero =>
    intro j fuel h hj hf hi
    obtain ⟨fuel, rfl⟩ : ∃ f, fuel = f + 1 := ⟨fuel - 1, by omega⟩
    refine ⟨h, ?_, fun _ _ => rfl, fun i hin => hi i (by omega)⟩
    rw [fJ7_fill_53178_L5, if_neg (nI_nlt (by omega) (by omega))]
  | succ m ih =>
    intro j fuel h hj hf hi
    obtain ⟨fuel, rfl⟩ : ∃ f, fuel = f + 1 := ⟨fuel - 1, by omega⟩
    have hcl : (nI j).toNatClampNeg = j := nI_clamp (by omega)
    obtain ⟨h', w1, w2, w3⟩ := ih (j + 1) fuel (hset h q j a) (by omega) (by omega) (fun i hij => by
      rw [hset_s]
      by_cases e : i = j
      · subst e; rw [pk_us]
      · rw [pk_un e]; exact hi i (by omega))
    refine ⟨h', ?_, fun p hp => by rw [w2 p hp, hset_o hp], w3⟩
    rw [fJ7_fill_53178_L5, if_pos (nI_lt (by omega) (by omega)), if_pos (by rw [nI_toInt (by omega)]; omega), hcl, Option.bind_some, nI_1]
    exact w1
theorem fill_all {N n : Nat} {a : Int32} {q : Nat} (hn : n < 2 ^ 20) (hN : n < N) (h : Hp) : ∃ h' : Hp, fJ7_fill_53178 N h q n a = some (0, h') ∧ (∀ p, p ≠ q → h' p = h p) ∧ ∀ i, i < n → h' q i = a := fill_L hn n 0 N h (by omega) hN (fun i hi => by omega)
section RO
variable {k0 N : Nat} {V : Vw}
theorem q_room_K (hW : Wf k0 V) {c g : Nat} (hc : c < vN V) (hg : g < 5) (hgd : gD V g c = true) (k18 : Int32 → Hp → Option Rs) : ∀ (m k fuel : Nat) (h : Hp) (A B : Nat → Nat), k + m = vSiz V c → m < fuel → RowV (h 7) V → Ar h 18 19 A B → ∃ h' : Hp, fX4_measureRoom_L31 N (nI g) k18 fuel (nI c) (nI k) h = k18 (nI (c + 1)) h' ∧ (∀ q, q ≠ 18 → q ≠ 19 → h' q = h q) ∧ Ar h' 18 19 (fun i => A i + if k ≤ i then tU V c i else 0) (fun i => B i + if k ≤ i then tD V c i else 0) := by
  intro m
  have hs := hW.siz hc
  have hn := hW.n
  induction m with
  | zero =>
    intro k fuel h A B hk hf hV hA
    obtain ⟨fuel, rfl⟩ : ∃ f, fuel = f + 1 := ⟨fuel - 1, by omega⟩
    refine ⟨h, ?_, fun _ _ _ => rfl, fun i hi => ?_⟩
    · rw [fX4_measureRoom_L31, q_isIn hV hW hc hg, hgd, show b2 true = (1 : Int32) from rfl, if_neg n10, q_size hV hW hc, if_neg (nI_nlt (by omega) (by omega)), nI_1]
    · have e1 : (if k ≤ i then tU V c i else 0) = 0 := by
        split
        · unfold tU; rw [if_neg (by omega)]
        · rfl
      have e2 : (if k ≤ i then tD V c i else 0) = 0 := by
        split
        · unfold tD; rw [if_neg (by omega)]
        · rfl
      show h 18 i = nI (A i + if k ≤ i then tU V c i else 0) ∧ h 19 i = nI (B i + if k ≤ i then tD V c i else 0)
      rw [e1, e2, Nat.add_zero, Nat.add_zero]
      exact hA i hi
  | succ m ih =>
    intro k fuel h A B hk hf hV hA
    obtain ⟨fuel, rfl⟩ : ∃ f, fuel = f + 1 := ⟨fuel - 1, by omega⟩
    have hkl : k < vSiz V c := by omega
    have hcl := codOK_lt (hW.cod hc hkl)
    have eU : tU V c k = (if vTop V c = true then vCod V c k % 10 else 9 - vCod V c k % 10) := by unfold tU; rw [if_pos hkl]
    have eD : tD V c k = (if vTop V c = true then 9 - vCod V c k % 10 else vCod V c k % 10) := by unfold tD; rw [if_pos hkl]
    have et : (if b2 (vTop V c) = 0 then (9 - nI (vCod V c k % 10) : Int32) else nI (vCod V c k % 10)) = nI (tU V c k) := by
      rw [b2_01, eU]
      split
      · rfl
      · rw [show (9 : Int32) = nI 9 from rfl, pk_sub (by omega)]
    have hUD : tD V c k = 9 - tU V c k := by
      rw [eU, eD]
      split <;> omega
    have hU9 := tU_le V c k
    obtain ⟨hA1, hA2⟩ := hA k (by omega)
    obtain ⟨h', w1, w2, w3⟩ := ih (k + 1) fuel (hset (hset h 18 k (nI (A k + tU V c k))) 19 k (nI (B k + tD V c k))) (fun i => A i + if i = k then tU V c k else 0) (fun i => B i + if i = k then tD V c k else 0) (by omega) (by omega) (by rw [hset_o (by decide), hset_o (by decide)]; exact hV) (fun i hi => by
      rw [hset_o (p := 18) (by decide), hset_s, hset_s, hset_o (p := 19) (by decide)]
      show upd (h 18) k _ i = nI (A i + if i = k then tU V c k else 0) ∧ upd (h 19) k _ i = nI (B i + if i = k then tD V c k else 0)
      by_cases e : i = k
      · subst e; rw [pk_us, pk_us, if_pos rfl, if_pos rfl]; exact ⟨rfl, rfl⟩
      · rw [pk_un e, pk_un e, if_neg e, if_neg e]; exact hA i hi)
    refine ⟨h', ?_, fun q q1 q2 => by rw [w2 q q1 q2, hset_o q2, hset_o q1], fun i hi => ?_⟩
    · rw [fX4_measureRoom_L31, q_isIn hV hW hc hg, hgd, show b2 true = (1 : Int32) from rfl, if_neg n10, q_size hV hW hc, if_pos (nI_lt hkl (by omega)), q_code hV hW hc hkl, q_count h hcl, Option.bind_some, q_top hV hW hc, et]
      unfold fX4_measureRoom_J90
      rw [at_nI (by omega) (by omega), put_nI (by omega) (by omega), Option.bind_some, at_nI (by omega) (by omega), put_nI (by omega) (by omega), Option.bind_some, hset_o (p := 19) (by decide), hA1, hA2, nI_add, show (9 : Int32) = nI 9 from rfl, nI_add, pk_sub (by omega), show B k + 9 - tU V c k = B k + tD V c k by omega, nI_1]
      exact w1
    · have := w3 i hi
      show h' 18 i = nI (A i + if k ≤ i then tU V c i else 0) ∧ h' 19 i = nI (B i + if k ≤ i then tD V c i else 0)
      by_cases e : i = k
      · subst e
        rw [if_pos (Nat.le_refl _), if_pos (Nat.le_refl _)]
        have e3 : ¬ i + 1 ≤ i := by omega
        simpa [e3] using this
      · by_cases e2 : k ≤ i
        · rw [if_pos e2, if_pos e2]
          have e3 : k + 1 ≤ i := by omega
          simpa [e, e3] using this
        · rw [if_neg e2, if_neg e2]
          have e3 : ¬ k + 1 ≤ i := by omega
          simpa [e, e3] using this
theorem q_room_C (hW : Wf k0 V) (hN : 20 ≤ N) {g : Nat} (hg : g < 5) : ∀ (m c fuel : Nat) (h : Hp), c + m = vN V → m < fuel → RowV (h 7) V → Ar h 18 19 (upS V g c) (dnS V g c) → ∃ h' : Hp, fX4_measureRoom_L18 N (nI g) fuel (nI c) h = some (0, h') ∧ (∀ q, q ≠ 18 → q ≠ 19 → h' q = h q) ∧ Ar h' 18 19 (upS V g (vN V)) (dnS V g (vN V)) := by
  intro m
  have hn := hW.n
  induction m with
  | zero =>
    intro c fuel h hc hf hV hA
    obtain ⟨fuel, rfl⟩ : ∃ f, fuel = f + 1 := ⟨fuel - 1, by omega⟩
    have : c = vN V := by omega
    subst this
    exact ⟨h, by rw [fX4_measureRoom_L18, q_cords hV, if_neg (nI_nlt (by omega) (by omega))], fun _ _ _ => rfl, hA⟩
  | succ m ih =>
    intro c fuel h hc hf hV hA
    obtain ⟨fuel, rfl⟩ : ∃ f, fuel = f + 1 := ⟨fuel - 1, by omega⟩
    have hlt : c < vN V := by omega
    have hs := hW.siz hlt
    rw [fX4_measureRoom_L18, q_cords hV, if_pos (nI_lt hlt (by omega))]
    cases hgd : gD V g c with
    | false =>
      obtain ⟨h', w1, w2, w3⟩ := ih (c + 1) fuel h (by omega) (by omega) hV (fun i hi => by
        rw [upS, dnS, hgd]
        exact hA i hi)
      refine ⟨h', ?_, w2, w3⟩
      obtain ⟨M, rfl⟩ : ∃ M, N = M + 1 := ⟨N - 1, by omega⟩
      rw [fX4_measureRoom_L31, q_isIn hV hW hlt hg, hgd, show b2 false = (0 : Int32) from rfl, if_pos rfl, nI_1]
      exact w1
    | true =>
      obtain ⟨h1, v1, v2, v3⟩ := q_room_K (N := N) hW hlt hg hgd (fX4_measureRoom_L18 N (nI g) fuel) (vSiz V c) 0 N h _ _ (by omega) (by omega) hV hA
      obtain ⟨h', w1, w2, w3⟩ := ih (c + 1) fuel h1 (by omega) (by omega) (by rw [v2 7 (by decide) (by decide)]; exact hV) (fun i hi => by
        have := v3 i hi
        rw [upS, dnS, hgd]
        simpa using this)
      exact ⟨h', v1.trans w1, fun q q1 q2 => by rw [w2 q q1 q2, v2 q q1 q2], w3⟩
theorem q_room (hW : Wf k0 V) (hN : 20 ≤ N) {g : Nat} (hg : g < 5) (h : Hp) (hV : RowV (h 7) V) : ∃ h' : Hp, fX4_measureRoom N h (nI g) = some (0, h') ∧ (∀ q, q ≠ 18 → q ≠ 19 → h' q = h q) ∧ Ar h' 18 19 (upS V g (vN V)) (dnS V g (vN V)) := by
  have hn := hW.n
  obtain ⟨h1, u1, u2, u3⟩ := fill_all (N := N) (n := 4) (a := 0) (q := 18) (by omega) (by omega) h
  obtain ⟨h2, v1, v2, v3⟩ := fill_all (N := N) (n := 4) (a := 0) (q := 19) (by omega) (by omega) h1
  obtain ⟨h', w1, w2, w3⟩ := q_room_C (N := N) hW hN hg (vN V) 0 N h2 (by omega) (by omega) (by rw [v2 7 (by decide), u2 7 (by decide)]; exact hV) (fun i hi => ⟨by rw [v2 18 (by decide), u3 i hi]; rfl, by rw [v3 i hi]; rfl⟩)
  refine ⟨h', ?_, fun q q1 q2 => by rw [w2 q q1 q2, v2 q q2, u2 q q1], w3⟩
  unfold fX4_measureRoom
  rw [u1, Option.bind_some]
  show (fJ7_fill_53178 N h1 19 4 0).bind _ = _
  rw [v1, Option.bind_some]
  exact w1
theorem m_room_J (hW : Wf k0 V) {c k : Nat} (hc : c < vN V) (hk : k < vSiz V c) {a1 : Int32} (k29 : Int32 → Hp → Option Rs) (k75 : Int32 → Int32 → Int32 → Hp → Option Rs) (h : Hp) (A B : Nat → Nat) (hV : ModV (h 23) V) (hA : Ar h 29 30 A B) : fX5_layRoom_J102 N a1 k29 k75 (nI c) (b2 (vTop V c)) (nI k) h = k75 (nI c) (b2 (vTop V c)) (nI (k + 1)) (hset (hset h 29 k (nI (A k + tU V c k))) 30 k (nI (B k + tD V c k))) := by
  have hs := hW.siz hc
  have hn := hW.n
  have hcl := codOK_lt (hW.cod hc hk)
  have eU : tU V c k = (if vTop V c = true then vCod V c k % 10 else 9 - vCod V c k % 10) := by unfold tU; rw [if_pos hk]
  have eD : tD V c k = (if vTop V c = true then 9 - vCod V c k % 10 else vCod V c k % 10) := by unfold tD; rw [if_pos hk]
  have hrem : (nI (vCod V c k) - nI (vCod V c k) / 10 * 10 : Int32) = nI (vCod V c k % 10) := pk_rem (d := 10) (by omega) (by omega) (by omega)
  have e9 : (9 - nI (vCod V c k % 10) : Int32) = nI (9 - vCod V c k % 10) := by rw [show (9 : Int32) = nI 9 from rfl, pk_sub (by omega)]
  have hin : 0 ≤ (nI k).toInt ∧ (nI k).toInt < (4 : Nat) := by rw [nI_toInt (by omega)]; omega
  have hclp : (nI k).toNatClampNeg = k := nI_clamp (by omega)
  obtain ⟨hA1, hA2⟩ := hA k (by omega)
  unfold fX5_layRoom_J102 fX5_layRoom_J136
  rw [m_knot0 hV hW hc hk, Option.bind_some, rd_nI (by omega) (by omega), Option.bind_some, hrem, if_pos hin, hclp, Option.bind_some, rd_nI (by omega) (by omega), Option.bind_some, hset_o (p := 30) (by decide), hA1, hA2, if_pos hin, if_pos hin, Option.bind_some, Option.bind_some, nI_1, e9, eU, eD]
  cases vTop V c with
  | false => rw [show b2 false = (0 : Int32) from rfl, if_pos rfl, if_pos rfl, if_neg (by decide), if_neg (by decide), nI_add, nI_add]
  | true => rw [show b2 true = (1 : Int32) from rfl, if_neg n10, if_neg n10, if_pos rfl, if_pos rfl, nI_add, nI_add]
theorem m_room_K (hW : Wf k0 V) {c g : Nat} (hc : c < vN V) (hg : g < 5) (hgd : gD V g c = true) (k29 : Int32 → Hp → Option Rs) : ∀ (m k fuel : Nat) (h : Hp) (A B : Nat → Nat), k + m = vSiz V c → m < fuel → ModV (h 23) V → Ar h 29 30 A B → ∃ h' : Hp, fX5_layRoom_L75 N (nI g) k29 fuel (nI c) (b2 (vTop V c)) (nI k) h = k29 (nI (c + 1)) h' ∧ (∀ q, q ≠ 29 → q ≠ 30 → h' q = h q) ∧ Ar h' 29 30 (fun i => A i + if k ≤ i then tU V c i else 0) (fun i => B i + if k ≤ i then tD V c i else 0) := by
  intro m
  have hs := hW.siz hc
  have hn := hW.n
  induction m with
  | zero =>
    intro k fuel h A B hk hf hV hA
    obtain ⟨fuel, rfl⟩ : ∃ f, fuel = f + 1 := ⟨fuel - 1, by omega⟩
    refine ⟨h, ?_, fun _ _ _ => rfl, fun i hi => ?_⟩
    · rw [fX5_layRoom_L75, r_siz hV hW hc, Option.bind_some, if_neg (nI_nlt (by omega) (by omega)), nI_1]
    · have e1 : (if k ≤ i then tU V c i else 0) = 0 := by
        split
        · unfold tU; rw [if_neg (by omega)]
        · rfl
      have e2 : (if k ≤ i then tD V c i else 0) = 0 := by
        split
        · unfold tD; rw [if_neg (by omega)]
        · rfl
      show h 29 i = nI (A i + if k ≤ i then tU V c i else 0) ∧ h 30 i = nI (B i + if k ≤ i then tD V c i else 0)
      rw [e1, e2, Nat.add_zero, Nat.add_zero]
      exact hA i hi
  | succ m ih =>
    intro k fuel h A B hk hf hV hA
    obtain ⟨fuel, rfl⟩ : ∃ f, fuel = f + 1 := ⟨fuel - 1, by omega⟩
    have hkl : k < vSiz V c := by omega
    obtain ⟨h', w1, w2, w3⟩ := ih (k + 1) fuel (hset (hset h 29 k (nI (A k + tU V c k))) 30 k (nI (B k + tD V c k))) (fun i => A i + if i = k then tU V c k else 0) (fun i => B i + if i = k then tD V c k else 0) (by omega) (by omega) (by rw [hset_o (by decide), hset_o (by decide)]; exact hV) (fun i hi => by
      rw [hset_o (p := 29) (by decide), hset_s, hset_s, hset_o (p := 30) (by decide)]
      show upd (h 29) k _ i = nI (A i + if i = k then tU V c k else 0) ∧ upd (h 30) k _ i = nI (B i + if i = k then tD V c k else 0)
      by_cases e : i = k
      · subst e; rw [pk_us, pk_us, if_pos rfl, if_pos rfl]; exact ⟨rfl, rfl⟩
      · rw [pk_un e, pk_un e, if_neg e, if_neg e]; exact hA i hi)
    refine ⟨h', ?_, fun q q1 q2 => by rw [w2 q q1 q2, hset_o q2, hset_o q1], fun i hi => ?_⟩
    · rw [← w1, fX5_layRoom_L75, r_siz hV hW hc, Option.bind_some, if_pos (nI_lt hkl (by omega)), m_room_J hW hc hkl _ _ h A B hV hA]
      cases ht : vTop V c with
      | true => rw [show b2 true = (1 : Int32) from rfl, if_neg n10]
      | false =>
        have hig : inG V g c = true := by
          unfold gD at hgd
          rw [Bool.and_eq_true] at hgd
          unfold inG isPl
          rw [hgd.1, ht, hgd.2]
          simp
        rw [show b2 false = (0 : Int32) from rfl, if_pos rfl, m_isOf hV hW hc (by omega), hig, Option.bind_some, show b2 true = (1 : Int32) from rfl, if_neg n10]
    · have := w3 i hi
      show h' 29 i = nI (A i + if k ≤ i then tU V c i else 0) ∧ h' 30 i = nI (B i + if k ≤ i then tD V c i else 0)
      by_cases e : i = k
      · subst e
        rw [if_pos (Nat.le_refl _), if_pos (Nat.le_refl _)]
        have e3 : ¬ i + 1 ≤ i := by omega
        simpa [e3] using this
      · by_cases e2 : k ≤ i
        · rw [if_pos e2, if_pos e2]
          have e3 : k + 1 ≤ i := by omega
          simpa [e, e3] using this
        · rw [if_neg e2, if_neg e2]
          have e3 : ¬ k + 1 ≤ i := by omega
          simpa [e, e3] using this
theorem m_room_C (hW : Wf k0 V) (hN : 20 ≤ N) {g : Nat} (hg : g < 5) : ∀ (m c fuel : Nat) (h : Hp), c + m = vN V → m < fuel → ModV (h 23) V → Ar h 29 30 (upS V g c) (dnS V g c) → ∃ h' : Hp, fX5_layRoom_L29 N (nI g) fuel (nI c) h = some (0, h') ∧ (∀ q, q ≠ 29 → q ≠ 30 → h' q = h q) ∧ Ar h' 29 30 (upS V g (vN V)) (dnS V g (vN V)) := by
  intro m
  have hn := hW.n
  induction m with
  | zero =>
    intro c fuel h hc hf hV hA
    obtain ⟨fuel, rfl⟩ : ∃ f, fuel = f + 1 := ⟨fuel - 1, by omega⟩
    have : c = vN V := by omega
    subst this
    exact ⟨h, by rw [fX5_layRoom_L29, hV.1, if_neg (nI_nlt (by omega) (by omega))], fun _ _ _ => rfl, hA⟩
  | succ m ih =>
    intro c fuel h hc hf hV hA
    obtain ⟨fuel, rfl⟩ : ∃ f, fuel = f + 1 := ⟨fuel - 1, by omega⟩
    have hlt : c < vN V := by omega
    have hs := hW.siz hlt
    have hs1 := hW.siz1 hlt
    have hgl := grp_lt hW hlt
    have htp : vTop V c = true → vPar V c = none := fun ht => by
      cases hp : vPar V c with
      | none => rfl
      | some p => have := ((hW.c hlt).2.2.2.2.2.1 p hp).2.2.2; rw [ht] at this; cases this
    have yes : gD V g c = true → ∃ h' : Hp, fX5_layRoom_L75 N (nI g) (fX5_layRoom_L29 N (nI g) fuel) N (nI c) (b2 (vTop V c)) 0 h = some (0, h') ∧ (∀ q, q ≠ 29 → q ≠ 30 → h' q = h q) ∧ Ar h' 29 30 (upS V g (vN V)) (dnS V g (vN V)) := fun hgd => by
      obtain ⟨h1, v1, v2, v3⟩ := m_room_K (N := N) hW hlt hg hgd (fX5_layRoom_L29 N (nI g) fuel) (vSiz V c) 0 N h _ _ (by omega) (by omega) hV hA
      obtain ⟨h', w1, w2, w3⟩ := ih (c + 1) fuel h1 (by omega) (by omega) (by rw [v2 23 (by decide) (by decide)]; exact hV) (fun i hi => by
        have := v3 i hi
        rw [upS, dnS, hgd]
        simpa using this)
      exact ⟨h', v1.trans w1, fun q q1 q2 => by rw [w2 q q1 q2, v2 q q1 q2], w3⟩
    have no : gD V g c = false → inG V g c = false → ∃ h' : Hp, fX5_layRoom_L75 N (nI g) (fX5_layRoom_L29 N (nI g) fuel) N (nI c) 0 0 h = some (0, h') ∧ (∀ q, q ≠ 29 → q ≠ 30 → h' q = h q) ∧ Ar h' 29 30 (upS V g (vN V)) (dnS V g (vN V)) := fun hgd hig => by
      obtain ⟨h', w1, w2, w3⟩ := ih (c + 1) fuel h (by omega) (by omega) hV (fun i hi => by
        rw [upS, dnS, hgd]
        exact hA i hi)
      refine ⟨h', ?_, w2, w3⟩
      obtain ⟨M, rfl⟩ : ∃ M, N = M + 1 := ⟨N - 1, by omega⟩
      rw [fX5_layRoom_L75, r_siz hV hW hlt, Option.bind_some, if_pos (show (0 : Int32) < nI (vSiz V c) from nI_lt (a := 0) (by omega) (by omega)), if_pos rfl, m_isOf hV hW hlt (by omega), hig, Option.bind_some, show b2 false = (0 : Int32) from rfl, if_pos rfl, nI_1]
      exact w1
    rw [fX5_layRoom_L29, hV.1, if_pos (nI_lt hlt (by omega)), r_top hV hW hlt, Option.bind_some]
    cases ht : vTop V c with
    | true =>
      have hpn := htp ht
      have hig : inG V g c = false := by unfold inG isPl; rw [ht]; simp
      rw [show b2 true = (1 : Int32) from rfl, if_pos rfl, r_grp hV hW hlt, Option.bind_some, if_nI (by omega) (by omega)]
      by_cases hgr : vGrp V c = g
      · have hgd : gD V g c = true := by unfold gD; rw [hpn]; simp [hgr]
        rw [if_pos hgr]
        have := yes hgd
        rw [ht] at this
        exact this
      · have hgd : gD V g c = false := by unfold gD; simp [hgr]
        rw [if_neg hgr]
        exact no hgd hig
    | false =>
      rw [show b2 false = (0 : Int32) from rfl, if_neg (by decide)]
      cases hgd : gD V g c with
      | true =>
        have := yes hgd
        rw [ht] at this
        exact this
      | false =>
        refine no hgd ?_
        unfold gD at hgd
        unfold inG isPl
        have h5 : (g == 5) = false := by rw [beq_eq_false_iff_ne]; omega
        rw [ht, h5, Bool.false_or]
        simpa using hgd
theorem m_room_0 {g : Nat} : ∀ (m j fuel : Nat) (h : Hp), j + m = 4 → m < fuel → (∀ i, i < j → h 29 i = 0 ∧ h 30 i = 0) → ∃ h' : Hp, fX5_layRoom_L2 N (nI g) fuel (nI j) h = fX5_layRoom_L29 N (nI g) N 0 h' ∧ (∀ q, q ≠ 29 → q ≠ 30 → h' q = h q) ∧ Ar h' 29 30 (upS V g 0) (dnS V g 0) := by
  intro m
  induction m with
  | zero =>
    intro j fuel h hj hf hi
    obtain ⟨fuel, rfl⟩ : ∃ f, fuel = f + 1 := ⟨fuel - 1, by omega⟩
    have : j = 4 := by omega
    subst this
    exact ⟨h, by rw [fX5_layRoom_L2, if_neg (by decide)], fun _ _ _ => rfl, fun i hi4 => hi i hi4⟩
  | succ m ih =>
    intro j fuel h hj hf hi
    obtain ⟨fuel, rfl⟩ : ∃ f, fuel = f + 1 := ⟨fuel - 1, by omega⟩
    have hcl : (nI j).toNatClampNeg = j := nI_clamp (by omega)
    have hin : 0 ≤ (nI j).toInt ∧ (nI j).toInt < (4 : Nat) := by rw [nI_toInt (by omega)]; omega
    obtain ⟨h', w1, w2, w3⟩ := ih (j + 1) fuel (hset (hset h 29 j 0) 30 j 0) (by omega) (by omega) (fun i hij => by
      rw [hset_o (p := 29) (by decide), hset_s, hset_s, hset_o (p := 30) (by decide)]
      by_cases e : i = j
      · subst e; rw [pk_us, pk_us]; exact ⟨rfl, rfl⟩
      · rw [pk_un e, pk_un e]; exact hi i (by omega))
    refine ⟨h', ?_, fun q q1 q2 => by rw [w2 q q1 q2, hset_o q2, hset_o q1], w3⟩
    rw [fX5_layRoom_L2, if_pos (show nI j < (4 : Int32) from nI_lt (b := 4) (by omega) (by omega)), if_pos hin, hcl, Option.bind_some, if_pos hin, Option.bind_some, nI_1]
    exact w1
theorem m_room (hW : Wf k0 V) (hN : 20 ≤ N) {g : Nat} (hg : g < 5) (h : Hp) (hV : ModV (h 23) V) : ∃ h' : Hp, fX5_layRoom N h (nI g) = some (0, h') ∧ (∀ q, q ≠ 29 → q ≠ 30 → h' q = h q) ∧ Ar h' 29 30 (upS V g (vN V)) (dnS V g (vN V)) := by
  have hn := hW.n
  obtain ⟨h1, u1, u2, u3⟩ := m_room_0 (N := N) (V := V) (g := g) 4 0 N h (by omega) (by omega) (fun i hi => by omega)
  obtain ⟨h', w1, w2, w3⟩ := m_room_C (N := N) hW hN hg (vN V) 0 N h1 (by omega) (by omega) (by rw [u2 23 (by decide) (by decide)]; exact hV) u3
  exact ⟨h', u1.trans w1, fun q q1 q2 => by rw [w2 q q1 q2, u2 q q1 q2], w3⟩
end RO
