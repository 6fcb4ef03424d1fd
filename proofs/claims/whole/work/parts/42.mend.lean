/-! mend: the fewest moves, by places above against all of them tried -/
def zI (n : Int) : Int32 := Int32.ofInt n
theorem z_nI (n : Nat) : nI n = zI n := (Int32.ofInt_eq_ofNat).symm
theorem z_add (a b : Int) : zI a + zI b = zI (a + b) := (Int32.ofInt_add a b).symm
theorem z_sub (a b : Int) : zI a - zI b = zI (a - b) := (Int32.ofInt_sub a b).symm
theorem z_mul (a b : Int) : zI a * zI b = zI (a * b) := (Int32.ofInt_mul a b).symm
theorem z_neg (a : Int) : -zI a = zI (-a) := (Int32.ofInt_neg a).symm
theorem z_toInt {a : Int} (h1 : -2 ^ 31 ≤ a) (h2 : a < 2 ^ 31) : (zI a).toInt = a := Int32.toInt_ofInt_of_le h1 h2
theorem z_lt {a b : Int} (h1 : -2 ^ 31 ≤ a) (h2 : a < 2 ^ 31) (h3 : -2 ^ 31 ≤ b) (h4 : b < 2 ^ 31) : zI a < zI b ↔ a < b := by
  rw [Int32.lt_iff_toInt_lt, z_toInt h1 h2, z_toInt h3 h4]
theorem z_le {a b : Int} (h1 : -2 ^ 31 ≤ a) (h2 : a < 2 ^ 31) (h3 : -2 ^ 31 ≤ b) (h4 : b < 2 ^ 31) : zI a ≤ zI b ↔ a ≤ b := by
  rw [Int32.le_iff_toInt_le, z_toInt h1 h2, z_toInt h3 h4]
theorem z_eq {a b : Int} (h1 : -2 ^ 31 ≤ a) (h2 : a < 2 ^ 31) (h3 : -2 ^ 31 ≤ b) (h4 : b < 2 ^ 31) : zI a = zI b ↔ a = b := by
  rw [← Int32.toInt_inj, z_toInt h1 h2, z_toInt h3 h4]
theorem z_div10 {a : Int} (h1 : -2 ^ 31 ≤ a) (h2 : a < 2 ^ 31) : zI a / 10 = zI (a.tdiv 10) := by
  apply Int32.toInt_inj.mp
  have e10 : (10 : Int32).toInt = 10 := rfl
  rw [Int32.toInt_div, z_toInt h1 h2, e10]
  have h3 := Int.mul_tdiv_add_tmod a 10
  have h4 : (a.tmod 10).natAbs < 10 := by rw [Int.natAbs_tmod]; exact Nat.mod_lt _ (by decide)
  rw [z_toInt (by omega) (by omega)]
  exact Int.bmod_eq_of_le (by omega) (by omega)
theorem z_div10x {a r : Int} (h1 : -2 ^ 31 ≤ a) (h2 : a < 2 ^ 31) (h : a = 10 * r) : zI a / 10 = zI r := by
  rw [z_div10 h1 h2, h, Int.mul_tdiv_cancel_left _ (by decide)]
theorem z_xor (x : Int32) : (x ^^^ 10) < 0 ↔ x < 0 := by
  rw [Int32.lt_iff_toInt_lt, Int32.lt_iff_toInt_lt]
  have e0 : (0 : Int32).toInt = 0 := rfl
  rw [e0]
  have h1 : (x ^^^ 10).toBitVec.msb = (x.toBitVec.msb ^^ (10 : Int32).toBitVec.msb) := by
    rw [Int32.toBitVec_xor, BitVec.msb_xor]
  have h2 : (10 : Int32).toBitVec.msb = false := by decide
  rw [h2, Bool.xor_false, BitVec.msb_eq_toInt, BitVec.msb_eq_toInt] at h1
  exact decide_eq_decide.mp h1
theorem z_fmod (h : Hp) {a : Int} (h1 : -2 ^ 31 ≤ a) (h2 : a < 2 ^ 31) : fJ9_floorMod_7cf53 h (zI a) 10 = some (zI (a % 10)) := by
  unfold fJ9_floorMod_7cf53
  have h3 := Int.mul_tdiv_add_tmod a 10
  have h4 : (a.tmod 10).natAbs < 10 := by rw [Int.natAbs_tmod]; exact Nat.mod_lt _ (by decide)
  have e10 : (10 : Int32) = zI 10 := by decide
  have e0 : (0 : Int32) = zI 0 := by decide
  have hr : zI a - zI a / 10 * 10 = zI (a.tmod 10) := by
    rw [z_div10 h1 h2, e10, z_mul, z_sub]
    congr 1
    omega
  rw [if_pos (show ¬ (10 : Int32) = 0 by decide), hr]
  by_cases hneg : a < 0
  · have hx : (zI a ^^^ 10) < 0 := (z_xor _).mpr (by rw [e0]; exact (z_lt h1 h2 (by decide) (by decide)).mpr hneg)
    have h5 : a.tmod 10 ≤ 0 := by
      have h7 := Int.tmod_nonneg (a := -a) 10 (by omega)
      rw [Int.neg_tmod] at h7
      omega
    rw [if_pos hx]
    by_cases h6 : a.tmod 10 = 0
    · rw [if_pos (show zI (a.tmod 10) = 0 by rw [h6]; rfl), h6]
      congr 2
      omega
    · rw [if_neg (show ¬ zI (a.tmod 10) = 0 from fun q => h6 ((z_eq (by omega) (by omega) (by decide) (by decide)).mp (by rw [q]; rfl))), e10, z_add]
      congr 2
      omega
  · have hx : ¬ (zI a ^^^ 10) < 0 := fun q => hneg ((z_lt h1 h2 (by decide) (by decide)).mp (by have := (z_xor _).mp q; rw [e0] at this; exact this))
    have h5 : 0 ≤ a.tmod 10 := Int.tmod_nonneg _ (by omega)
    rw [if_neg hx]
    congr 2
    omega
/-- the moves from place i on, over n more places, that come to r; c knots -/
def Mv (up dn : Nat → Nat) : Nat → Nat → Int → Nat → Prop
  | 0, i, r, c => -(dn i : Int) ≤ r ∧ r ≤ up i ∧ c = r.natAbs
  | n + 1, i, r, c => ∃ (x r' : Int) (c' : Nat), -(dn i : Int) ≤ x ∧ x ≤ up i ∧ r = x + 10 * r' ∧ Mv up dn n (i + 1) r' c' ∧ c = c' + x.natAbs
def IsMin (P : Nat → Prop) : Option Nat → Prop
  | none => ∀ c, ¬ P c
  | some m => P m ∧ ∀ c, P c → m ≤ c
theorem IsMin.uniq {P : Nat → Prop} {o1 o2 : Option Nat} (h1 : IsMin P o1) (h2 : IsMin P o2) : o1 = o2 := by
  cases o1 with
  | none => cases o2 with
    | none => rfl
    | some b => exact absurd h2.1 (h1 b)
  | some a => cases o2 with
    | none => exact absurd h1.1 (h2 a)
    | some b =>
      have := h1.2 b h2.1
      have := h2.2 a h1.1
      congr 1; omega
theorem IsMin.congr {P Q : Nat → Prop} {o : Option Nat} (h : IsMin P o) (e : ∀ c, P c ↔ Q c) : IsMin Q o := by
  cases o with
  | none => exact fun c q => h c ((e c).mpr q)
  | some m => exact ⟨(e m).mp h.1, fun c q => h.2 c ((e c).mpr q)⟩
def cmb : Option Nat → Option Nat → Option Nat
  | o, none => o
  | none, some b => some b
  | some a, some b => if b < a then some b else some a
theorem cmb_min {P Q : Nat → Prop} {o1 o2 : Option Nat} (h1 : IsMin P o1) (h2 : IsMin Q o2) : IsMin (fun c => P c ∨ Q c) (cmb o1 o2) := by
  cases o2 with
  | none => exact h1.congr (fun c => ⟨Or.inl, fun q => q.elim id (fun z => absurd z (h2 c))⟩)
  | some b => cases o1 with
    | none => exact h2.congr (fun c => ⟨Or.inr, fun q => q.elim (fun z => absurd z (h1 c)) id⟩)
    | some a =>
      show IsMin _ (if b < a then some b else some a)
      split
      · exact ⟨Or.inr h2.1, fun c q => q.elim (fun z => by have := h1.2 c z; omega) (h2.2 c)⟩
      · exact ⟨Or.inl h1.1, fun c q => q.elim (h1.2 c) (fun z => by have := h2.2 c z; omega)⟩
theorem Mv_b {up dn : Nat → Nat} (hb : ∀ i, up i ≤ 144 ∧ dn i ≤ 144) : ∀ n i r c, Mv up dn n i r c → c ≤ 144 * (n + 1)
  | 0, i, r, c, h => by
    obtain ⟨h1, h2, h3⟩ := h
    have := hb i
    omega
  | n + 1, i, r, c, h => by
    obtain ⟨x, r', c', h1, h2, h3, h4, h5⟩ := h
    have := Mv_b hb n (i + 1) r' c' h4
    have := hb i
    omega
def shiftP (P : Nat → Prop) (t : Nat) (c : Nat) : Prop := ∃ c', P c' ∧ c = c' + t
theorem IsMin.shift {P : Nat → Prop} {o : Option Nat} (h : IsMin P o) (t : Nat) : IsMin (shiftP P t) (o.map (fun m => m + t)) := by
  cases o with
  | none => exact fun c ⟨c', h1, _⟩ => h c' h1
  | some m => exact ⟨⟨m, h.1, rfl⟩, fun c ⟨c', h1, h2⟩ => by have := h.2 c' h1; show m + t ≤ c; omega⟩
theorem z_abs {x : Int} (h1 : -2 ^ 30 ≤ x) (h2 : x < 2 ^ 30) : (if (0 : Int32) ≤ zI x then zI x else 0 - zI x) = nI x.natAbs := by
  have e0 : (0 : Int32) = zI 0 := by decide
  rw [z_nI]
  by_cases h : 0 ≤ x
  · rw [if_pos (by rw [e0]; exact (z_le (by decide) (by decide) (by omega) (by omega)).mpr h)]
    congr 1
    omega
  · rw [if_neg (by rw [e0]; exact fun q => h ((z_le (by decide) (by decide) (by omega) (by omega)).mp q)), e0, z_sub]
    congr 1
    omega
section ME
variable {h : Hp} {N : Nat} {up dn : Nat → Nat}
/-- the moves at place i that are less than t, and all that is above -/
def Pt (up dn : Nat → Nat) (n i : Nat) (r t : Int) (c : Nat) : Prop := ∃ (x r' : Int) (c' : Nat), -(dn i : Int) ≤ x ∧ x ≤ up i ∧ x < t ∧ r = x + 10 * r' ∧ Mv up dn n (i + 1) r' c' ∧ c = c' + x.natAbs
theorem lm_L (hb : ∀ i, up i ≤ 144 ∧ dn i ≤ 144) {n i : Nat} (hn : n ≤ 3) {r : Int} (hr1 : -3000000 ≤ r) (hr2 : r ≤ 3000000) {kr : Int32 → Int32 → Option Int32} (hkr : ∀ r' : Int, -3000000 ≤ r' → r' ≤ 3000000 → ∃ o, IsMin (Mv up dn n (i + 1) r') o ∧ kr (nI (i + 1)) (zI r') = some (encP o)) : ∀ (m fuel : Nat) (t : Int) (o : Option Nat), -144 ≤ t → t ≤ 200 → (up i : Int) - t < 10 * m → m < fuel → (r - t) % 10 = 0 → -(dn i : Int) ≤ t → IsMin (Pt up dn n i r t) o → ∃ o', IsMin (Mv up dn (n + 1) i r) o' ∧ fX4_leastMoves_L60 N h 18 4 19 4 kr (nI i) (zI r) fuel (nI (up i)) (encP o) (zI t) = some (encP o') := by
  intro m
  have hbi := hb i
  induction m with
  | zero =>
    intro fuel t o t1 t2 hm hf ht htd ho
    obtain ⟨fuel, rfl⟩ : ∃ f, fuel = f + 1 := ⟨fuel - 1, by omega⟩
    refine ⟨o, ho.congr (fun c => ⟨fun ⟨x, r', c', h1, h2, h3, h4⟩ => ⟨x, r', c', h1, h2, h4⟩, fun ⟨x, r', c', h1, h2, h4⟩ => ⟨x, r', c', h1, h2, by omega, h4⟩⟩), ?_⟩
    rw [fX4_leastMoves_L60, z_nI, if_pos ((z_lt (by omega) (by omega) (by omega) (by omega)).mpr (by omega))]
  | succ m ih =>
    intro fuel t o t1 t2 hm hf ht htd ho
    obtain ⟨fuel, rfl⟩ : ∃ f, fuel = f + 1 := ⟨fuel - 1, by omega⟩
    by_cases hend : (up i : Int) < t
    · refine ⟨o, ho.congr (fun c => ⟨fun ⟨x, r', c', h1, h2, h3, h4⟩ => ⟨x, r', c', h1, h2, h4⟩, fun ⟨x, r', c', h1, h2, h4⟩ => ⟨x, r', c', h1, h2, by omega, h4⟩⟩), ?_⟩
      rw [fX4_leastMoves_L60, z_nI, if_pos ((z_lt (by omega) (by omega) (by omega) (by omega)).mpr (by omega))]
    · obtain ⟨r', hr'⟩ : ∃ r' : Int, r - t = 10 * r' := ⟨(r - t) / 10, by omega⟩
      obtain ⟨o1, g1, g2⟩ := hkr r' (by omega) (by omega)
      have hstep : IsMin (Pt up dn n i r (t + 10)) (cmb o (o1.map (fun m => m + t.natAbs))) := by
        refine (cmb_min ho (g1.shift t.natAbs)).congr (fun c => ⟨?_, ?_⟩)
        · rintro (⟨x, r2, c', h1, h2, h3, h4⟩ | ⟨c', h1, h2⟩)
          · exact ⟨x, r2, c', h1, h2, by omega, h4⟩
          · exact ⟨t, r', c', htd, by omega, by omega, by omega, h1, h2⟩
        · rintro ⟨x, r2, c', h1, h2, h3, h4, h5, h6⟩
          by_cases hx : x < t
          · exact Or.inl ⟨x, r2, c', h1, h2, hx, h4, h5, h6⟩
          · right
            have hxt : x = t := by omega
            subst hxt
            have : r2 = r' := by omega
            subst this
            exact ⟨c', h5, h6⟩
      have hlt : ∀ v, o = some v → v < 2000 := fun v hv => by
        subst hv
        obtain ⟨⟨x, r2, c', h1, h2, h3, h4, h5, h6⟩, -⟩ := ho
        have := Mv_b hb n (i + 1) r2 c' h5
        omega
      have hlt1 : ∀ v, o1 = some v → v < 1000 := fun v hv => by
        subst hv
        have := Mv_b hb n (i + 1) r' v g1.1
        omega
      obtain ⟨o', w1, w2⟩ := ih fuel (t + 10) _ (by omega) (by omega) (by omega) (by omega) (by omega) (by omega) hstep
      refine ⟨o', w1, ?_⟩
      have e10 : (10 : Int32) = zI 10 := by decide
      have hdv : (zI r - zI t) / 10 = zI r' := by rw [z_sub]; exact z_div10x (by omega) (by omega) hr'
      have hen : ¬ nI (up i) < zI t := by
        rw [z_nI]
        exact fun q => hend ((z_lt (by omega) (by omega) (by omega) (by omega)).mp q)
      rw [fX4_leastMoves_L60, if_neg hen, nI_1, hdv, g2, Option.bind_some, z_abs (by omega) (by omega), Option.bind_some, e10, z_add, ← w2]
      congr 1
      cases o1 with
      | none => rw [if_pos (show encP none = -4 from rfl)]; rfl
      | some a =>
        have ha := hlt1 a rfl
        rw [show encP (some a) = nI a from rfl, if_neg (encP_ne (by omega)), nI_add]
        cases o with
        | none => rw [if_pos (show encP none = -4 from rfl)]; rfl
        | some b =>
          have hb' := hlt b rfl
          rw [show encP (some b) = nI b from rfl, if_neg (encP_ne (by omega))]
          show _ = encP (if a + t.natAbs < b then some (a + t.natAbs) else some b)
          by_cases hab : a + t.natAbs < b
          · rw [if_pos (nI_lt hab (by omega)), if_pos hab]; rfl
          · rw [if_neg (nlt_lit (by omega) (by omega) hab), if_neg hab]; rfl
theorem lm_spec (hb : ∀ i, up i ≤ 144 ∧ dn i ≤ 144) (hN : 70000 ≤ N) (hA : Ar h 18 19 up dn) : ∀ (n i : Nat) (r : Int), i + n = 3 → -3000000 ≤ r → r ≤ 3000000 → ∃ o, IsMin (Mv up dn n i r) o ∧ lmR N h 18 4 19 4 (n + 2) (nI i) (zI r) = some (encP o) := by
  intro n
  induction n with
  | zero =>
    intro i r hi hr1 hr2
    have h3 : i = 3 := by omega
    subst h3
    have hb3 := hb 3
    obtain ⟨a1, a2⟩ := hA 3 (by omega)
    rw [lmR]
    unfold fX4_leastMoves
    rw [if_neg (show ¬ nI 3 < (3 : Int32) by decide), at_nI (by omega) (by omega), at_nI (by omega) (by omega), a1, a2, z_nI, z_nI, z_neg]
    by_cases h1 : r < -(dn 3 : Int)
    · refine ⟨none, fun c q => ?_, by rw [if_pos ((z_lt (by omega) (by omega) (by omega) (by omega)).mpr h1)]; rfl⟩
      obtain ⟨q1, q2, q3⟩ := q
      omega
    by_cases h2 : (up 3 : Int) < r
    · refine ⟨none, fun c q => ?_, by rw [if_neg (fun q => h1 ((z_lt (by omega) (by omega) (by omega) (by omega)).mp q)), if_pos ((z_lt (by omega) (by omega) (by omega) (by omega)).mpr h2)]; rfl⟩
      obtain ⟨q1, q2, q3⟩ := q
      omega
    refine ⟨some r.natAbs, ⟨⟨by omega, by omega, rfl⟩, fun c q => ?_⟩, ?_⟩
    · obtain ⟨q1, q2, q3⟩ := q
      omega
    · rw [if_neg (fun q => h1 ((z_lt (by omega) (by omega) (by omega) (by omega)).mp q)), if_neg (fun q => h2 ((z_lt (by omega) (by omega) (by omega) (by omega)).mp q)), z_abs (by omega) (by omega)]
      rfl
  | succ n ih =>
    intro i r hi hr1 hr2
    have hbi := hb i
    obtain ⟨a1, a2⟩ := hA i (by omega)
    have e10 : (10 : Int32) = zI 10 := by decide
    have hmod : fJ9_floorMod_7cf53 h (zI r - zI (-(dn i : Int))) 10 = some (zI ((r - -(dn i : Int)) % 10)) := by
      rw [z_sub]
      exact z_fmod h (by omega) (by omega)
    rw [lmR]
    unfold fX4_leastMoves
    rw [if_pos (show nI i < (3 : Int32) from nI_lt (b := 3) (by omega) (by omega)), at_nI (by omega) (by omega), at_nI (by omega) (by omega), a1, a2, z_nI (dn i), z_neg, hmod, Option.bind_some, z_add, Option.bind_some]
    have hm1 : 0 ≤ (r - -(dn i : Int)) % 10 := Int.emod_nonneg _ (by decide)
    have hm2 : (r - -(dn i : Int)) % 10 < 10 := Int.emod_lt_of_pos _ (by decide)
    exact lm_L (N := N) hb (n := n) (i := i) (by omega) hr1 hr2 (kr := lmR N h 18 4 19 4 (n + 2)) (fun r' q1 q2 => ih (i + 1) r' (by omega) q1 q2) 100 N (-(dn i : Int) + (r - -(dn i : Int)) % 10) none (by omega) (by omega) (by omega) (by omega) (by omega) (by omega) (fun c ⟨x, r', c', q1, q2, q3, q4, q5, q6⟩ => by omega)
/-- a lower best -/
def Upd (b b' : Nat) (P : Nat → Prop) : Prop := (b' = b ∨ P b') ∧ b' ≤ b ∧ ∀ c, P c → b' ≤ c
theorem Upd.trans {b b1 b2 : Nat} {P Q : Nat → Prop} (h1 : Upd b b1 P) (h2 : Upd b1 b2 Q) : Upd b b2 (fun c => P c ∨ Q c) := by
  obtain ⟨p1, p2, p3⟩ := h1
  obtain ⟨q1, q2, q3⟩ := h2
  refine ⟨?_, by omega, fun c q => q.elim (fun z => by have := p3 c z; omega) (q3 c)⟩
  rcases q1 with q | q
  · subst q
    rcases p1 with p | p
    · exact Or.inl p
    · exact Or.inr (Or.inl p)
  · exact Or.inr (Or.inr q)
theorem Upd.congr {b b' : Nat} {P Q : Nat → Prop} (h : Upd b b' P) (e : ∀ c, P c ↔ Q c) : Upd b b' Q := ⟨h.1.elim Or.inl (fun q => Or.inr ((e _).mp q)), h.2.1, fun c q => h.2.2 c ((e c).mpr q)⟩
theorem z_plain (h : Hp) {x : Int} (h1 : -2 ^ 30 ≤ x) (h2 : x < 2 ^ 30) : fX5_plain h (zI x) = nI x.natAbs := by
  unfold fX5_plain
  have e0 : (0 : Int32) = zI 0 := by decide
  rw [z_nI, e0]
  by_cases h : x < 0
  · rw [if_pos ((z_lt (by omega) (by omega) (by omega) (by omega)).mpr h), z_neg]
    congr 1
    omega
  · rw [if_neg (fun q => h ((z_lt (by omega) (by omega) (by omega) (by omega)).mp q))]
    congr 1
    omega
theorem z_in (h : Hp) {x lo hi : Int} (b1 : -2 ^ 31 ≤ x) (b2 : x < 2 ^ 31) (b3 : -2 ^ 31 ≤ lo) (b4 : lo < 2 ^ 31) (b5 : -2 ^ 31 ≤ hi) (b6 : hi < 2 ^ 31) : fX5_in h (zI x).toInt64 (zI lo).toInt64 (zI hi).toInt64 = if lo ≤ x ∧ x ≤ hi then 1 else 0 := by
  by_cases q : lo ≤ x ∧ x ≤ hi
  · rw [if_pos q, in_yes h (by rw [Int32.toInt_toInt64, Int32.toInt_toInt64, z_toInt b1 b2, z_toInt b3 b4]; exact q.1) (by rw [Int32.toInt_toInt64, Int32.toInt_toInt64, z_toInt b1 b2, z_toInt b5 b6]; exact q.2)]
  · rw [if_neg q, in_no h (by rw [Int32.toInt_toInt64, Int32.toInt_toInt64, Int32.toInt_toInt64, z_toInt b1 b2, z_toInt b3 b4, z_toInt b5 b6]; omega)]
theorem mm_1 (hb : ∀ i, up i ≤ 144 ∧ dn i ≤ 144) (hA : Ar h 29 30 up dn) {a1 u3 u6 : Int32} {k48 : Int32 → Int32 → Int32 → Hp → Option Rs} {k78 : Int32 → Int32 → Int32 → Int32 → Int32 → Hp → Option Rs} {x3 x2 s hi : Int} (hx3 : -144 ≤ x3 ∧ x3 ≤ 144) (hx2 : -144 ≤ x2 ∧ x2 ≤ 144) (hs : -4000000 ≤ s ∧ s ≤ 4000000) (hhi : -500000 ≤ hi ∧ hi ≤ 144) : ∀ (m fuel : Nat) (lo : Int) (b : Nat), -144 ≤ lo → lo ≤ 500000 → hi - lo < m → m < fuel → b ≤ 1000000 → ∃ b', Upd b b' (fun c => ∃ x1 x0 : Int, lo ≤ x1 ∧ x1 ≤ hi ∧ -(dn 0 : Int) ≤ x0 ∧ x0 ≤ up 0 ∧ s = x0 + 10 * x1 ∧ c = x3.natAbs + x2.natAbs + x1.natAbs + x0.natAbs) ∧ fX5_mend_L195 N a1 k48 k78 fuel u3 (nI b) (zI x3) u6 (zI x2) (zI s) (zI hi) (zI lo) h = k78 u3 (nI b') (zI x3) u6 (zI (x2 + 1)) h := by
  intro m
  have hb0 := hb 0
  have e1 : (1 : Int32) = zI 1 := by decide
  have e10 : (10 : Int32) = zI 10 := by decide
  obtain ⟨a0, a0'⟩ := hA 0 (by omega)
  induction m with
  | zero =>
    intro fuel lo b hlo hlo2 hm hf hbb
    obtain ⟨fuel, rfl⟩ : ∃ f, fuel = f + 1 := ⟨fuel - 1, by omega⟩
    refine ⟨b, ⟨Or.inl rfl, Nat.le_refl _, fun c ⟨x1, x0, q1, q2, _⟩ => by omega⟩, ?_⟩
    rw [fX5_mend_L195, if_pos ((z_lt (by omega) (by omega) (by omega) (by omega)).mpr (by omega)), e1, z_add]
  | succ m ih =>
    intro fuel lo b hlo hlo2 hm hf hbb
    obtain ⟨fuel, rfl⟩ : ∃ f, fuel = f + 1 := ⟨fuel - 1, by omega⟩
    by_cases hend : hi < lo
    · refine ⟨b, ⟨Or.inl rfl, Nat.le_refl _, fun c ⟨x1, x0, q1, q2, _⟩ => by omega⟩, ?_⟩
      rw [fX5_mend_L195, if_pos ((z_lt (by omega) (by omega) (by omega) (by omega)).mpr (by omega)), e1, z_add]
    · obtain ⟨c0, hc0⟩ : ∃ c0, c0 = x3.natAbs + x2.natAbs + lo.natAbs + (s - 10 * lo).natAbs := ⟨_, rfl⟩
      obtain ⟨b1, hb1⟩ : ∃ b1, b1 = if -(dn 0 : Int) ≤ s - 10 * lo ∧ s - 10 * lo ≤ up 0 then (if c0 < b then c0 else b) else b := ⟨_, rfl⟩
      have hb1b : b1 ≤ b := by rw [hb1]; split <;> (try split) <;> omega
      have hU : Upd b b1 (fun c => (-(dn 0 : Int) ≤ s - 10 * lo ∧ s - 10 * lo ≤ up 0) ∧ c = c0) := by
        refine ⟨?_, hb1b, fun c ⟨q1, q2⟩ => ?_⟩
        · rw [hb1]
          split
          · rename_i q
            split
            · exact Or.inr ⟨q, rfl⟩
            · exact Or.inl rfl
          · exact Or.inl rfl
        · rw [hb1, if_pos q1]
          split <;> omega
      obtain ⟨b', w1, w2⟩ := ih fuel (lo + 1) b1 (by omega) (by omega) (by omega) (by omega) (by omega)
      refine ⟨b', (hU.trans w1).congr (fun c => ⟨?_, ?_⟩), ?_⟩
      · rintro (⟨q1, q2⟩ | ⟨x1, x0, q1, q2, q3⟩)
        · exact ⟨lo, s - 10 * lo, by omega, by omega, q1.1, q1.2, by omega, by omega⟩
        · exact ⟨x1, x0, by omega, q2, q3⟩
      · rintro ⟨x1, x0, q1, q2, q3, q4, q5, q6⟩
        by_cases hx : x1 = lo
        · subst hx
          left
          have : x0 = s - 10 * x1 := by omega
          subst this
          exact ⟨⟨q3, q4⟩, by omega⟩
        · exact Or.inr ⟨x1, x0, by omega, q2, q3, q4, q5, q6⟩
      · have hne : ¬ zI hi < zI lo := fun q => hend ((z_lt (by omega) (by omega) (by omega) (by omega)).mp q)
        have hcost : fX5_plain h (zI x3) + fX5_plain h (zI x2) + fX5_plain h (zI lo) + fX5_plain h (zI (s - 10 * lo)) = nI c0 := by
          rw [z_plain h (by omega) (by omega), z_plain h (by omega) (by omega), z_plain h (by omega) (by omega), z_plain h (by omega) (by omega), nI_add, nI_add, nI_add, hc0]
        have hin : fX5_in h (zI (s - 10 * lo)).toInt64 (-(h 30 0)).toInt64 (h 29 0).toInt64 = if -(dn 0 : Int) ≤ s - 10 * lo ∧ s - 10 * lo ≤ up 0 then 1 else 0 := by
          rw [a0, a0', z_nI, z_nI, z_neg]
          exact z_in h (by omega) (by omega) (by omega) (by omega) (by omega) (by omega)
        have hx10 : zI s - 10 * zI lo = zI (s - 10 * lo) := by rw [e10, z_mul, z_sub]
        rw [fX5_mend_L195, if_neg hne, hx10, hcost, Option.bind_some, hin, e1, z_add, ← w2]
        congr 1
        rw [hb1]
        by_cases q : -(dn 0 : Int) ≤ s - 10 * lo ∧ s - 10 * lo ≤ up 0
        · rw [if_pos q, if_pos q, if_neg (show ¬ zI 1 = 0 by decide)]
          by_cases q2 : c0 < b
          · rw [if_pos (nI_lt q2 (by omega)), if_pos q2]
          · rw [if_neg (nlt_lit (by omega) (by omega) q2), if_neg q2]
        · rw [if_neg q, if_neg q, if_pos rfl]
theorem mm_2 (hb : ∀ i, up i ≤ 144 ∧ dn i ≤ 144) (hN : 70000 ≤ N) (hA : Ar h 29 30 up dn) {a1 u3 : Int32} {k48 : Int32 → Int32 → Int32 → Hp → Option Rs} {x3 s : Int} (hx3 : -144 ≤ x3 ∧ x3 ≤ 144) (hs : -3500000 ≤ s ∧ s ≤ 3500000) : ∀ (m fuel : Nat) (x2 : Int) (b : Nat), -144 ≤ x2 → x2 ≤ 145 → (up 2 : Int) - x2 < m → m < fuel → b ≤ 1000000 → ∃ b', Upd b b' (fun c => ∃ y2 x1 x0 : Int, x2 ≤ y2 ∧ y2 ≤ up 2 ∧ -(dn 1 : Int) ≤ x1 ∧ x1 ≤ up 1 ∧ -(dn 0 : Int) ≤ x0 ∧ x0 ≤ up 0 ∧ s = x0 + 10 * x1 + 100 * y2 ∧ c = x3.natAbs + y2.natAbs + x1.natAbs + x0.natAbs) ∧ fX5_mend_L78 N a1 k48 fuel u3 (nI b) (zI x3) (zI s) (zI x2) h = k48 u3 (nI b') (zI (x3 + 1)) h := by
  intro m
  have hb0 := hb 0
  have hb1 := hb 1
  have hb2 := hb 2
  have e1 : (1 : Int32) = zI 1 := by decide
  have e100 : (100 : Int32) = zI 100 := by decide
  obtain ⟨a0, a0'⟩ := hA 0 (by omega)
  obtain ⟨c1, c1'⟩ := hA 1 (by omega)
  obtain ⟨d2, d2'⟩ := hA 2 (by omega)
  induction m with
  | zero =>
    intro fuel x2 b hx hx' hm hf hbb
    obtain ⟨fuel, rfl⟩ : ∃ f, fuel = f + 1 := ⟨fuel - 1, by omega⟩
    refine ⟨b, ⟨Or.inl rfl, Nat.le_refl _, fun c ⟨y2, x1, x0, q1, q2, _⟩ => by omega⟩, ?_⟩
    rw [fX5_mend_L78, d2, z_nI, if_pos ((z_lt (by omega) (by omega) (by omega) (by omega)).mpr (by omega)), e1, z_add]
  | succ m ih =>
    intro fuel x2 b hx hx' hm hf hbb
    obtain ⟨fuel, rfl⟩ : ∃ f, fuel = f + 1 := ⟨fuel - 1, by omega⟩
    by_cases hend : (up 2 : Int) < x2
    · refine ⟨b, ⟨Or.inl rfl, Nat.le_refl _, fun c ⟨y2, x1, x0, q1, q2, _⟩ => by omega⟩, ?_⟩
      rw [fX5_mend_L78, d2, z_nI, if_pos ((z_lt (by omega) (by omega) (by omega) (by omega)).mpr (by omega)), e1, z_add]
    have hne : ¬ nI (up 2) < zI x2 := by
      rw [z_nI]
      exact fun q => hend ((z_lt (by omega) (by omega) (by omega) (by omega)).mp q)
    have hpl := z_plain h (x := x3) (by omega) (by omega)
    by_cases hpr : x3.natAbs < b
    · obtain ⟨s2, hs2⟩ : ∃ s2, s2 = s - 100 * x2 := ⟨_, rfl⟩
      have es2 : zI s - 100 * zI x2 = zI s2 := by rw [e100, z_mul, z_sub, hs2]
      obtain ⟨v3, hv3⟩ : ∃ v3, v3 = (s2 - up 0).tdiv 10 - 1 := ⟨_, rfl⟩
      obtain ⟨v4, hv4⟩ : ∃ v4, v4 = (s2 + dn 0).tdiv 10 + 1 := ⟨_, rfl⟩
      have t3 := Int.mul_tdiv_add_tmod (s2 - up 0) 10
      have t3' : ((s2 - up 0).tmod 10).natAbs < 10 := by rw [Int.natAbs_tmod]; exact Nat.mod_lt _ (by decide)
      have t4 := Int.mul_tdiv_add_tmod (s2 + dn 0) 10
      have t4' : ((s2 + dn 0).tmod 10).natAbs < 10 := by rw [Int.natAbs_tmod]; exact Nat.mod_lt _ (by decide)
      have ev3 : (zI s2 - nI (up 0)) / 10 - 1 = zI v3 := by rw [z_nI, z_sub, z_div10 (by omega) (by omega), e1, z_sub, hv3]
      have ev4 : (zI s2 + nI (dn 0)) / 10 + 1 = zI v4 := by rw [z_nI, z_add, z_div10 (by omega) (by omega), e1, z_add, hv4]
      obtain ⟨lo, hlo⟩ : ∃ lo, lo = if v3 < -(dn 1 : Int) then -(dn 1 : Int) else v3 := ⟨_, rfl⟩
      obtain ⟨hi, hhi⟩ : ∃ hi, hi = if (up 1 : Int) < v4 then (up 1 : Int) else v4 := ⟨_, rfl⟩
      have elo : (if zI v3 < -(nI (dn 1)) then -(nI (dn 1)) else zI v3) = zI lo := by
        rw [z_nI, z_neg, hlo]
        by_cases q : v3 < -(dn 1 : Int)
        · rw [if_pos q, if_pos ((z_lt (by omega) (by omega) (by omega) (by omega)).mpr q)]
        · rw [if_neg q, if_neg (fun z => q ((z_lt (by omega) (by omega) (by omega) (by omega)).mp z))]
      have ehi : (if nI (up 1) < zI v4 then nI (up 1) else zI v4) = zI hi := by
        rw [z_nI, hhi]
        by_cases q : (up 1 : Int) < v4
        · rw [if_pos q, if_pos ((z_lt (by omega) (by omega) (by omega) (by omega)).mpr q)]
        · rw [if_neg q, if_neg (fun z => q ((z_lt (by omega) (by omega) (by omega) (by omega)).mp z))]
      have blo : -144 ≤ lo ∧ lo ≤ 500000 ∧ -(dn 1 : Int) ≤ lo ∧ v3 ≤ lo ∧ (lo = v3 ∨ lo = -(dn 1 : Int)) := by rw [hlo]; split <;> omega
      have bhi : -500000 ≤ hi ∧ hi ≤ 144 ∧ hi ≤ up 1 ∧ hi ≤ v4 ∧ (hi = v4 ∨ hi = up 1) := by rw [hhi]; split <;> omega
      obtain ⟨b1, w1, w2⟩ := mm_1 (N := N) hb hA (a1 := a1) (u3 := u3) (u6 := zI s) (k48 := k48) (k78 := fX5_mend_L78 N a1 k48 fuel) (x3 := x3) (x2 := x2) (s := s2) (hi := hi) hx3 (by omega) (by omega) ⟨bhi.1, bhi.2.1⟩ 300 N lo b blo.1 blo.2.1 (by omega) (by omega) hbb
      obtain ⟨b', y1, y2⟩ := ih fuel (x2 + 1) b1 (by omega) (by omega) (by omega) (by omega) (by have := w1.2.1; omega)
      refine ⟨b', (w1.trans y1).congr (fun c => ⟨?_, ?_⟩), ?_⟩
      · rintro (⟨x1, x0, q1, q2, q3, q4, q5, q6⟩ | ⟨z2, x1, x0, q1, q2, q3⟩)
        · exact ⟨x2, x1, x0, by omega, by omega, by omega, by omega, q3, q4, by omega, q6⟩
        · exact ⟨z2, x1, x0, by omega, q2, q3⟩
      · rintro ⟨z2, x1, x0, q1, q2, q3, q4, q5, q6, q7, q8⟩
        by_cases hz : z2 = x2
        · subst hz
          left
          refine ⟨x1, x0, ?_, ?_, q5, q6, by omega, q8⟩
          · rcases blo.2.2.2.2 with z | z <;> omega
          · rcases bhi.2.2.2.2 with z | z <;> omega
        · exact Or.inr ⟨z2, x1, x0, by omega, q2, q3, q4, q5, q6, q7, q8⟩
      · rw [fX5_mend_L78, d2, if_neg hne, hpl, if_pos (nI_lt hpr (by omega)), es2, a0, a0', ev3, ev4, Option.bind_some, Option.bind_some]
        unfold fX5_mend_J165
        rw [c1, c1', elo, ehi]
        exact w2.trans y2
    · refine ⟨b, ⟨Or.inl rfl, Nat.le_refl _, fun c ⟨y2, x1, x0, q1, q2, q3, q4, q5, q6, q7, q8⟩ => by omega⟩, ?_⟩
      rw [fX5_mend_L78, d2, if_neg hne, hpl, if_neg (nlt_lit (by omega) (by omega) hpr), e1, z_add]
theorem mm_3 (hb : ∀ i, up i ≤ 144 ∧ dn i ≤ 144) (hN : 70000 ≤ N) (hA : Ar h 29 30 up dn) {a1 : Int32} {r : Int} (hr : -3000000 ≤ r ∧ r ≤ 3000000) : ∀ (m fuel : Nat) (x3 : Int) (b : Nat), -144 ≤ x3 → x3 ≤ 145 → (up 3 : Int) - x3 < m → m < fuel → b ≤ 1000000 → ∃ b', Upd b b' (fun c => ∃ y3 y2 x1 x0 : Int, x3 ≤ y3 ∧ y3 ≤ up 3 ∧ -(dn 2 : Int) ≤ y2 ∧ y2 ≤ up 2 ∧ -(dn 1 : Int) ≤ x1 ∧ x1 ≤ up 1 ∧ -(dn 0 : Int) ≤ x0 ∧ x0 ≤ up 0 ∧ r = x0 + 10 * x1 + 100 * y2 + 1000 * y3 ∧ c = y3.natAbs + y2.natAbs + x1.natAbs + x0.natAbs) ∧ fX5_mend_L48 N a1 fuel (zI r) (nI b) (zI x3) h = (if nI b' = 1000000 then some (-4, h) else some (nI b', h)) := by
  intro m
  have hb3 := hb 3
  have hb2 := hb 2
  have e1 : (1 : Int32) = zI 1 := by decide
  have e1000 : (1000 : Int32) = zI 1000 := by decide
  obtain ⟨d2, d2'⟩ := hA 2 (by omega)
  obtain ⟨a3, a3'⟩ := hA 3 (by omega)
  induction m with
  | zero =>
    intro fuel x3 b hx hx' hm hf hbb
    obtain ⟨fuel, rfl⟩ : ∃ f, fuel = f + 1 := ⟨fuel - 1, by omega⟩
    refine ⟨b, ⟨Or.inl rfl, Nat.le_refl _, fun c ⟨y3, y2, x1, x0, q1, q2, _⟩ => by omega⟩, ?_⟩
    rw [fX5_mend_L48, a3, z_nI (up 3), if_pos ((z_lt (by omega) (by omega) (by omega) (by omega)).mpr (by omega))]
  | succ m ih =>
    intro fuel x3 b hx hx' hm hf hbb
    obtain ⟨fuel, rfl⟩ : ∃ f, fuel = f + 1 := ⟨fuel - 1, by omega⟩
    by_cases hend : (up 3 : Int) < x3
    · refine ⟨b, ⟨Or.inl rfl, Nat.le_refl _, fun c ⟨y3, y2, x1, x0, q1, q2, _⟩ => by omega⟩, ?_⟩
      rw [fX5_mend_L48, a3, z_nI (up 3), if_pos ((z_lt (by omega) (by omega) (by omega) (by omega)).mpr (by omega))]
    have hne : ¬ nI (up 3) < zI x3 := by
      rw [z_nI]
      exact fun q => hend ((z_lt (by omega) (by omega) (by omega) (by omega)).mp q)
    have es : zI r - 1000 * zI x3 = zI (r - 1000 * x3) := by rw [e1000, z_mul, z_sub]
    obtain ⟨b1, w1, w2⟩ := mm_2 (N := N) hb hN hA (a1 := a1) (u3 := zI r) (k48 := fX5_mend_L48 N a1 fuel) (x3 := x3) (s := r - 1000 * x3) (by omega) (by omega) 300 N (-(dn 2 : Int)) b (by omega) (by omega) (by omega) (by omega) hbb
    obtain ⟨b', y1, y2⟩ := ih fuel (x3 + 1) b1 (by omega) (by omega) (by omega) (by omega) (by have := w1.2.1; omega)
    refine ⟨b', (w1.trans y1).congr (fun c => ⟨?_, ?_⟩), ?_⟩
    · rintro (⟨z2, x1, x0, q1, q2, q3, q4, q5, q6, q7, q8⟩ | ⟨z3, z2, x1, x0, q1, q2, q3⟩)
      · exact ⟨x3, z2, x1, x0, by omega, by omega, q1, q2, q3, q4, q5, q6, by omega, q8⟩
      · exact ⟨z3, z2, x1, x0, by omega, q2, q3⟩
    · rintro ⟨z3, z2, x1, x0, q1, q2, q3, q4, q5, q6, q7, q8, q9, q10⟩
      by_cases hz : z3 = x3
      · subst hz
        exact Or.inl ⟨z2, x1, x0, q3, q4, q5, q6, q7, q8, by omega, q10⟩
      · exact Or.inr ⟨z3, z2, x1, x0, by omega, q2, q3, q4, q5, q6, q7, q8, q9, q10⟩
    · rw [fX5_mend_L48, a3, if_neg hne, es, d2', z_nI (dn 2), z_neg]
      exact w2.trans y2
theorem mv3 (r : Int) (c : Nat) : Mv up dn 3 0 r c ↔ ∃ y3 y2 x1 x0 : Int, -(dn 3 : Int) ≤ y3 ∧ y3 ≤ up 3 ∧ -(dn 2 : Int) ≤ y2 ∧ y2 ≤ up 2 ∧ -(dn 1 : Int) ≤ x1 ∧ x1 ≤ up 1 ∧ -(dn 0 : Int) ≤ x0 ∧ x0 ≤ up 0 ∧ r = x0 + 10 * x1 + 100 * y2 + 1000 * y3 ∧ c = y3.natAbs + y2.natAbs + x1.natAbs + x0.natAbs := by
  constructor
  · rintro ⟨x0, r1, c1, h1, h2, h3, ⟨x1, r2, c2, h4, h5, h6, ⟨x2, r3, c3, h7, h8, h9, ⟨h10, h11, h12⟩, h13⟩, h14⟩, h15⟩
    exact ⟨r3, x2, x1, x0, h10, h11, h7, h8, h4, h5, h1, h2, by omega, by omega⟩
  · rintro ⟨y3, y2, x1, x0, h1, h2, h3, h4, h5, h6, h7, h8, h9, h10⟩
    exact ⟨x0, x1 + 10 * (y2 + 10 * y3), y3.natAbs + y2.natAbs + x1.natAbs, h7, h8, by omega, ⟨x1, y2 + 10 * y3, y3.natAbs + y2.natAbs, h5, h6, by omega, ⟨y2, y3, y3.natAbs, h3, h4, by omega, ⟨h1, h2, rfl⟩, by omega⟩, by omega⟩, by omega⟩
theorem mm_all (hb : ∀ i, up i ≤ 144 ∧ dn i ≤ 144) (hN : 70000 ≤ N) (hA : Ar h 29 30 up dn) {a1 : Int32} {r : Int} (hr : -3000000 ≤ r ∧ r ≤ 3000000) {o : Option Nat} (ho : IsMin (Mv up dn 3 0 r) o) : fX5_mend_L48 N a1 N (zI r) 1000000 (-(h 30 3)) h = some (encP o, h) := by
  have hb3 := hb 3
  obtain ⟨a3, a3'⟩ := hA 3 (by omega)
  obtain ⟨b', w1, w2⟩ := mm_3 (N := N) hb hN hA (a1 := a1) hr 300 N (-(dn 3 : Int)) 1000000 (by omega) (by omega) (by omega) (by omega) (by omega)
  have w1' : Upd 1000000 b' (Mv up dn 3 0 r) := w1.congr (fun c => (mv3 r c).symm)
  rw [a3', z_nI (dn 3), z_neg]
  refine (show fX5_mend_L48 N a1 N (zI r) 1000000 (zI (-(dn 3 : Int))) h = _ from w2).trans ?_
  cases o with
  | none =>
    have : b' = 1000000 := w1'.1.elim id (fun q => absurd q (ho b'))
    subst this
    rw [if_pos (show nI 1000000 = (1000000 : Int32) from rfl)]; rfl
  | some m =>
    have hm := Mv_b hb 3 0 r m ho.1
    have h1 := w1'.2.2 m ho.1
    have h2 : b' = m := by
      rcases w1'.1 with q | q
      · omega
      · have := ho.2 b' q; omega
    subst h2
    rw [if_neg (show ¬ nI b' = (1000000 : Int32) from ne_lit (b := 1000000) (by omega) (by omega) (by omega))]
    rfl
end ME
theorem filter_two {p q : Nat → Bool} : ∀ l : List Nat, (l.filter p).length + (l.filter q).length ≤ l.length + (l.filter (fun x => p x && q x)).length
  | [] => by simp
  | a :: l => by
    have ih := filter_two (p := p) (q := q) l
    cases hp : p a <;> cases hq : q a <;> simp [List.filter_cons, hp, hq] <;> omega
theorem one_only {t : Nat} : ∀ l : List Nat, l.Nodup → (∀ x, x ∈ l → x = t) → l.length ≤ 1
  | [], _, _ => by simp
  | [a], _, _ => by simp
  | a :: b :: l, h, h2 => by
    have e1 := h2 a (by simp)
    have e2 := h2 b (by simp)
    rw [List.nodup_cons] at h
    exact absurd (by rw [e1, e2]; simp) h.1
theorem up_sum {V : Vw} {g : Nat} : ∀ j, upS V g j 0 + 10 * upS V g j 1 + 100 * upS V g j 2 + 1000 * upS V g j 3 ≤ 9999 * ((List.range j).filter (gD V g)).length
  | 0 => by simp [upS]
  | j + 1 => by
    have ih := up_sum (V := V) (g := g) j
    have t0 := tU_le V j 0
    have t1 := tU_le V j 1
    have t2 := tU_le V j 2
    have t3 := tU_le V j 3
    rw [upS, upS, upS, upS, List.range_succ, List.filter_append, List.length_append]
    by_cases h : gD V g j = true
    · rw [if_pos h, if_pos h, if_pos h, if_pos h, List.filter_cons_of_pos (p := gD V g) (a := j) h, List.filter_nil, List.length_singleton]
      omega
    · rw [if_neg h, if_neg h, if_neg h, if_neg h, List.filter_cons_of_neg (p := gD V g) (a := j) h, List.filter_nil, List.length_nil]
      omega
theorem mend_far {k : Nat} {V : Vw} (hW : Wf k V) {g y w : Nat} (hc : cmpS V g = some (y, w)) (he : (y : Int) - w = -100004) (c : Nat) : ¬ Mv (upS V g (vN V)) (dnS V g (vN V)) 3 0 100004 c := by
  have hn := hW.n
  intro q
  obtain ⟨y3, y2, x1, x0, h1, h2, h3, h4, h5, h6, h7, h8, h9, h10⟩ := (mv3 _ _).mp q
  have hs := up_sum (V := V) (g := g) (vN V)
  obtain ⟨t, ht, h11⟩ := Option.bind_eq_some_iff.mp hc
  obtain ⟨w', hw, h12⟩ := Option.bind_eq_some_iff.mp h11
  obtain ⟨s', hs', h13⟩ := Option.map_eq_some_iff.mp h12
  have hww : w' = w := by injection h13
  subst hww
  have htl := topS_lt ht
  have htp : topP V g t = true := List.find?_some ht
  have hsz : w' ≤ szF V t * 10000 := by
    rw [← whole_from hW htl] at hw
    have := osum_lt _ 10000 (fun x hx => by
      obtain ⟨d, hd, e⟩ := List.mem_map.mp hx
      have := vVal_lt hW (List.mem_range.mp (List.mem_filter.mp hd).1) e
      omega) w' hw
    rw [List.length_map] at this
    exact this
  have hpn : vPar V t = none := by
    cases hp : vPar V t with
    | none => rfl
    | some p =>
      have h14 := ((hW.c htl).2.2.2.2.2.1 p hp).2.2.2
      unfold topP at htp
      rw [h14] at htp
      cases htp
  have h2f := filter_two (p := gD V g) (q := fun d => fromB V d t) (List.range (vN V))
  have h1f := one_only (t := t) ((List.range (vN V)).filter (fun x => gD V g x && fromB V x t)) (List.nodup_range.filter _) (fun x hx => by
    rw [List.mem_filter, List.mem_range, Bool.and_eq_true] at hx
    have h15 := (rt_from hW hx.1 hpn).mp hx.2.2
    have h16 : vPar V x = none := by
      have := hx.2.1
      unfold gD at this
      rw [Bool.and_eq_true] at this
      cases hp : vPar V x with
      | none => rfl
      | some p => rw [hp] at this; simp at this
    have h17 : rt V x = x := by unfold rt; rw [h16]
    omega)
  have hsf : szF V t = ((List.range (vN V)).filter (fun d => fromB V d t)).length := rfl
  rw [List.length_range] at h2f
  omega
theorem st_mend (N : Nat) (hN : 70000 ≤ N) : SF_mend N RR := by
  intro k h hk hR a1
  obtain ⟨hT, hD, ⟨V, hW, hC, hM⟩, hU, hK⟩ := id hR
  have hn := hW.n
  unfold fX4_mend fX5_mend
  rcases grp_case hC hM hW a1 with ⟨h1, h2⟩ | ⟨h1, h2, g, hg, rfl⟩
  · exact ⟨-1, h, h, by rw [h1, if_pos rfl], by rw [h2, if_pos rfl], RR_mono k h hR⟩
  have hg5 : g < 5 := by have := hW.1.2; omega
  rw [h1, if_neg n10, q_can hC hW (by omega) hg5, Option.bind_some]
  cases hc : cmpS V g with
  | none =>
    refine ⟨-4, h, h, rfl, ?_, RR_mono k h hR⟩
    rw [h2, if_neg n10, m_wrongBy hM hW (by omega) (by omega), Option.bind_some, hc]
    rfl
  | some q =>
    obtain ⟨y, w⟩ := q
    rw [show (if (some (y, w)).isSome = true then (1 : Int32) else 0) = 1 from rfl, if_neg n10]
    have hy : y ≤ 16 * 170001 ∧ w ≤ 170000 := by
      obtain ⟨t, ht, h11⟩ := Option.bind_eq_some_iff.mp hc
      obtain ⟨w', hw, h12⟩ := Option.bind_eq_some_iff.mp h11
      obtain ⟨s', hs', h13⟩ := Option.map_eq_some_iff.mp h12
      have h14 : s' = y := congrArg Prod.fst h13
      have h15 : w' = w := congrArg Prod.snd h13
      subst h14
      subst h15
      exact ⟨sumS_lt hW hs', vWhole_lt hW (topS_lt ht) hw⟩
    have hb : ∀ i, upS V g (vN V) i ≤ 144 ∧ dnS V g (vN V) i ≤ 144 := fun i => by
      have := upS_le V g (vN V) i
      have := dnS_le V g (vN V) i
      omega
    obtain ⟨ha, p1, p2, p3⟩ := q_room (N := N) hW (by omega) hg5 h hC
    have hC1 : RowV (ha 7) V := by rw [p2 7 (by decide) (by decide)]; exact hC
    have hM1 : ModV (ha 23) V := by rw [p2 23 (by decide) (by decide)]; exact hM
    obtain ⟨o, o1, o2⟩ := lm_spec (N := N) hb hN p3 3 0 ((w : Int) - y) (by omega) (by omega) (by omega)
    obtain ⟨hm, r1, r2, r3⟩ := m_room (N := N) hW (by omega) hg5 ha hM1
    have ez : -(nI y - nI w : Int32) = zI ((w : Int) - y) := by
      rw [z_nI, z_nI, z_sub, z_neg]
      congr 1
      omega
    have frame : ∀ hb' : Hp, (∀ q, q ≠ 18 → q ≠ 19 → q ≠ 29 → q ≠ 30 → hb' q = h q) → RR (k + 1) hb' := fun hb' fr => RR_mono k hb' (RR_frame hR (TX_frame hT (fr 0 (by decide) (by decide) (by decide) (by decide)) (fr 1 (by decide) (by decide) (by decide) (by decide)) (fr 26 (by decide) (by decide) (by decide) (by decide)) (by rw [fr 22 (by decide) (by decide) (by decide) (by decide)])) (DY_frame hD (by rw [fr 8 (by decide) (by decide) (by decide) (by decide)]) (by rw [fr 10 (by decide) (by decide) (by decide) (by decide)]) (by rw [fr 12 (by decide) (by decide) (by decide) (by decide)]) (by rw [fr 12 (by decide) (by decide) (by decide) (by decide)])) (fr 7 (by decide) (by decide) (by decide) (by decide)) (by rw [fr 8 (by decide) (by decide) (by decide) (by decide)]) (fr 9 (by decide) (by decide) (by decide) (by decide)) (by rw [fr 10 (by decide) (by decide) (by decide) (by decide)]) (fr 11 (by decide) (by decide) (by decide) (by decide)) (fr 23 (by decide) (by decide) (by decide) (by decide)) (fr 24 (by decide) (by decide) (by decide) (by decide)) (fr 25 (by decide) (by decide) (by decide) (by decide)) (by rw [fr 22 (by decide) (by decide) (by decide) (by decide)]) (by rw [fr 22 (by decide) (by decide) (by decide) (by decide)]))
    have e4 : ((fX4_measureRoom N h (nI g)).bind fun z2 => ((fX0_excessOf N z2.2 7 (nI g)).bind fun v3 => ((lmR N z2.2 18 4 19 4 5 0 (-v3)).bind fun v4 => (some (v4, z2.2))))) = some (encP o, ha) := by
      rw [p1, Option.bind_some]
      show ((fX0_excessOf N ha 7 (nI g)).bind fun v3 => ((lmR N ha 18 4 19 4 5 0 (-v3)).bind fun v4 => (some (v4, ha)))) = _
      rw [q_excess hC1 hW (by omega) hg5 hc, Option.bind_some, ez, show lmR N ha 18 4 19 4 5 0 (zI ((w : Int) - y)) = some (encP o) from o2]
      rfl
    have e0 : fX5_isGroup ha (nI g) = 1 := by rw [← h2]; unfold fX5_isGroup; rw [p2 23 (by decide) (by decide)]; rfl
    have ew : fX5_wrongBy N ha (nI g) = some (zI ((y : Int) - w + 100000)) := by
      rw [m_wrongBy hM1 hW (by omega) (by omega), hc]
      show some (nI y - nI w + 100000) = _
      rw [z_nI, z_nI, z_sub, show (100000 : Int32) = zI 100000 from by decide, z_add]
    by_cases hf : (y : Int) - w = -100004
    · have hnone : o = none := by
        cases o with
        | none => rfl
        | some m =>
          have := o1.1
          rw [show (w : Int) - y = 100004 by omega] at this
          exact absurd this (mend_far hW hc hf m)
      subst hnone
      refine ⟨-4, ha, ha, e4, ?_, frame ha (fun q q1 q2 q3 q4 => p2 q q1 q2)⟩
      rw [e0, if_neg n10, ew, Option.bind_some, if_pos (show zI ((y : Int) - w + 100000) = -4 by rw [hf]; decide)]
    · refine ⟨encP o, ha, hm, e4, ?_, frame hm (fun q q1 q2 q3 q4 => by rw [r2 q q3 q4, p2 q q1 q2])⟩
      rw [e0, if_neg n10, ew, Option.bind_some, if_neg (show ¬ zI ((y : Int) - w + 100000) = -4 from fun q => hf (by
        have := (z_eq (a := (y : Int) - w + 100000) (b := -4) (by omega) (by omega) (by omega) (by omega)).mp (by rw [q]; decide)
        omega)), r1, Option.bind_some]
      show fX5_mend_L48 N (nI g) N (100000 - zI ((y : Int) - w + 100000)) 1000000 (-(hm 30 3)) hm = _
      rw [show (100000 - zI ((y : Int) - w + 100000) : Int32) = zI ((w : Int) - y) from by
        rw [show (100000 : Int32) = zI 100000 from by decide, z_sub]
        congr 1
        omega]
      exact mm_all (N := N) hb hN r3 ⟨by omega, by omega⟩ o1
