/-! sets as bits: of cords, and of the members among them -/
theorem x_or (a b : Nat) : nI a ||| nI b = nI (a ||| b) := by
  apply Int32.toBitVec_inj.mp
  rw [Int32.toBitVec_or]
  show BitVec.ofNat 32 a ||| BitVec.ofNat 32 b = BitVec.ofNat 32 (a ||| b)
  rw [BitVec.ofNat_or]
theorem x_and (a b : Nat) : nI a &&& nI b = nI (a &&& b) := by
  apply Int32.toBitVec_inj.mp
  rw [Int32.toBitVec_and]
  show BitVec.ofNat 32 a &&& BitVec.ofNat 32 b = BitVec.ofNat 32 (a &&& b)
  rw [BitVec.ofNat_and]
theorem x_xor (a b : Nat) : nI a ^^^ nI b = nI (a ^^^ b) := by
  apply Int32.toBitVec_inj.mp
  rw [Int32.toBitVec_xor]
  show BitVec.ofNat 32 a ^^^ BitVec.ofNat 32 b = BitVec.ofNat 32 (a ^^^ b)
  rw [BitVec.ofNat_xor]
def subm (M U : Nat) : Prop := ∀ b, M.testBit b = true → U.testBit b = true
theorem x_subm {M U : Nat} (hM : M < 2 ^ 17) (hU : U < 2 ^ 17) : (nI M &&& (nI U ^^^ (-1)) = 0) ↔ subm M U := by
  have e1 : (-1 : Int32) = nI (2 ^ 32 - 1) := by decide
  have hle : M &&& (U ^^^ (2 ^ 32 - 1)) ≤ M := Nat.and_le_left
  rw [e1, x_xor, x_and, show (0 : Int32) = nI 0 from rfl, nI_eq (by omega) (by omega)]
  constructor
  · intro h b hb
    have h2 : (M &&& (U ^^^ (2 ^ 32 - 1))).testBit b = false := by rw [h]; exact Nat.zero_testBit b
    rw [Nat.testBit_and, Nat.testBit_xor, Nat.testBit_two_pow_sub_one, hb, Bool.true_and] at h2
    have hb32 : b < 32 := by
      rcases Nat.lt_or_ge b 32 with q | q
      · exact q
      · have := Nat.testBit_lt_two_pow (x := M) (i := b) (Nat.lt_of_lt_of_le hM (Nat.pow_le_pow_right (by decide) (by omega)))
        rw [this] at hb
        cases hb
    rw [decide_eq_true hb32] at h2
    cases hu : U.testBit b with
    | true => rfl
    | false => rw [hu] at h2; cases h2
  · intro h
    apply Nat.eq_of_testBit_eq
    intro b
    rw [Nat.testBit_and, Nat.testBit_xor, Nat.testBit_two_pow_sub_one, Nat.zero_testBit]
    cases hm : M.testBit b with
    | false => rfl
    | true =>
      have hb32 : b < 32 := by
        rcases Nat.lt_or_ge b 32 with q | q
        · exact q
        · have := Nat.testBit_lt_two_pow (x := M) (i := b) (Nat.lt_of_lt_of_le hM (Nat.pow_le_pow_right (by decide) (by omega)))
          rw [this] at hm
          cases hm
      rw [h b hm, decide_eq_true hb32]
      rfl
theorem x_sh : ∀ n, n < 32 → ((nI n &&& 31).toBitVec.smod 32).toNat = n := by decide +kernel
theorem tb_div (M b : Nat) : M / 2 ^ b % 2 = if M.testBit b = true then 1 else 0 := by
  rw [Nat.testBit_eq_decide_div_mod_eq]
  have := Nat.mod_two_eq_zero_or_one (M / 2 ^ b)
  by_cases h : M / 2 ^ b % 2 = 1
  · rw [if_pos (decide_eq_true h)]; exact h
  · rw [if_neg (by rw [decide_eq_true_eq]; exact h)]; omega
theorem x_bit {M b : Nat} (hM : M < 2 ^ 31) (hb : b < 32) : (nI M >>> (nI b &&& 31)) &&& 1 = nI (if M.testBit b = true then 1 else 0) := by
  have h1 : M / 2 ^ b ≤ M := Nat.div_le_self _ _
  rw [pk_shrN hM _ b (x_sh b hb), pk_andN (by omega) 1 (by decide), ← tb_div]
theorem x_bit1 {α : Type} {M b : Nat} (hM : M < 2 ^ 31) (hb : b < 32) (x y : α) : (if (nI M >>> (nI b &&& 31)) &&& 1 = 1 then x else y) = if M.testBit b = true then x else y := by
  rw [x_bit hM hb]
  cases M.testBit b with
  | true => rw [if_pos (show nI (if true = true then 1 else 0) = 1 from rfl), if_pos rfl]
  | false => rw [if_neg (show ¬ nI (if false = true then 1 else 0) = 1 by decide), if_neg (by decide)]
theorem x_shl {a b : Nat} (hb : b < 32) (h : a * 2 ^ b < 2 ^ 32) : nI a <<< (nI b &&& 31) = nI (a * 2 ^ b) := pk_shlN _ b (x_sh b hb) h
theorem x_shl1 {b : Nat} (hb : b < 31) : (1 : Int32) <<< (nI b &&& 31) = nI (2 ^ b) := by
  have h : 2 ^ b ≤ 2 ^ 30 := Nat.pow_le_pow_right (by decide) (by omega)
  have := x_shl (a := 1) (b := b) (by omega) (by omega)
  rw [Nat.one_mul] at this
  exact this
theorem or_add {a b k : Nat} (h : b < 2 ^ k) : (2 ^ k * a) ||| b = 2 ^ k * a + b := (Nat.two_pow_add_eq_or_of_lt h a).symm
theorem x_oradd {a b : Nat} (h : a < 2 ^ b) : nI a ||| nI (2 ^ b) = nI (a + 2 ^ b) := by
  have := or_add (a := 1) h
  rw [Nat.mul_one] at this
  rw [x_or, Nat.or_comm, this, Nat.add_comm]
theorem mod_pow_s (x n : Nat) : x % 2 ^ (n + 1) = x % 2 ^ n + 2 ^ n * (x.testBit n).toNat := by
  rw [Nat.pow_succ, Nat.mod_mul, tb_div]
  cases x.testBit n <;> rfl
section MM
variable (mem : Nat → Bool)
def idx (n : Nat) : Nat := ((List.range n).filter mem).length
theorem idx_s (n : Nat) : idx mem (n + 1) = idx mem n + if mem n = true then 1 else 0 := by
  unfold idx
  rw [List.range_succ, List.filter_append, List.length_append]
  by_cases h : mem n = true
  · rw [if_pos h, List.filter_cons_of_pos (p := mem) (a := n) h]; rfl
  · rw [if_neg h, List.filter_cons_of_neg (p := mem) (a := n) h]; rfl
theorem idx_le : ∀ n, idx mem n ≤ n
  | 0 => Nat.le_refl _
  | n + 1 => by
    have := idx_le n
    rw [idx_s]
    split <;> omega
theorem idx_mono : ∀ (n k : Nat), idx mem n ≤ idx mem (n + k)
  | n, 0 => Nat.le_refl _
  | n, k + 1 => by
    have := idx_mono n k
    rw [← Nat.add_assoc, idx_s]
    split <;> omega
theorem idx_lt {b n : Nat} (h : b < n) (hm : mem b = true) : idx mem b < idx mem n := by
  have h1 := idx_mono mem (b + 1) (n - (b + 1))
  rw [show b + 1 + (n - (b + 1)) = n by omega, idx_s, if_pos hm] at h1
  omega
/-- the cords of a set of members -/
def asN (s : Nat) : Nat → Nat
  | 0 => 0
  | n + 1 => asN s n + if (mem n && s.testBit (idx mem n)) = true then 2 ^ n else 0
def uN : Nat → Nat
  | 0 => 0
  | n + 1 => uN n + if mem n = true then 2 ^ n else 0
def cmpN (M : Nat) : Nat → Nat
  | 0 => 0
  | n + 1 => cmpN M n + if (mem n && M.testBit n) = true then 2 ^ idx mem n else 0
theorem asN_lt (s : Nat) : ∀ n, asN mem s n < 2 ^ n
  | 0 => by rw [asN]; exact Nat.pow_pos (by decide)
  | n + 1 => by
    have := asN_lt s n
    rw [asN, Nat.pow_succ]
    split <;> omega
theorem uN_lt : ∀ n, uN mem n < 2 ^ n
  | 0 => by rw [uN]; exact Nat.pow_pos (by decide)
  | n + 1 => by
    have := uN_lt n
    rw [uN, Nat.pow_succ]
    split <;> omega
theorem cmpN_lt (M : Nat) : ∀ n, cmpN mem M n < 2 ^ idx mem n
  | 0 => by show 0 < 2 ^ _; exact Nat.pow_pos (by decide)
  | n + 1 => by
    have := cmpN_lt M n
    rw [cmpN, idx_s]
    by_cases h : mem n = true
    · rw [if_pos h, Nat.pow_succ]
      split <;> omega
    · have h' : mem n = false := by simpa using h
      rw [if_neg h, h']
      simpa using this
theorem tb_add {x i b : Nat} (hx : x < 2 ^ i) (y : Bool) : (x + if y = true then 2 ^ i else 0).testBit b = if b < i then x.testBit b else if b = i then y else false := by
  cases y with
  | false =>
    rw [if_neg (by decide), Nat.add_zero]
    by_cases h1 : b < i
    · rw [if_pos h1]
    · rw [if_neg h1, Nat.testBit_lt_two_pow (Nat.lt_of_lt_of_le hx (Nat.pow_le_pow_right (by decide) (by omega)))]
      split <;> rfl
  | true =>
    rw [if_pos rfl, Nat.add_comm]
    by_cases h1 : b < i
    · rw [if_pos h1, Nat.testBit_two_pow_add_gt h1]
    · rw [if_neg h1]
      by_cases h2 : b = i
      · subst h2
        rw [if_pos rfl, Nat.testBit_two_pow_add_eq, Nat.testBit_lt_two_pow hx]; rfl
      · rw [if_neg h2]
        refine Nat.testBit_lt_two_pow ?_
        have : 2 ^ (i + 1) ≤ 2 ^ b := Nat.pow_le_pow_right (by decide) (by omega)
        rw [Nat.pow_succ] at this
        omega
theorem asN_bit (s : Nat) : ∀ n b, (asN mem s n).testBit b = (decide (b < n) && (mem b && s.testBit (idx mem b)))
  | 0, b => by rw [asN, Nat.zero_testBit]; simp
  | n + 1, b => by
    rw [asN, tb_add (asN_lt mem s n), asN_bit s n b]
    by_cases h1 : b < n
    · have : b < n + 1 := by omega
      simp [h1, this]
    · by_cases h2 : b = n
      · subst h2; simp
      · have : ¬ b < n + 1 := by omega
        simp [h1, h2, this]
theorem uN_bit : ∀ n b, (uN mem n).testBit b = (decide (b < n) && mem b)
  | 0, b => by rw [uN, Nat.zero_testBit]; simp
  | n + 1, b => by
    rw [uN, tb_add (uN_lt mem n), uN_bit n b]
    by_cases h1 : b < n
    · have : b < n + 1 := by omega
      simp [h1, this]
    · by_cases h2 : b = n
      · subst h2; simp
      · have : ¬ b < n + 1 := by omega
        simp [h1, h2, this]
theorem asN_sub (s n : Nat) : subm (asN mem s n) (uN mem n) := fun b h => by
  rw [asN_bit, Bool.and_eq_true, Bool.and_eq_true] at h
  rw [uN_bit, Bool.and_eq_true]
  exact ⟨h.1, h.2.1⟩
theorem cmp_bit (M : Nat) : ∀ n b, b < n → mem b = true → (cmpN mem M n).testBit (idx mem b) = M.testBit b
  | 0, b, h, _ => by omega
  | n + 1, b, h, hm => by
    rw [cmpN, tb_add (cmpN_lt mem M n)]
    by_cases h1 : b < n
    · rw [if_pos (idx_lt mem h1 hm), cmp_bit M n b h1 hm]
    · have : b = n := by omega
      subst this
      rw [if_neg (by omega), if_pos rfl, hm, Bool.true_and]
theorem asN_cmp {M n : Nat} (h : subm M (uN mem n)) : asN mem (cmpN mem M n) n = M := by
  apply Nat.eq_of_testBit_eq
  intro b
  rw [asN_bit]
  cases hM : M.testBit b with
  | true =>
    have h1 := h b hM
    rw [uN_bit, Bool.and_eq_true, decide_eq_true_eq] at h1
    rw [decide_eq_true h1.1, h1.2, cmp_bit mem M n b h1.1 h1.2, hM]
    rfl
  | false =>
    by_cases h1 : b < n
    · by_cases h2 : mem b = true
      · rw [cmp_bit mem M n b h1 h2, hM]; simp
      · simp [h2]
    · simp [h1]
theorem asN_ord (s t : Nat) : ∀ n, (s % 2 ^ idx mem n < t % 2 ^ idx mem n → asN mem s n < asN mem t n) ∧ (s % 2 ^ idx mem n = t % 2 ^ idx mem n → asN mem s n = asN mem t n)
  | 0 => by
    have e : idx mem 0 = 0 := rfl
    rw [e, Nat.pow_zero]
    exact ⟨fun h => by omega, fun _ => rfl⟩
  | n + 1 => by
    obtain ⟨i1, i2⟩ := asN_ord s t n
    have ls := asN_lt mem s n
    have lt := asN_lt mem t n
    rw [asN, asN, idx_s]
    by_cases hm : mem n = true
    · rw [if_pos hm, mod_pow_s, mod_pow_s, hm, Bool.true_and, Bool.true_and]
      have l1 := Nat.mod_lt s (Nat.pow_pos (n := idx mem n) (show 0 < 2 by decide))
      have l2 := Nat.mod_lt t (Nat.pow_pos (n := idx mem n) (show 0 < 2 by decide))
      cases s.testBit (idx mem n) <;> cases t.testBit (idx mem n) <;> simp only [Bool.toNat_false, Bool.toNat_true, Nat.mul_zero, Nat.mul_one, Nat.add_zero, if_true, if_neg (show ¬ false = true by decide)]
      · exact ⟨i1, i2⟩
      · exact ⟨fun _ => by omega, fun h => by omega⟩
      · exact ⟨fun h => by omega, fun h => by omega⟩
      · exact ⟨fun h => by have := i1 (by omega); omega, fun h => by have := i2 (by omega); omega⟩
    · have hm' : mem n = false := by simpa using hm
      rw [if_neg hm, hm', Nat.add_zero]
      simpa using ⟨i1, i2⟩
theorem asN_mono {s t n : Nat} (hs : s < 2 ^ idx mem n) (ht : t < 2 ^ idx mem n) (h : s ≤ t) : asN mem s n ≤ asN mem t n := by
  obtain ⟨i1, i2⟩ := asN_ord mem s t n
  rw [Nat.mod_eq_of_lt hs, Nat.mod_eq_of_lt ht] at i1 i2
  rcases Nat.lt_or_eq_of_le h with q | q
  · exact Nat.le_of_lt (i1 q)
  · exact Nat.le_of_eq (i2 q)
/-- a number for each set: of the members by their places, of cords by their bits -/
def sI (v : Nat → Nat) (s : Nat) : Nat → Nat
  | 0 => 0
  | i + 1 => sI v s i + if s.testBit i = true then v i else 0
theorem sI_le {v : Nat → Nat} {K : Nat} (s : Nat) : ∀ n, (∀ i, i < n → v i ≤ K) → sI v s n ≤ n * K
  | 0, _ => by rw [sI]; omega
  | n + 1, h => by
    have h1 := sI_le s n (fun i hi => h i (by omega))
    have h2 := h n (by omega)
    rw [sI, Nat.succ_mul]
    split <;> omega
theorem sI_as {v val : Nat → Nat} (s : Nat) : ∀ n, (∀ b, b < n → mem b = true → v (idx mem b) = val b) → sI val (asN mem s n) n = sI v s (idx mem n) := by
  intro n hv
  have key : ∀ k, k ≤ n → sI val (asN mem s n) k = sI v s (idx mem k) := by
    intro k
    induction k with
    | zero => intro _; rfl
    | succ k ih =>
      intro hk
      rw [sI, ih (by omega), idx_s, asN_bit, decide_eq_true (show k < n by omega), Bool.true_and]
      by_cases hm : mem k = true
      · rw [if_pos hm, hm, Bool.true_and, sI, hv k (by omega) hm]
      · have hm' : mem k = false := by simpa using hm
        rw [if_neg hm, hm']
        rfl
  exact key n (Nat.le_refl _)
def LexMin (P : Nat → Prop) (f : Nat → Nat) (s : Nat) : Prop := P s ∧ ∀ t, P t → f s < f t ∨ (f s = f t ∧ s ≤ t)
theorem LexMin.uniq {P : Nat → Prop} {f : Nat → Nat} {s t : Nat} (h1 : LexMin P f s) (h2 : LexMin P f t) : s = t := by
  have a := h1.2 t h2.1
  have b := h2.2 s h1.1
  omega
theorem LexMin.congr {P Q : Nat → Prop} {f : Nat → Nat} {s : Nat} (h : LexMin P f s) (e : ∀ t, P t ↔ Q t) : LexMin Q f s := ⟨(e s).mp h.1, fun t ht => h.2 t ((e t).mpr ht)⟩
theorem lex_as {P Q : Nat → Prop} {f g : Nat → Nat} {s n : Nat} (h : LexMin (fun t => t < 2 ^ idx mem n ∧ P t) f s) (hPQ : ∀ t, t < 2 ^ idx mem n → (P t ↔ Q (asN mem t n))) (hfg : ∀ t, t < 2 ^ idx mem n → f t = g (asN mem t n)) : LexMin (fun M => subm M (uN mem n) ∧ Q M) g (asN mem s n) := by
  obtain ⟨⟨h1, h2⟩, h3⟩ := h
  refine ⟨⟨asN_sub mem s n, (hPQ s h1).mp h2⟩, fun M ⟨q1, q2⟩ => ?_⟩
  have hc := cmpN_lt mem M n
  have e := asN_cmp mem q1
  have h4 := h3 (cmpN mem M n) ⟨hc, (hPQ _ hc).mpr (by rw [e]; exact q2)⟩
  have f1 := hfg s h1
  have f2 := hfg _ hc
  rw [e] at f2
  rcases h4 with q | ⟨q, q'⟩
  · left; omega
  · right
    refine ⟨by omega, ?_⟩
    have := asN_mono mem h1 hc q'
    rw [e] at this
    exact this
end MM
