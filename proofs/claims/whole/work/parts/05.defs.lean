/-! the cells: the class's, then the reference's -/
def lyX : Ly := [(0, 4, [3, 0, 4, 8, 10, 12, 14, 20, 21, 22, 23]), (2, 200, []), (0, 1, [5, 7, 0, 0, 0]), (0, 0, [6]), (1, 179, []), (1, 3, []), (0, 0, [9]), (1, 179, []), (0, 3, [0, 11, 0]), (1, 1432, []), (0, 3, [0, 13, 0]), (1, 358, []), (0, 2, [15, 16, 17, 1, 1, 0, 0, 0, 0]), (1, 16, []), (1, 16, []), (1, 256, []), (1, 256, []), (1, 256, []), (1, 4, []), (1, 4, []), (1, 16, []), (1, 16, [])]
def lyM : Ly := [(0, 5, [25, 26, 0, 27, 0, 28, 0, 29, 0, 0, 0, 30, 31, 32, 33, 34, 35]), (1, 162, []), (1, 1296, []), (1, 324, []), (1, 200, []), (1, 162, []), (1, 3, []), (1, 4, []), (1, 4, []), (1, 4, []), (1, 16, []), (1, 16, [])]
def LX (w : Wd) : Prop := ∀ (i : Nat) (e : Nat × Nat × List Nat), lyX[i]? = some e → w.2.2.1[i]? = some e
def LM (w : Wd) : Prop := ∀ (i : Nat) (e : Nat × Nat × List Nat), (lyX ++ lyM)[i]? = some e → 22 ≤ i → w.2.2.1[i]? = some e
def atF (h : Hp) (q n : Nat) (i : Int32) : Int32 := if i < 0 then 0 else if i < Int32.ofNat n then h q i.toNatClampNeg else 0
def putF (h : Hp) (q n : Nat) (i v : Int32) : Hp := if i < 0 then h else if i < Int32.ofNat n then hset h q i.toNatClampNeg v else h
def tensV (i : Int32) : Int32 := if i < 0 then 0 else if i < 5 then 10 ^ i.toNatClampNeg else 0
theorem ofNat_le (n : Nat) : (Int32.ofNat n).toInt ≤ n := by
  rcases Nat.lt_or_ge n (2 ^ 31) with hn | hn
  · have := nI_toInt hn
    unfold nI at this
    omega
  · have := Int32.toInt_lt (Int32.ofNat n)
    omega
theorem lt_ofNat {i : Int32} {n : Nat} (h0 : ¬ i < 0) (h : i < Int32.ofNat n) : 0 ≤ i.toInt ∧ i.toInt < n := by
  rw [Int32.lt_iff_toInt_lt] at h h0
  have h1 := ofNat_le n
  have h2 : (0 : Int32).toInt = 0 := rfl
  omega
theorem dynK {w : Wd} (hL : LX w) {v : Int32} (hc : v = 16 ∨ v = 17) : w.2.2.1[v.toNatClampNeg]? = some (1, 256, []) := by
  rcases hc with e | e <;> subst e
  · exact hL 16 _ rfl
  · exact hL 17 _ rfl
def fX1_opensHanging (h : Hp) (a1 : Int32) : Option Rs :=
  (if a1 = 40 then (if (h 2 3) < 2 then ((some (hset h 2 3 ((h 2 3) + 1))).bind fun g1 => ((some (hset g1 2 2 1)).bind fun g2 => (some (1, g2)))) else (some (0, h))) else (some (0, h)))
def fX2_clear (h : Hp) : Option Rs :=
  ((some (hset h 12 5 0)).bind fun g1 => (some (0, g1)))
def fX3_clear (h : Hp) (sh sl nl : Nat) : Option Rs :=
  ((some (hset h sh 2 0)).bind fun g1 => (some (0, g1)))
def fX4_write (h : Hp) (a1 : Int32) : Option Rs :=
  (if a1 < 32 then (some ((-1), h)) else (if 126 < a1 then (some ((-1), h)) else (if (h 0 1) < 0 then (some ((-3), h)) else (if (h 0 1) < 200 then (if 0 ≤ ((h 0 1)).toInt ∧ ((h 0 1)).toInt < (200 : Nat) then ((some (hset h 1 ((h 0 1)).toNatClampNeg (vp_nar .char ((a1).toUInt32 % 65536).toInt32))).bind fun g1 => ((some (hset g1 0 1 ((g1 0 1) + 1))).bind fun g2 => (some ((g2 0 1), g2)))) else none) else (some ((-3), h))))))
def fX4_wipe (h : Hp) : Option Rs :=
  ((some (hset h 0 1 0)).bind fun g1 => (some ((h 0 1), g1)))
def fX4_drawn (h : Hp) (a0 : Int32) (a1 : Int32) : Int32 :=
  (((((((((7919 * (a0).toInt64) + (6151 * (a1).toInt64)) + 1) * (((7919 * (a0).toInt64) + (6151 * (a1).toInt64)) + 1)) - ((((7919 * (a0).toInt64) + (6151 * (a1).toInt64)) + 1) * (((7919 * (a0).toInt64) + (6151 * (a1).toInt64)) + 1)) / 65521 * 65521) / 8) - ((((((7919 * (a0).toInt64) + (6151 * (a1).toInt64)) + 1) * (((7919 * (a0).toInt64) + (6151 * (a1).toInt64)) + 1)) - ((((7919 * (a0).toInt64) + (6151 * (a1).toInt64)) + 1) * (((7919 * (a0).toInt64) + (6151 * (a1).toInt64)) + 1)) / 65521 * 65521) / 8) / 21 * 21)).toInt32 - 10)
def fX4_isColour (h : Hp) (a0 : Int32) : Int32 :=
  (if a0 < 0 then 0 else (if 9 < a0 then 0 else 1))
def fX4_canCount (h : Hp) (a0 : Int32) (a1 : Int32) : Int32 :=
  (if a0 = 0 then (if a1 = 0 then 1 else 0) else (if a0 = 1 then (if a1 < 1 then 0 else (if 9 < a1 then 0 else 1)) else (if a0 = 2 then (if a1 < 2 then 0 else (if 9 < a1 then 0 else 1)) else (if a0 = 3 then (if a1 = 1 then 1 else 0) else 0))))
def fX4_kindOf (h : Hp) (a0 : Int32) : Int32 :=
  (a0 / 10)
def fX4_countOf (h : Hp) (a0 : Int32) : Int32 :=
  (a0 - a0 / 10 * 10)
def fX4_codeToTell (h : Hp) (a0 : Int32) (a1 : Int32) : Int32 :=
  (if a0 = 0 then 0 else (if 0 < a1 then (10 + a0) else (if a0 = 1 then ((10 * 3) + a0) else ((10 * 2) + a0))))
def fX4_tens (h : Hp) (a0 : Int32) : Option Int32 :=
  (if a0 < 0 then (some 0) else (if a0 < 5 then (if 0 ≤ (a0).toInt ∧ (a0).toInt < (5 : Nat) then (some (10 ^ (a0).toNatClampNeg)) else none) else (some 0)))
def fX4_at (h : Hp) (q0 n0 : Nat) (a1 : Int32) : Option Int32 :=
  (if a1 < 0 then (some 0) else (if a1 < (Int32.ofNat n0) then ((rdH h q0 n0 a1).bind fun v1 => (some v1)) else (some 0)))
def fX4_put (h : Hp) (q0 n0 : Nat) (a1 : Int32) (a2 : Int32) : Option Rs :=
  (if a1 < 0 then (some (0, h)) else (if a1 < (Int32.ofNat n0) then (if 0 ≤ (a1).toInt ∧ (a1).toInt < (n0 : Nat) then ((some (hset h q0 (a1).toNatClampNeg a2)).bind fun g1 => (some (0, g1))) else none) else (some (0, h))))
def fX5_first (h : Hp) (a1 : Int32) (a2 : Int32) (a3 : Int32) (a4 : Int32) (a5 : Int32) (a6 : Int32) : Option Rs :=
  (if 0 ≤ ((2 + a1)).toInt ∧ ((2 + a1)).toInt < (162 : Nat) then ((some (hset h 27 ((2 + a1)).toNatClampNeg a2)).bind fun g1 => (if 0 ≤ ((18 + a1)).toInt ∧ ((18 + a1)).toInt < (162 : Nat) then ((some (hset g1 27 ((18 + a1)).toNatClampNeg a3)).bind fun g2 => (if 0 ≤ ((98 + a1)).toInt ∧ ((98 + a1)).toInt < (162 : Nat) then ((some (hset g2 27 ((98 + a1)).toNatClampNeg a4)).bind fun g3 => (if 0 ≤ ((114 + a1)).toInt ∧ ((114 + a1)).toInt < (162 : Nat) then ((some (hset g3 27 ((114 + a1)).toNatClampNeg a5)).bind fun g4 => (if 0 ≤ ((130 + a1)).toInt ∧ ((130 + a1)).toInt < (162 : Nat) then ((some (hset g4 27 ((130 + a1)).toNatClampNeg a6)).bind fun g5 => (if 0 ≤ ((146 + a1)).toInt ∧ ((146 + a1)).toInt < (162 : Nat) then ((some (hset g5 27 ((146 + a1)).toNatClampNeg a1)).bind fun g6 => (some (0, g6))) else none)) else none)) else none)) else none)) else none)) else none)
def fX5_knots (h : Hp) (a1 : Int32) (a2 : Int32) (a3 : Int32) (a4 : Int32) (a5 : Int32) : Option Rs :=
  (if 0 ≤ ((34 + (4 * a1))).toInt ∧ ((34 + (4 * a1))).toInt < (162 : Nat) then ((some (hset h 27 ((34 + (4 * a1))).toNatClampNeg a2)).bind fun g1 => (if 0 ≤ (((34 + (4 * a1)) + 1)).toInt ∧ (((34 + (4 * a1)) + 1)).toInt < (162 : Nat) then ((some (hset g1 27 (((34 + (4 * a1)) + 1)).toNatClampNeg a3)).bind fun g2 => (if 0 ≤ (((34 + (4 * a1)) + 2)).toInt ∧ (((34 + (4 * a1)) + 2)).toInt < (162 : Nat) then ((some (hset g2 27 (((34 + (4 * a1)) + 2)).toNatClampNeg a4)).bind fun g3 => (if 0 ≤ (((34 + (4 * a1)) + 3)).toInt ∧ (((34 + (4 * a1)) + 3)).toInt < (162 : Nat) then ((some (hset g3 27 (((34 + (4 * a1)) + 3)).toNatClampNeg a5)).bind fun g4 => (some (0, g4))) else none)) else none)) else none)) else none)
def fX5_in (h : Hp) (a0 : Int64) (a2 : Int64) (a4 : Int64) : Int32 :=
  (if (lg_cmp a0 a2) < 0 then 0 else (if 0 < (lg_cmp a0 a4) then 0 else 1))
theorem in01 (h : Hp) (a b c : Int64) : fX5_in h a b c = 0 ∨ fX5_in h a b c = 1 := by
  unfold fX5_in
  split
  · exact Or.inl rfl
  · split
    · exact Or.inl rfl
    · exact Or.inr rfl
def fX5_wipe (h : Hp) : Option Rs :=
  ((some (hset h 22 6 0)).bind fun g1 => (some ((h 22 6), g1)))
def fX5_newest (h : Hp) : Int32 :=
  ((h 27 0) - 1)
def fX5_hasRoom (h : Hp) : Int32 :=
  (if (h 27 0) < 16 then 1 else 0)
def fX5_goesTo (h : Hp) (a1 : Int32) : Option Rs :=
  ((some (hset h 22 8 a1)).bind fun g1 => (some (1, g1)))
def fX5_copies_L3 (N : Nat) (q0 n0 : Nat) (a1 : Int32) (q2 n2 : Nat) (a3 : Int32) : Nat → Int32 → Hp → Option Rs
  | 0, _, _ => none
  | n + 1, u4, h => (if u4 < 162 then ((rdH h q0 n0 (a1 + u4)).bind fun v1 => (if 0 ≤ ((a3 + u4)).toInt ∧ ((a3 + u4)).toInt < (n2 : Nat) then ((some (hset h q2 ((a3 + u4)).toNatClampNeg v1)).bind fun g2 => (fX5_copies_L3 N q0 n0 a1 q2 n2 a3 n (u4 + 1) g2)) else none)) else (some (0, h)))
def fX5_copies (N : Nat) (h : Hp) (q0 n0 : Nat) (a1 : Int32) (q2 n2 : Nat) (a3 : Int32) : Option Rs :=
  (fX5_copies_L3 N q0 n0 a1 q2 n2 a3 N 0 h)
def fX5_isPendant (h : Hp) (a1 : Int32) : Option Int32 :=
  ((rdH h 23 162 (98 + a1)).bind fun v1 => (if v1 < 0 then (some 1) else (some 0)))
def fX5_knot0 (h : Hp) (a1 : Int32) (a2 : Int32) : Option Int32 :=
  ((rdH h 23 162 ((34 + (4 * a1)) + a2)).bind fun v1 => (some v1))
def fX5_isUnder (h : Hp) (a1 : Int32) (a2 : Int32) : Option Int32 :=
  ((rdH h 23 162 (98 + a1)).bind fun v1 => (if v1 = a2 then (some 1) else (if v1 < 0 then (some 0) else ((rdH h 23 162 (98 + v1)).bind fun v2 => (if v2 = a2 then (some 1) else (some 0))))))
def fX5_knotsOf (h : Hp) (a0 : Int32) : Int32 :=
  (if a0 = 31 then 2 else (a0 - a0 / 10 * 10))
def fX5_hanging_L4 (N : Nat) (h : Hp) (a1 : Int32) : Nat → Int32 → Int32 → Option Int32
  | 0, _, _ => none
  | n + 1, u2, u3 => (if u3 < (h 23 0) then ((rdH h 23 162 (98 + u3)).bind fun v1 => (fX5_hanging_L4 N h a1 n (if v1 = a1 then (u2 + 1) else (u2 + 0)) (u3 + 1))) else (some u2))
def fX5_hanging (N : Nat) (h : Hp) (a1 : Int32) : Option Int32 :=
  (fX5_hanging_L4 N h a1 N 0 0)
def fX5_depthOf (h : Hp) (a1 : Int32) : Option Int32 :=
  ((rdH h 23 162 (98 + a1)).bind fun v1 => (if v1 < 0 then (some 0) else ((rdH h 23 162 (98 + v1)).bind fun v2 => (if v2 < 0 then (some 1) else (some 2)))))
def fX5_topOf_L5 (N : Nat) (h : Hp) (a1 : Int32) : Nat → Int32 → Int32 → Option Int32
  | 0, _, _ => none
  | n + 1, u2, u3 => (if u3 < (h 23 0) then ((rdH h 23 162 (130 + u3)).bind fun v1 => (if v1 = 1 then ((rdH h 23 162 (114 + u3)).bind fun v2 => (fX5_topOf_L5 N h a1 n (if v2 = a1 then u3 else u2) (u3 + 1))) else (fX5_topOf_L5 N h a1 n u2 (u3 + 1)))) else (some u2))
def fX5_topOf (N : Nat) (h : Hp) (a1 : Int32) : Option Int32 :=
  (fX5_topOf_L5 N h a1 N (-4) 0)
def fX5_power_L4 (N : Nat) (h : Hp) (a0 : Int32) : Nat → Int32 → Int32 → Option Int32
  | 0, _, _ => none
  | n + 1, u1, u2 => (if u2 < a0 then (fX5_power_L4 N h a0 n (u1 * 10) (u2 + 1)) else (some u1))
def fX5_power (N : Nat) (h : Hp) (a0 : Int32) : Option Int32 :=
  (fX5_power_L4 N h a0 N 1 0)
def fX5_clusterFor (h : Hp) (a0 : Int32) (a1 : Int32) : Int32 :=
  (if a0 = 0 then 0 else (if 0 < a1 then (10 + a0) else (if a0 = 1 then 31 else (20 + a0))))
def fX5_plain (h : Hp) (a0 : Int32) : Int32 :=
  (if a0 < 0 then (-a0) else a0)
def fX5_bits_L4 (N : Nat) (h : Hp) (a0 : Int32) : Nat → Int32 → Int32 → Option Int32
  | 0, _, _ => none
  | n + 1, u1, u2 => (if u2 = 0 then (some u1) else (fX5_bits_L4 N h a0 n (u1 + 1) (u2 &&& (u2 - 1))))
def fX5_bits (N : Nat) (h : Hp) (a0 : Int32) : Option Int32 :=
  (fX5_bits_L4 N h a0 N 0 a0)
def fX5_tellOf_L4 (N : Nat) (h : Hp) (a1 : Int32) : Nat → Int32 → Int32 → Option Int32
  | 0, _, _ => none
  | n + 1, u2, u3 => (if u3 < (h 23 0) then (if ((a1 >>> (u3 &&& 31)) &&& 1) = 1 then ((rdH h 32 16 u3).bind fun v1 => (fX5_tellOf_L4 N h a1 n (u2 + v1) (u3 + 1))) else (fX5_tellOf_L4 N h a1 n (u2 + 0) (u3 + 1))) else (some u2))
def fX5_tellOf (N : Nat) (h : Hp) (a1 : Int32) : Option Int32 :=
  (fX5_tellOf_L4 N h a1 N 0 0)
def fX5_hangingAt_L8 (N : Nat) (h : Hp) (a1 : Int32) (a2 : Int32) : Nat → Int32 → Int32 → Int32 → Option Int32
  | 0, _, _, _ => none
  | n + 1, u3, u4, u5 => (if u5 < (h 23 0) then ((rdH h 23 162 (98 + u5)).bind fun v1 => (if v1 = a1 then (fX5_hangingAt_L8 N h a1 a2 n (if u4 = a2 then u5 else u3) (u4 + 1) (u5 + 1)) else (fX5_hangingAt_L8 N h a1 a2 n u3 u4 (u5 + 1)))) else (some u3))
def fX5_hangingAt (N : Nat) (h : Hp) (a1 : Int32) (a2 : Int32) : Option Int32 :=
  (fX5_hangingAt_L8 N h a1 a2 N (-1) 0 0)
def fJ6_bitCount_0f7a4 (h : Hp) (a0 : Int32) : Option Int32 :=
  ((some (a0 - ((((a0).toUInt32 >>> ((1).toUInt32 &&& Int32.toUInt32 31)).toInt32) &&& 1431655765))).bind fun v1 => ((some ((v1 &&& 858993459) + ((((v1).toUInt32 >>> ((2).toUInt32 &&& Int32.toUInt32 31)).toInt32) &&& 858993459))).bind fun v2 => ((some ((v2 + (((v2).toUInt32 >>> ((4).toUInt32 &&& Int32.toUInt32 31)).toInt32)) &&& 252645135)).bind fun v3 => ((some (v3 + (((v3).toUInt32 >>> ((8).toUInt32 &&& Int32.toUInt32 31)).toInt32))).bind fun v4 => ((some (v4 + (((v4).toUInt32 >>> ((16).toUInt32 &&& Int32.toUInt32 31)).toInt32))).bind fun v5 => (some (v5 &&& 63)))))))
def fJ9_floorMod_7cf53 (h : Hp) (a0 : Int32) (a1 : Int32) : Option Int32 :=
  (if ¬ a1 = 0 then (if (a0 ^^^ a1) < 0 then (if (a0 - a0 / a1 * a1) = 0 then (some (a0 - a0 / a1 * a1)) else (some ((a0 - a0 / a1 * a1) + a1))) else (some (a0 - a0 / a1 * a1))) else none)
def fJ7_fill_53178_L5 (N : Nat) (q0 n0 : Nat) (a1 : Int32) : Nat → Int32 → Int32 → Hp → Option Rs
  | 0, _, _, _ => none
  | n + 1, u2, u3, h => (if u2 < u3 then (if 0 ≤ (u2).toInt ∧ (u2).toInt < (n0 : Nat) then ((some (hset h q0 (u2).toNatClampNeg a1)).bind fun g1 => (fJ7_fill_53178_L5 N q0 n0 a1 n (u2 + 1) u3 g1)) else none) else (some (0, h)))
def fJ7_fill_53178 (N : Nat) (h : Hp) (q0 n0 : Nat) (a1 : Int32) : Option Rs :=
  (fJ7_fill_53178_L5 N q0 n0 a1 N 0 (Int32.ofNat n0) h)
def fX2_add (h : Hp) (a1 : Int32) (a2 : Int32) : Option Rs :=
  ((some (putF h 13 16 (h 12 5) a1)).bind fun g1 => ((some (putF g1 14 16 (g1 12 5) a2)).bind fun g2 => ((some (hset g2 12 5 ((g2 12 5) + 1))).bind fun g3 => (some (0, g3)))))
def fX2_mergeWith_J106 (N : Nat) (a1 : Int32) (k15 : Int32 → Int32 → Int32 → Int32 → Hp → Option Rs) (u3 : Int32) (u4 : Int32) (u5 : Int32) (u8 : Int32) (t0 : Int32) (t1 : Int32) (h : Hp) : Option Rs :=
  (k15 (t1 + t0) (if u8 = 0 then (u3 + 1) else (u3 + 0)) u4 (u5 + 1) h)
def fX2_mergeWith_J92 (N : Nat) (a1 : Int32) (k15 : Int32 → Int32 → Int32 → Int32 → Hp → Option Rs) (u2 : Int32) (u3 : Int32) (u4 : Int32) (u5 : Int32) (u8 : Int32) (t0 : Int32) (t1 : Int32) (h : Hp) : Option Rs :=
  (if (h 12 4 = 16 ∨ h 12 4 = 17) then ((some (putF h ((h 12 4).toNatClampNeg) 256 t1 t0)).bind fun g12 => (fX2_mergeWith_J106 N a1 k15 u3 u4 u5 u8 (if u8 = 0 then 0 else 1) u2 g12)) else none)
def fX2_mergeWith_J72 (N : Nat) (a1 : Int32) (k15 : Int32 → Int32 → Int32 → Int32 → Hp → Option Rs) (u2 : Int32) (u3 : Int32) (u4 : Int32) (u5 : Int32) (u6 : Int32) (u7 : Int32) (t0 : Int32) (h : Hp) : Option Rs :=
  (if (h 12 4 = 16 ∨ h 12 4 = 17) then (fX2_mergeWith_J92 N a1 k15 u2 u3 u4 u5 t0 (if t0 = 0 then u7 else u6) u5 h) else none)
def fX2_mergeWith_L15 (N : Nat) (a1 : Int32) : Nat → Int32 → Int32 → Int32 → Int32 → Hp → Option Rs
  | 0, _, _, _, _, _ => none
  | n + 1, u2, u3, u4, u5, h => (if u5 < u4 then (if (h 12 3 = 16 ∨ h 12 3 = 17) then ((some (atF h ((h 12 3).toNatClampNeg) 256 u2)).bind fun v2 => (if (h 12 3 = 16 ∨ h 12 3 = 17) then ((some ((atF h ((h 12 3).toNatClampNeg) 256 u3) + a1)).bind fun v4 => (fX2_mergeWith_J72 N a1 (fX2_mergeWith_L15 N a1 n) u2 u3 u4 u5 v2 v4 (if u2 < (h 12 6) then (if u3 < (h 12 6) then (if v2 < v4 then 1 else 0) else 1) else 0) h)) else none)) else none) else (if (h 12 4 = 16 ∨ h 12 4 = 17) then (if (h 12 3 = 16 ∨ h 12 3 = 17) then (if ((h 12 3).toNatClampNeg) < 2 ^ 31 then ((some (hset h 12 4 (nI ((h 12 3).toNatClampNeg)))).bind fun g7 => (if ((h 12 4).toNatClampNeg) < 2 ^ 31 then ((some (hset g7 12 3 (nI ((h 12 4).toNatClampNeg)))).bind fun g8 => ((some (hset g8 12 6 u4)).bind fun g9 => (some (0, g9)))) else none)) else none) else none) else none))
def fX2_mergeWith (N : Nat) (h : Hp) (a1 : Int32) : Option Rs :=
  (fX2_mergeWith_L15 N a1 N 0 0 (2 * (h 12 6)) 0 h)
def fX2_spreadHigh_L30 (N : Nat) (k14 : Int32 → Int32 → Hp → Option Rs) : Nat → Int32 → Int32 → Int32 → Hp → Option Rs
  | 0, _, _, _, _ => none
  | n + 1, u1, u2, u3, h => (if u3 < u1 then ((some (putF h 15 256 (u1 + u3) ((atF h 15 256 u3) + (atF h 14 16 u2)))).bind fun g2 => (fX2_spreadHigh_L30 N k14 n u1 u2 (u3 + 1) g2)) else (k14 (u1 * 2) (u2 + 1) h))
def fX2_spreadHigh_L14 (N : Nat) : Nat → Int32 → Int32 → Hp → Option Rs
  | 0, _, _, _ => none
  | n + 1, u1, u2, h => (if u2 < (h 12 5) then (if u2 < 16 then (fX2_spreadHigh_L30 N (fX2_spreadHigh_L14 N n) N u1 u2 0 h) else (some (u1, h))) else (some (u1, h)))
def fX2_spreadHigh (N : Nat) (h : Hp) : Option Rs :=
  ((some (putF h 15 256 0 0)).bind fun g1 => (fX2_spreadHigh_L14 N N 1 8 g1))
def fX2_sumAt (h : Hp) (a1 : Int32) : Option Int32 :=
  (if (h 12 3 = 16 ∨ h 12 3 = 17) then (some ((atF h ((h 12 3).toNatClampNeg) 256 a1) >>> (12 &&& 31))) else none)
def fX2_bitsAt (h : Hp) (a1 : Int32) : Option Int32 :=
  (if (h 12 3 = 16 ∨ h 12 3 = 17) then (some ((atF h ((h 12 3).toNatClampNeg) 256 a1) &&& 255)) else none)
def fX2_asCords_L4 (N : Nat) (h : Hp) (a1 : Int32) : Nat → Int32 → Int32 → Option Int32
  | 0, _, _ => none
  | n + 1, u2, u3 => (if u3 < (h 12 5) then ((some (u2 ||| (((a1 >>> (u3 &&& 31)) &&& 1) <<< ((atF h 13 16 u3) &&& 31)))).bind fun v1 => (fX2_asCords_L4 N h a1 n v1 (u3 + 1))) else (some u2))
def fX2_asCords (N : Nat) (h : Hp) (a1 : Int32) : Option Int32 :=
  (fX2_asCords_L4 N h a1 N 0 0)
def fX4_choices_L4 (N : Nat) (h : Hp) (a0 : Int32) (a1 : Int32) : Nat → Int32 → Int32 → Option Int32
  | 0, _, _ => none
  | n + 1, u2, u3 => (if u3 < (1 <<< (a0 &&& 31)) then ((fJ6_bitCount_0f7a4 h u3).bind fun v1 => (fX4_choices_L4 N h a0 a1 n (if v1 = a1 then (u2 + 1) else (u2 + 0)) (u3 + 1))) else (some u2))
def fX4_choices (N : Nat) (h : Hp) (a0 : Int32) (a1 : Int32) : Option Int32 :=
  (fX4_choices_L4 N h a0 a1 N 0 0)
def fX4_knotsIn (h : Hp) (a0 : Int32) : Int32 :=
  (if (fX4_kindOf h a0) = 3 then 2 else (fX4_countOf h a0))
def fX4_isWellPlaced_J28 (h : Hp) (a0 : Int32) (a1 : Int32) (t0 : Int32) (t1 : Int32) : Int32 :=
  (if t1 = t0 then 1 else 0)
def fX4_isWellPlaced_J19 (h : Hp) (a0 : Int32) (a1 : Int32) (t0 : Int32) : Int32 :=
  (fX4_isWellPlaced_J28 h a0 a1 (if 0 < a1 then 1 else 0) t0)
def fX4_isWellPlaced (h : Hp) (a0 : Int32) (a1 : Int32) : Int32 :=
  (if (fX4_kindOf h a0) = 0 then 1 else (fX4_isWellPlaced_J19 h a0 a1 (if (fX4_kindOf h a0) = 1 then 1 else 0)))
def fX4_copyRow_J33 (q0 n0 : Nat) (a1 : Int32) (q2 n2 : Nat) (a3 : Int32) (t0 : Int32) (h : Hp) : Option Rs :=
  (if t0 = 0 then (some (0, h)) else (if (¬ a1 < 0 ∧ ¬ a3 < 0 ∧ ¬ (179 : Int32) < 0) ∧ (a1).toNatClampNeg + ((179 : Int32)).toNatClampNeg ≤ n0 ∧ (a3).toNatClampNeg + ((179 : Int32)).toNatClampNeg ≤ n2 then ((some (hcpy h q0 q2 (a1).toNatClampNeg (a3).toNatClampNeg ((179 : Int32)).toNatClampNeg)).bind fun g1 => (some (0, g1))) else none))
def fX4_copyRow (h : Hp) (q0 n0 : Nat) (a1 : Int32) (q2 n2 : Nat) (a3 : Int32) : Option Rs :=
  (fX4_copyRow_J33 q0 n0 a1 q2 n2 a3 (if a1 < 0 then 0 else (if (Int32.ofNat n0) < (a1 + 179) then 0 else (if a3 < 0 then 0 else (if (Int32.ofNat n2) < (a3 + 179) then 0 else 1)))) h)
def fX5_isTwo (h : Hp) (a0 : Int32) : Int32 :=
  (fX5_in h (a0).toInt64 0 1)
def fX5_write (h : Hp) (a1 : Int32) : Option Rs :=
  (if (fX5_in h (a1).toInt64 32 126) = 0 then (some ((-1), h)) else (if (h 22 6) = 200 then (some ((-3), h)) else (if 0 ≤ ((h 22 6)).toInt ∧ ((h 22 6)).toInt < (200 : Nat) then ((some (hset h 26 ((h 22 6)).toNatClampNeg a1)).bind fun g1 => ((some (hset g1 22 6 ((g1 22 6) + 1))).bind fun g2 => (some ((g2 22 6), g2)))) else none)))
def fX5_takesColour_J102 (a1 : Int32) (u2 : Int32) (t0 : Int32) (t1 : Int32) (h : Hp) : Option Rs :=
  (if 0 ≤ (t1).toInt ∧ (t1).toInt < (162 : Nat) then ((some (hset h 27 (t1).toNatClampNeg t0)).bind fun g6 => (if 0 ≤ ((146 + u2)).toInt ∧ ((146 + u2)).toInt < (162 : Nat) then ((some (hset g6 27 ((146 + u2)).toNatClampNeg u2)).bind fun g7 => (if 0 ≤ ((g7 22 9)).toInt ∧ ((g7 22 9)).toInt < (3 : Nat) then ((some (hset g7 28 ((g7 22 9)).toNatClampNeg u2)).bind fun g8 => ((some (hset g8 27 0 ((g8 27 0) + 1))).bind fun g9 => ((fX5_goesTo g9 2).bind fun z10 => (if z10.1 = 0 ∨ z10.1 = 1 then (some (z10.1, z10.2)) else none)))) else none)) else none)) else none)
def fX5_takesColour_J56 (a1 : Int32) (u2 : Int32) (t0 : Int32) (t1 : Int32) (h : Hp) : Option Rs :=
  (if 0 ≤ (t1).toInt ∧ (t1).toInt < (162 : Nat) then ((some (hset h 27 (t1).toNatClampNeg t0)).bind fun g4 => (if 0 ≤ ((114 + u2)).toInt ∧ ((114 + u2)).toInt < (162 : Nat) then ((some (hset g4 27 ((114 + u2)).toNatClampNeg ((g4 27 1) - 1))).bind fun g5 => (fX5_takesColour_J102 a1 u2 (if (g5 22 9) = 0 then (if (g5 22 10) = 0 then 0 else 1) else 0) (130 + u2) g5)) else none)) else none)
def fX5_takesColour (h : Hp) (a1 : Int32) : Option Rs :=
  (if 0 ≤ ((2 + (h 27 0))).toInt ∧ ((2 + (h 27 0))).toInt < (162 : Nat) then ((some (hset h 27 ((2 + (h 27 0))).toNatClampNeg a1)).bind fun g1 => (if 0 ≤ ((18 + (h 27 0))).toInt ∧ ((18 + (h 27 0))).toInt < (162 : Nat) then ((some (hset g1 27 ((18 + (h 27 0))).toNatClampNeg 0)).bind fun g2 => (if (g2 22 9) = 0 then (fX5_takesColour_J56 a1 (h 27 0) (-1) (98 + (h 27 0)) g2) else ((rdH g2 28 3 ((g2 22 9) - 1)).bind fun v3 => (fX5_takesColour_J56 a1 (h 27 0) v3 (98 + (h 27 0)) g2)))) else none)) else none)
def fX5_takesCluster_L7 (N : Nat) (a1 : Int32) : Nat → Int32 → Int32 → Hp → Option Rs
  | 0, _, _, _ => none
  | n + 1, u2, u3, h => (if 0 < u3 then ((rdH h 27 162 (((34 + (4 * u2)) + u3) - 1)).bind fun v1 => (if 0 ≤ (((34 + (4 * u2)) + u3)).toInt ∧ (((34 + (4 * u2)) + u3)).toInt < (162 : Nat) then ((some (hset h 27 (((34 + (4 * u2)) + u3)).toNatClampNeg v1)).bind fun g2 => (fX5_takesCluster_L7 N a1 n u2 (u3 + (-1)) g2)) else none)) else (if 0 ≤ ((34 + (4 * u2))).toInt ∧ ((34 + (4 * u2))).toInt < (162 : Nat) then ((some (hset h 27 ((34 + (4 * u2))).toNatClampNeg a1)).bind fun g3 => ((rdH g3 27 162 (18 + u2)).bind fun v4 => (if 0 ≤ ((18 + u2)).toInt ∧ ((18 + u2)).toInt < (162 : Nat) then ((some (hset g3 27 ((18 + u2)).toNatClampNeg (v4 + 1))).bind fun g5 => ((fX5_goesTo g5 3).bind fun z6 => (if z6.1 = 0 ∨ z6.1 = 1 then (some (z6.1, z6.2)) else none))) else none))) else none))
def fX5_takesCluster (N : Nat) (h : Hp) (a1 : Int32) : Option Rs :=
  (fX5_takesCluster_L7 N a1 N (fX5_newest h) 3 h)
def fX5_takesGroup (h : Hp) (a1 : Int32) : Option Rs :=
  (if a1 = 91 then (if (h 27 1) = 5 then (some (0, h)) else ((some (hset h 27 1 ((h 27 1) + 1))).bind fun g1 => ((some (hset g1 22 10 0)).bind fun g2 => ((some (hset g2 22 9 0)).bind fun g3 => ((fX5_goesTo g3 1).bind fun z4 => (if z4.1 = 0 ∨ z4.1 = 1 then (some (z4.1, z4.2)) else none)))))) else (some (0, h)))
def fX5_begins (N : Nat) (h : Hp) : Option Rs :=
  ((fX5_copies N h 27 162 0 23 162 0).bind fun z1 => ((some (hset z1.2 22 2 0)).bind fun g2 => ((some (hset g2 22 4 0)).bind fun g3 => (some (0, g3)))))
def fX5_isCord (h : Hp) (a1 : Int32) : Int32 :=
  (fX5_in h (a1).toInt64 0 (((h 23 0) - 1)).toInt64)
def fX5_isGroup (h : Hp) (a1 : Int32) : Int32 :=
  (fX5_in h (a1).toInt64 0 (((h 23 1) - 1)).toInt64)
def fX5_isPlain (h : Hp) (a1 : Int32) : Option Int32 :=
  ((fX5_isPendant h a1).bind fun v1 => (if v1 = 0 then (some 0) else ((rdH h 23 162 (130 + a1)).bind fun v2 => (if v2 = 0 then (some 1) else (some 0)))))
def fX5_told_J79 (N : Nat) (h : Hp) (a1 : Int32) (a2 : Int32) (k19 : Int32 → Int32 → Int32 → Int32 → Option Int32) (u3 : Int32) (u4 : Int32) (u5 : Int32) (u6 : Int32) (u7 : Int32) : Option Int32 :=
  ((some (u4 + ((u7 - u7 / 10 * 10) * u5))).bind fun v3 => (k19 u3 v3 (u5 * 10) (u6 + 1)))
def fX5_told_J65 (N : Nat) (h : Hp) (a1 : Int32) (a2 : Int32) (k19 : Int32 → Int32 → Int32 → Int32 → Option Int32) (u3 : Int32) (u4 : Int32) (u5 : Int32) (u6 : Int32) (u7 : Int32) (u8 : Int32) : Option Int32 :=
  (if 1 < u8 then (if 0 < u6 then (some (-4)) else (fX5_told_J79 N h a1 a2 k19 u3 u4 u5 u6 u7)) else (fX5_told_J79 N h a1 a2 k19 u3 u4 u5 u6 u7))
def fX5_told_J42 (N : Nat) (h : Hp) (a1 : Int32) (a2 : Int32) (k19 : Int32 → Int32 → Int32 → Int32 → Option Int32) (u3 : Int32) (u4 : Int32) (u5 : Int32) (u6 : Int32) (t0 : Int32) (t1 : Int32) : Option Int32 :=
  ((fX5_knot0 h t1 t0).bind fun v2 => (if (v2 / 10) = 1 then (if u6 = 0 then (some (-4)) else (fX5_told_J65 N h a1 a2 k19 u3 u4 u5 u6 v2 (v2 / 10))) else (fX5_told_J65 N h a1 a2 k19 u3 u4 u5 u6 v2 (v2 / 10))))
def fX5_told_L19 (N : Nat) (h : Hp) (a1 : Int32) (a2 : Int32) : Nat → Int32 → Int32 → Int32 → Int32 → Option Int32
  | 0, _, _, _, _ => none
  | n + 1, u3, u4, u5, u6 => (if u6 < u3 then (fX5_told_J42 N h a1 a2 (fX5_told_L19 N h a1 a2 n) u3 u4 u5 u6 (if a2 = 0 then u6 else ((u3 - 1) - u6)) a1) else (some u4))
def fX5_told (N : Nat) (h : Hp) (a1 : Int32) (a2 : Int32) : Option Int32 :=
  ((rdH h 23 162 (18 + a1)).bind fun v1 => (fX5_told_L19 N h a1 a2 N v1 0 1 0))
def fX5_knots__L4 (N : Nat) (h : Hp) (a1 : Int32) : Nat → Int32 → Int32 → Option Int32
  | 0, _, _ => none
  | n + 1, u2, u3 => ((rdH h 23 162 (18 + a1)).bind fun v1 => (if u3 < v1 then ((fX5_knot0 h a1 u3).bind fun v2 => ((some (u2 + (fX5_knotsOf h v2))).bind fun v3 => (fX5_knots__L4 N h a1 n v3 (u3 + 1)))) else (some u2)))
def fX5_knots_ (N : Nat) (h : Hp) (a1 : Int32) : Option Int32 :=
  (fX5_knots__L4 N h a1 N 0 0)
def fX5_remember_J50 (N : Nat) (h : Hp) : Option Rs :=
  ((fX5_copies N h 23 162 0 24 1296 (162 * (h 22 2))).bind fun z4 => ((some (hset z4.2 22 2 ((z4.2 22 2) + 1))).bind fun g5 => (some (0, g5))))
def fX5_remember_L11 (N : Nat) : Nat → Int32 → Hp → Option Rs
  | 0, _, _ => none
  | n + 1, u1, h => (if u1 < 1134 then ((rdH h 24 1296 (u1 + 162)).bind fun v1 => (if 0 ≤ (u1).toInt ∧ (u1).toInt < (1296 : Nat) then ((some (hset h 24 (u1).toNatClampNeg v1)).bind fun g2 => (fX5_remember_L11 N n (u1 + 1) g2)) else none)) else ((some (hset h 22 2 ((h 22 2) - 1))).bind fun g3 => (fX5_remember_J50 N g3)))
def fX5_remember (N : Nat) (h : Hp) : Option Rs :=
  (if (h 22 2) = 8 then (fX5_remember_L11 N N 0 h) else (fX5_remember_J50 N h))
def fX5_workFor_L8 (N : Nat) (h : Hp) (a1 : Int32) (a2 : Int32) : Nat → Int32 → Int32 → Int32 → Option Int32
  | 0, _, _, _ => none
  | n + 1, u3, u4, u5 => ((rdH h 23 162 (18 + a1)).bind fun v1 => (if u5 < v1 then ((some (fX5_clusterFor h (u4 - u4 / 10 * 10) u5)).bind fun v2 => ((fX5_knot0 h a1 u5).bind fun v3 => (if v2 = v3 then (fX5_workFor_L8 N h a1 a2 n (u3 + 0) (u4 / 10) (u5 + 1)) else ((fX5_knot0 h a1 u5).bind fun v4 => ((some (u3 + ((fX5_knotsOf h v2) + (fX5_knotsOf h v4)))).bind fun v5 => (fX5_workFor_L8 N h a1 a2 n v5 (u4 / 10) (u5 + 1))))))) else (some u3)))
def fX5_workFor (N : Nat) (h : Hp) (a1 : Int32) (a2 : Int32) : Option Int32 :=
  (fX5_workFor_L8 N h a1 a2 N 0 a2 0)
def fX5_isKnot (h : Hp) (a0 : Int32) (a1 : Int32) : Int32 :=
  (if a0 = 0 then (if a1 = 0 then 1 else 0) else (if a0 = 1 then (fX5_in h (a1).toInt64 1 9) else (if a0 = 2 then (fX5_in h (a1).toInt64 2 9) else (if a0 = 3 then (if a1 = 1 then 1 else 0) else 0))))
def fX5_undo (N : Nat) (h : Hp) : Option Rs :=
  (if (h 22 2) = 0 then (some ((-2), h)) else ((some (hset h 22 2 ((h 22 2) - 1))).bind fun g1 => ((fX5_copies N g1 24 1296 (162 * (g1 22 2)) 23 162 0).bind fun z2 => (some ((z2.2 22 2), z2.2)))))
def fX5_areAlike_L62 (N : Nat) (h : Hp) (a1 : Int32) (a2 : Int32) : Nat → Int32 → Int32 → Option Int32
  | 0, _, _ => none
  | n + 1, u3, u4 => ((rdH h 23 162 (18 + a1)).bind fun v7 => (if u4 < v7 then (if u3 = 0 then (fX5_areAlike_L62 N h a1 a2 n 0 (u4 + 1)) else ((fX5_knot0 h a1 u4).bind fun v8 => ((fX5_knot0 h a2 u4).bind fun v9 => (fX5_areAlike_L62 N h a1 a2 n (if v8 = v9 then 1 else 0) (u4 + 1))))) else (if u3 = 0 ∨ u3 = 1 then (some u3) else none)))
def fX5_areAlike (N : Nat) (h : Hp) (a1 : Int32) (a2 : Int32) : Option Int32 :=
  ((rdH h 23 162 (2 + a1)).bind fun v1 => ((rdH h 23 162 (2 + a2)).bind fun v2 => (if v1 = v2 then ((rdH h 23 162 (18 + a1)).bind fun v3 => ((rdH h 23 162 (18 + a2)).bind fun v4 => (if v3 = v4 then ((fX5_hanging N h a1).bind fun v5 => ((fX5_hanging N h a2).bind fun v6 => (fX5_areAlike_L62 N h a1 a2 N (if v5 = v6 then 1 else 0) 0))) else (fX5_areAlike_L62 N h a1 a2 N 0 0)))) else (fX5_areAlike_L62 N h a1 a2 N 0 0))))
def fX5_keep (N : Nat) (h : Hp) : Option Rs :=
  (if (h 22 4) = 2 then (some ((-3), h)) else ((fX5_copies N h 23 162 0 25 324 (162 * (h 22 4))).bind fun z1 => ((some (hset z1.2 22 4 ((z1.2 22 4) + 1))).bind fun g2 => (some ((g2 22 4), g2)))))
def fX5_back (N : Nat) (h : Hp) : Option Rs :=
  (if (h 22 4) = 0 then (some ((-2), h)) else ((some (hset h 22 4 ((h 22 4) - 1))).bind fun g1 => ((fX5_copies N g1 25 324 (162 * (g1 22 4)) 23 162 0).bind fun z2 => ((some (hset z2.2 22 2 0)).bind fun g3 => (some ((g3 22 4), g3))))))
def fX0_clear (N : Nat) (h : Hp) (r : Nat) : Option Rs :=
  ((fJ7_fill_53178 N h r 179 0).bind fun z1 => (some (0, z1.2)))
def fX0_cords (h : Hp) (r : Nat) : Int32 :=
  (atF h r 179 176)
def fX0_groups (h : Hp) (r : Nat) : Int32 :=
  (atF h r 179 177)
def fX0_colourOf (h : Hp) (r : Nat) (a1 : Int32) : Int32 :=
  (atF h r 179 (0 + a1))
def fX0_setColour (h : Hp) (r : Nat) (a1 : Int32) (a2 : Int32) : Option Rs :=
  ((some (putF h r 179 (0 + a1) a2)).bind fun g1 => (some (0, g1)))
def fX0_sizeOf (h : Hp) (r : Nat) (a1 : Int32) : Int32 :=
  (atF h r 179 (16 + a1))
def fX0_codeOf (h : Hp) (r : Nat) (a1 : Int32) (a2 : Int32) : Int32 :=
  (atF h r 179 ((112 + (4 * a1)) + a2))
def fX0_setCode (h : Hp) (r : Nat) (a1 : Int32) (a2 : Int32) (a3 : Int32) : Option Rs :=
  ((some (putF h r 179 ((112 + (4 * a1)) + a2) a3)).bind fun g1 => (some (0, g1)))
def fX0_holderOf (h : Hp) (r : Nat) (a1 : Int32) : Int32 :=
  (if a1 < 0 then (-4) else (if a1 < 16 then (atF h r 179 (32 + a1)) else (-4)))
def fX0_depthOf (h : Hp) (r : Nat) (a1 : Int32) : Int32 :=
  (atF h r 179 (48 + a1))
def fX0_groupOf (h : Hp) (r : Nat) (a1 : Int32) : Int32 :=
  (atF h r 179 (80 + a1))
def fX0_isTop (h : Hp) (r : Nat) (a1 : Int32) : Int32 :=
  (if (atF h r 179 (64 + a1)) = 1 then 1 else 0)
def fX0_addCord_J162 (r : Nat) (a1 : Int32) (a2 : Int32) (a3 : Int32) (a4 : Int32) (u5 : Int32) (h : Hp) : Option Rs :=
  ((some (putF h r 179 176 (u5 + 1))).bind fun g9 => (some (0, g9)))
def fX0_addCord_J82 (r : Nat) (a1 : Int32) (a2 : Int32) (a3 : Int32) (a4 : Int32) (u5 : Int32) (t0 : Int32) (t1 : Int32) (h : Hp) : Option Rs :=
  ((some (putF h r 179 t1 t0)).bind fun g5 => ((some (putF g5 r 179 (80 + u5) ((atF g5 r 179 177) - 1))).bind fun g6 => (if a3 = 0 then (if a4 = 0 then ((some (putF g6 r 179 (96 + (atF g6 r 179 178)) u5)).bind fun g7 => ((some (putF g7 r 179 178 ((atF g7 r 179 178) + 1))).bind fun g8 => (fX0_addCord_J162 r a1 a2 a3 a4 u5 g8))) else (fX0_addCord_J162 r a1 a2 a3 a4 u5 g6)) else (fX0_addCord_J162 r a1 a2 a3 a4 u5 g6))))
def fX0_addCord (h : Hp) (r : Nat) (a1 : Int32) (a2 : Int32) (a3 : Int32) (a4 : Int32) : Option Rs :=
  ((some (putF h r 179 (0 + (atF h r 179 176)) a1)).bind fun g1 => ((some (putF g1 r 179 (16 + (atF h r 179 176)) 0)).bind fun g2 => ((some (putF g2 r 179 (32 + (atF h r 179 176)) a2)).bind fun g3 => ((some (putF g3 r 179 (48 + (atF h r 179 176)) a3)).bind fun g4 => (fX0_addCord_J82 r a1 a2 a3 a4 (atF h r 179 176) (if a4 = 0 then 0 else 1) (64 + (atF h r 179 176)) g4)))))
def fX0_addCluster_L37 (N : Nat) (r : Nat) (a1 : Int32) : Nat → Int32 → Int32 → Int32 → Int32 → Hp → Option Rs
  | 0, _, _, _, _, _ => none
  | n + 1, u2, u3, u4, u5, h => (if 0 < u5 then ((some (putF h r 179 (u3 + u5) (atF h r 179 ((u3 + u5) - 1)))).bind fun g3 => (fX0_addCluster_L37 N r a1 n u2 u3 u4 (u5 + (-1)) g3)) else ((some (putF h r 179 u3 a1)).bind fun g4 => ((some (putF g4 r 179 (16 + u2) (u4 + 1))).bind fun g5 => (some (0, g5)))))
def fX0_addCluster (N : Nat) (h : Hp) (r : Nat) (a1 : Int32) : Option Rs :=
  ((some (112 + (4 * ((atF h r 179 176) - 1)))).bind fun v1 => ((some (atF h r 179 (16 + ((atF h r 179 176) - 1)))).bind fun v2 => (fX0_addCluster_L37 N r a1 N ((atF h r 179 176) - 1) v1 v2 v2 h)))
def fX1_opensCord_J97 (a1 : Int32) (t0 : Int32) (t1 : Int32) (t2 : Int32) (t3 : Int32) (h : Hp) : Option Rs :=
  ((fX0_addCord h 4 t3 t2 t1 t0).bind fun z2 => ((some (hset z2.2 2 2 2)).bind fun g3 => (some (1, g3))))
def fX1_opensCord_J74 (a1 : Int32) (t0 : Int32) (t1 : Int32) (h : Hp) : Option Rs :=
  (fX1_opensCord_J97 a1 (if (h 2 3) = 0 then (if (h 2 4) = 0 then 0 else 1) else 0) (h 2 3) t0 t1 h)
def fX1_opensCord (h : Hp) (a1 : Int32) : Option Rs :=
  (if (fX4_isColour h (a1 - 48)) = 0 then (some (0, h)) else (if (fX0_cords h 4) < 16 then ((some (putF h 5 3 (h 2 3) (fX0_cords h 4))).bind fun g1 => (fX1_opensCord_J74 a1 (if (g1 2 3) = 0 then (-4) else (atF g1 5 3 ((g1 2 3) - 1))) (a1 - 48) g1)) else (some (0, h))))
def fX1_endsCluster (N : Nat) (h : Hp) (a1 : Int32) (a2 : Int32) : Option Rs :=
  (if (fX4_canCount h a1 a2) = 0 then (some (0, h)) else ((fX0_addCluster N h 4 ((10 * a1) + a2)).bind fun z1 => ((some (hset z1.2 2 2 5)).bind fun g2 => (some (1, g2)))))
def fX2_better_J126 (a1 : Int32) (a2 : Int32) (a3 : Int32) (a4 : Int32) (a5 : Int32) (t0 : Int32) (t2 : Int32) (h : Hp) : Option Rs :=
  ((fX2_bitsAt h t0).bind fun v7 => (some ((t2 ||| v7), h)))
def fX2_better_J91 (a1 : Int32) (a2 : Int32) (a3 : Int32) (a4 : Int32) (a5 : Int32) (u8 : Int32) (t0 : Int32) (h : Hp) : Option Rs :=
  (if t0 < (h 12 8) then ((some (hset h 12 8 t0)).bind fun g6 => (fX2_better_J126 a1 a2 a3 a4 a5 (if u8 = 0 then a1 else a2) (a3 <<< (8 &&& 31)) g6)) else (some (a5, h)))
def fX2_better_J77 (a1 : Int32) (a2 : Int32) (a3 : Int32) (a4 : Int32) (a5 : Int32) (u6 : Int32) (u7 : Int32) (t0 : Int32) (h : Hp) : Option Rs :=
  (fX2_better_J91 a1 a2 a3 a4 a5 t0 (if t0 = 0 then u6 else u7) h)
def fX2_better_J43 (a1 : Int32) (a2 : Int32) (a3 : Int32) (a4 : Int32) (a5 : Int32) (u6 : Int32) (t0 : Int32) (h : Hp) : Option Rs :=
  (if t0 < u6 then (fX2_better_J77 a1 a2 a3 a4 a5 u6 t0 1 h) else (if t0 = u6 then ((fX2_bitsAt h a2).bind fun v4 => ((fX2_bitsAt h a1).bind fun v5 => (fX2_better_J77 a1 a2 a3 a4 a5 u6 t0 (if v4 < v5 then 1 else 0) h))) else (fX2_better_J77 a1 a2 a3 a4 a5 u6 t0 0 h)))
def fX2_better (h : Hp) (a1 : Int32) (a2 : Int32) (a3 : Int32) (a4 : Int32) (a5 : Int32) : Option Rs :=
  ((fX2_sumAt h a1).bind fun v1 => ((some (if 0 ≤ (a4 - (2 * v1)) then (a4 - (2 * v1)) else 0 - (a4 - (2 * v1)))).bind fun v2 => (if a2 < (h 12 6) then ((fX2_sumAt h a2).bind fun v3 => (fX2_better_J43 a1 a2 a3 a4 a5 v2 (if 0 ≤ (a4 - (2 * v3)) then (a4 - (2 * v3)) else 0 - (a4 - (2 * v3))) h)) else (fX2_better_J43 a1 a2 a3 a4 a5 v2 (v2 + 1) h))))
def fX2_spreadLow_L16 (N : Nat) (a1 : Int32) : Nat → Int32 → Hp → Option Rs
  | 0, _, _ => none
  | n + 1, u2, h => (if u2 < (h 12 5) then (if u2 < 8 then ((fX2_mergeWith N h ((((atF h 14 16 u2) <<< (12 &&& 31)) ||| (a1 <<< (8 &&& 31))) ||| (1 <<< (u2 &&& 31)))).bind fun z4 => (fX2_spreadLow_L16 N a1 n (u2 + 1) z4.2)) else (some (0, h))) else (some (0, h)))
def fX2_spreadLow (N : Nat) (h : Hp) (a1 : Int32) : Option Rs :=
  (if (h 12 3 = 16 ∨ h 12 3 = 17) then ((some (putF h ((h 12 3).toNatClampNeg) 256 0 0)).bind fun g2 => ((some (hset g2 12 6 1)).bind fun g3 => (fX2_spreadLow_L16 N a1 N 0 g3))) else none)
def fX2_firstFrom_L6 (N : Nat) (h : Hp) (a1 : Int32) : Nat → Int32 → Int32 → Option Int32
  | 0, _, _ => none
  | n + 1, u2, u3 => (if 0 < u3 then (if (h 12 6) < (u2 + u3) then (fX2_firstFrom_L6 N h a1 n u2 (u3 / 2)) else ((fX2_sumAt h ((u2 + u3) - 1)).bind fun v1 => (fX2_firstFrom_L6 N h a1 n (if v1 < a1 then (u2 + u3) else u2) (u3 / 2)))) else (some u2))
def fX2_firstFrom (N : Nat) (h : Hp) (a1 : Int32) : Option Int32 :=
  (fX2_firstFrom_L6 N h a1 N 0 256)
def fX3_add_J60 (N : Nat) (sh sl nl : Nat) (q1 n1 : Nat) (h : Hp) : Option Rs :=
  ((fX4_copyRow h q1 n1 0 sl nl ((h sh 2) * 179)).bind fun z1 => ((some (hset z1.2 sh 2 ((z1.2 sh 2) + 1))).bind fun g2 => (some (0, g2))))
def fX3_add_L13 (N : Nat) (sh sl nl : Nat) (q1 n1 : Nat) : Nat → Int32 → Hp → Option Rs
  | 0, _, _ => none
  | n + 1, u2, h => (if u2 < (h sh 0) then ((fX4_copyRow h sl nl (u2 * 179) sl nl ((u2 - 1) * 179)).bind fun z3 => (fX3_add_L13 N sh sl nl q1 n1 n (u2 + 1) z3.2)) else ((some (hset h sh 2 ((h sh 0) - 1))).bind fun g4 => (fX3_add_J60 N sh sl nl q1 n1 g4)))
def fX3_add (N : Nat) (h : Hp) (sh sl nl : Nat) (q1 n1 : Nat) : Option Rs :=
  (if (h sh 2) < (h sh 0) then (fX3_add_J60 N sh sl nl q1 n1 h) else (fX3_add_L13 N sh sl nl q1 n1 N 1 h))
def fX3_takeInto (h : Hp) (sh sl nl : Nat) (q1 n1 : Nat) : Option Rs :=
  (if 0 < (h sh 2) then ((some (hset h sh 2 ((h sh 2) - 1))).bind fun g1 => ((fX4_copyRow g1 sl nl ((g1 sh 2) * 179) q1 n1 0).bind fun z2 => (some (0, z2.2)))) else (some (0, h)))
def fX4_slipAt_J67 (N : Nat) (h : Hp) (a1 : Int32) (a2 : Int32) (a3 : Int32) (k23 : Int32 → Int32 → Int32 → Option Int32) (u4 : Int32) (u5 : Int32) (u6 : Int32) (t0 : Int32) (t1 : Int32) : Option Int32 :=
  (if (t1 + t0) = 0 then (some u6) else (k23 u4 u5 (u6 + 1)))
def fX4_slipAt_L23 (N : Nat) (h : Hp) (a1 : Int32) (a2 : Int32) (a3 : Int32) : Nat → Int32 → Int32 → Int32 → Option Int32
  | 0, _, _, _ => none
  | n + 1, u4, u5, u6 => (if 9 < u6 then (some (-4)) else (if u6 = u5 then (fX4_slipAt_L23 N h a1 a2 a3 n u4 u5 (u6 + 1)) else (fX4_slipAt_J67 N h a1 a2 a3 (fX4_slipAt_L23 N h a1 a2 a3 n) u4 u5 u6 (if (fX0_isTop h 7 a1) = 0 then ((u6 - u5) * u4) else (-((u6 - u5) * u4))) a3)))
def fX4_slipAt (N : Nat) (h : Hp) (a1 : Int32) (a2 : Int32) (a3 : Int32) : Option Int32 :=
  ((some (fX4_countOf h (fX0_codeOf h 7 a1 a2))).bind fun v1 => (fX4_slipAt_L23 N h a1 a2 a3 N (tensV a2) v1 0))
def fX5_takesKnots_J26 (N : Nat) (a1 : Int32) (h : Hp) : Option Rs :=
  (if a1 = 46 then ((fX5_takesCluster N h 0).bind fun z5 => (if z5.1 = 0 ∨ z5.1 = 1 then (some (z5.1, z5.2)) else none)) else (if a1 = 101 then ((fX5_takesCluster N h 31).bind fun z4 => (if z4.1 = 0 ∨ z4.1 = 1 then (some (z4.1, z4.2)) else none)) else (if a1 = 108 then ((fX5_goesTo h 6).bind fun z3 => (if z3.1 = 0 ∨ z3.1 = 1 then (some (z3.1, z3.2)) else none)) else (if a1 = 115 then ((fX5_goesTo h 5).bind fun z2 => (if z2.1 = 0 ∨ z2.1 = 1 then (some (z2.1, z2.2)) else none)) else (some (0, h))))))
def fX5_takesKnots (N : Nat) (h : Hp) (a1 : Int32) : Option Rs :=
  (if (h 22 8) = 3 then ((rdH h 27 162 (18 + (fX5_newest h))).bind fun v1 => (if v1 = 4 then (some (0, h)) else (fX5_takesKnots_J26 N a1 h))) else (fX5_takesKnots_J26 N a1 h))
def fX5_takesBehind_J186 (a1 : Int32) (h : Hp) : Option Rs :=
  ((fX5_takesColour h (a1 - 48)).bind fun z8 => (if z8.1 = 0 then (some (0, z8.2)) else (some (1, z8.2))))
def fX5_takesBehind_J12 (a1 : Int32) (t0 : Int32) (h : Hp) : Option Rs :=
  (if a1 = 40 then (if (h 22 8) = 4 then (some (0, h)) else (if (h 22 9) = 2 then (some (0, h)) else ((some (hset h 22 9 ((h 22 9) + 1))).bind fun g6 => ((fX5_goesTo g6 1).bind fun z7 => (if z7.1 = 0 ∨ z7.1 = 1 then (some (z7.1, z7.2)) else none))))) else (if a1 = 41 then (if t0 = 0 then ((some (hset h 22 9 ((h 22 9) - 1))).bind fun g4 => ((fX5_goesTo g4 4).bind fun z5 => (if z5.1 = 0 ∨ z5.1 = 1 then (some (z5.1, z5.2)) else none))) else (some (0, h))) else (if a1 = 93 then (if t0 = 0 then (some (0, h)) else ((fX5_goesTo h 0).bind fun z3 => (if z3.1 = 0 then (some (0, z3.2)) else (some (1, z3.2))))) else (if a1 = 94 then (if t0 = 0 then (some (0, h)) else (if (h 22 10) = 0 then ((some (hset h 22 10 1)).bind fun g1 => ((fX5_goesTo g1 1).bind fun z2 => (if z2.1 = 0 ∨ z2.1 = 1 then (some (z2.1, z2.2)) else none))) else (some (0, h)))) else (if (fX5_in h (a1).toInt64 48 57) = 0 then (some (0, h)) else (if (fX5_hasRoom h) = 0 then (some (0, h)) else (if t0 = 0 then (fX5_takesBehind_J186 a1 h) else (if (h 22 10) = 0 then (fX5_takesBehind_J186 a1 h) else (some (0, h))))))))))
def fX5_takesBehind (h : Hp) (a1 : Int32) : Option Rs :=
  (fX5_takesBehind_J12 a1 (if (h 22 9) = 0 then 1 else 0) h)
def fX5_value (N : Nat) (h : Hp) (a1 : Int32) : Option Int32 :=
  ((fX5_told N h a1 0).bind fun v1 => (some v1))
def fX5_cluster (h : Hp) (a1 : Int32) (a2 : Int32) : Option Int32 :=
  (if (fX5_isCord h a1) = 0 then (some (-1)) else ((rdH h 23 162 (18 + a1)).bind fun v1 => (if (fX5_in h (a2).toInt64 0 ((v1 - 1)).toInt64) = 0 then (some (-1)) else ((fX5_knot0 h a1 a2).bind fun v2 => (some v2)))))
def fX5_isOf (h : Hp) (a1 : Int32) (a2 : Int32) : Option Int32 :=
  ((fX5_isPlain h a1).bind fun v1 => (if v1 = 0 then (some 0) else (if a2 = 5 then (some 1) else ((rdH h 23 162 (114 + a1)).bind fun v2 => (if v2 = a2 then (some 1) else (some 0))))))
def fX5_ties_L9 (N : Nat) (a1 : Int32) (a2 : Int32) : Nat → Int32 → Int32 → Hp → Option Rs
  | 0, _, _, _ => none
  | n + 1, u3, u4, h => ((rdH h 23 162 (18 + a1)).bind fun v2 => (if u4 < v2 then (if 0 ≤ (((34 + (4 * a1)) + u4)).toInt ∧ (((34 + (4 * a1)) + u4)).toInt < (162 : Nat) then ((some (hset h 23 (((34 + (4 * a1)) + u4)).toNatClampNeg (fX5_clusterFor h (u3 - u3 / 10 * 10) u4))).bind fun g3 => (fX5_ties_L9 N a1 a2 n (u3 / 10) (u4 + 1) g3)) else none) else (some (0, h))))
def fX5_ties (N : Nat) (h : Hp) (a1 : Int32) (a2 : Int32) : Option Rs :=
  ((fX5_remember N h).bind fun z1 => (fX5_ties_L9 N a1 a2 N a2 0 z1.2))
def fX5_knot (N : Nat) (h : Hp) (a1 : Int32) (a2 : Int32) (a3 : Int32) (a4 : Int32) : Option Rs :=
  (if (fX5_isCord h a1) = 0 then (some ((-1), h)) else ((rdH h 23 162 (18 + a1)).bind fun v1 => (if (fX5_in h (a2).toInt64 0 ((v1 - 1)).toInt64) = 0 then (some ((-1), h)) else (if (fX5_isKnot h a3 a4) = 0 then (some ((-1), h)) else ((fX5_remember N h).bind fun z2 => (if 0 ≤ (((34 + (4 * a1)) + a2)).toInt ∧ (((34 + (4 * a1)) + a2)).toInt < (162 : Nat) then ((some (hset z2.2 23 (((34 + (4 * a1)) + a2)).toNatClampNeg ((10 * a3) + a4))).bind fun g3 => ((fX5_knots_ N g3 a1).bind fun v4 => (some (v4, g3)))) else none))))))
def fX5_dye (N : Nat) (h : Hp) (a1 : Int32) (a2 : Int32) : Option Rs :=
  (if (fX5_isCord h a1) = 0 then (some ((-1), h)) else (if (fX5_in h (a2).toInt64 0 9) = 0 then (some ((-1), h)) else ((fX5_remember N h).bind fun z1 => ((rdH z1.2 23 162 (2 + a1)).bind fun v2 => (if 0 ≤ ((2 + a1)).toInt ∧ ((2 + a1)).toInt < (162 : Nat) then ((some (hset z1.2 23 ((2 + a1)).toNatClampNeg a2)).bind fun g3 => (some (v2, g3))) else none)))))
def fX5_closed_J219 (N : Nat) (a1 : Int32) (a2 : Int32) (a3 : Int32) (k92 : Int32 → Int32 → Int32 → Int32 → Hp → Option Rs) (u4 : Int32) (u5 : Int32) (u6 : Int32) (u7 : Int32) (u8 : Int32) (u9 : Int32) (u10 : Int32) (h : Hp) : Option Rs :=
  (if u10 = 0 then (k92 u4 u5 u6 (u7 + 1) h) else (if u8 = u4 then (k92 u4 (u5 + 1) (if u6 = (-4) then u9 else (if u9 < u6 then u9 else u6)) (u7 + 1) h) else (k92 u4 u5 u6 (u7 + 1) h)))
def fX5_closed_J178 (N : Nat) (a1 : Int32) (a2 : Int32) (a3 : Int32) (k92 : Int32 → Int32 → Int32 → Int32 → Hp → Option Rs) (k112 : Int32 → Int32 → Int32 → Int32 → Int32 → Int32 → Int32 → Int32 → Hp → Option Rs) (u4 : Int32) (u5 : Int32) (u6 : Int32) (u7 : Int32) (u8 : Int32) (u9 : Int32) (u11 : Int32) (t0 : Int32) (h : Hp) : Option Rs :=
  (if t0 = 0 then (k112 u4 u5 u6 u7 (u8 + 1) (u9 + 0) t0 (u11 + 1) h) else ((rdH h 31 4 u8).bind fun v6 => ((fX5_power N h u11).bind fun v7 => ((some (u9 + ((v6 - v6 / 10 * 10) * v7))).bind fun v8 => (k112 u4 u5 u6 u7 (u8 + 1) v8 t0 (u11 + 1) h)))))
def fX5_closed_J170 (N : Nat) (a1 : Int32) (a2 : Int32) (a3 : Int32) (k92 : Int32 → Int32 → Int32 → Int32 → Hp → Option Rs) (k112 : Int32 → Int32 → Int32 → Int32 → Int32 → Int32 → Int32 → Int32 → Hp → Option Rs) (u4 : Int32) (u5 : Int32) (u6 : Int32) (u7 : Int32) (u8 : Int32) (u9 : Int32) (u11 : Int32) (t0 : Int32) (t1 : Int32) (h : Hp) : Option Rs :=
  (fX5_closed_J178 N a1 a2 a3 k92 k112 u4 u5 u6 u7 u8 u9 u11 (if t1 = t0 then 1 else 0) h)
def fX5_closed_J160 (N : Nat) (a1 : Int32) (a2 : Int32) (a3 : Int32) (k92 : Int32 → Int32 → Int32 → Int32 → Hp → Option Rs) (k112 : Int32 → Int32 → Int32 → Int32 → Int32 → Int32 → Int32 → Int32 → Hp → Option Rs) (u4 : Int32) (u5 : Int32) (u6 : Int32) (u7 : Int32) (u8 : Int32) (u9 : Int32) (u11 : Int32) (t0 : Int32) (h : Hp) : Option Rs :=
  (fX5_closed_J170 N a1 a2 a3 k92 k112 u4 u5 u6 u7 u8 u9 u11 (if 0 < u11 then 1 else 0) t0 h)
def fX5_closed_L112 (N : Nat) (a1 : Int32) (a2 : Int32) (a3 : Int32) (k92 : Int32 → Int32 → Int32 → Int32 → Hp → Option Rs) : Nat → Int32 → Int32 → Int32 → Int32 → Int32 → Int32 → Int32 → Int32 → Hp → Option Rs
  | 0, _, _, _, _, _, _, _, _, _ => none
  | n + 1, u4, u5, u6, u7, u8, u9, u10, u11, h => (if u11 < a2 then (if u10 = 0 then (fX5_closed_J219 N a1 a2 a3 k92 u4 u5 u6 u7 u8 u9 u10 h) else (if ((u7 >>> (u11 &&& 31)) &&& 1) = 1 then (if u8 < u4 then ((rdH h 31 4 u8).bind fun v5 => (fX5_closed_J160 N a1 a2 a3 k92 (fX5_closed_L112 N a1 a2 a3 k92 n) u4 u5 u6 u7 u8 u9 u11 (if (v5 / 10) = 1 then 1 else 0) h)) else (fX5_closed_J178 N a1 a2 a3 k92 (fX5_closed_L112 N a1 a2 a3 k92 n) u4 u5 u6 u7 u8 u9 u11 0 h)) else (fX5_closed_L112 N a1 a2 a3 k92 n u4 u5 u6 u7 u8 u9 u10 (u11 + 1) h))) else (fX5_closed_J219 N a1 a2 a3 k92 u4 u5 u6 u7 u8 u9 u10 h))
def fX5_closed_L92 (N : Nat) (a1 : Int32) (a2 : Int32) (a3 : Int32) : Nat → Int32 → Int32 → Int32 → Int32 → Hp → Option Rs
  | 0, _, _, _, _, _ => none
  | n + 1, u4, u5, u6, u7, h => (if u7 < (1 <<< (a2 &&& 31)) then (fX5_closed_L112 N a1 a2 a3 (fX5_closed_L92 N a1 a2 a3 n) N u4 u5 u6 u7 0 0 1 0 h) else (if a3 = 0 then (some (u5, h)) else (some (u6, h))))
def fX5_closed_L35 (N : Nat) (a1 : Int32) (a2 : Int32) (a3 : Int32) : Nat → Int32 → Int32 → Hp → Option Rs
  | 0, _, _, _ => none
  | n + 1, u4, u5, h => ((rdH h 23 162 (18 + a1)).bind fun v1 => (if u5 < v1 then ((fX5_knot0 h a1 u5).bind fun v2 => (if v2 = 0 then (fX5_closed_L35 N a1 a2 a3 n u4 (u5 + 1) h) else ((fX5_knot0 h a1 u5).bind fun v3 => (if 0 ≤ (u4).toInt ∧ (u4).toInt < (4 : Nat) then ((some (hset h 31 (u4).toNatClampNeg v3)).bind fun g4 => (fX5_closed_L35 N a1 a2 a3 n (u4 + 1) (u5 + 1) g4)) else none)))) else (fX5_closed_L92 N a1 a2 a3 N u4 0 (-4) 0 h)))
def fX5_closed (N : Nat) (h : Hp) (a1 : Int32) (a2 : Int32) (a3 : Int32) : Option Rs :=
  (if (fX5_isCord h a1) = 0 then (some ((-1), h)) else (if (fX5_in h (a2).toInt64 1 6) = 0 then (some ((-1), h)) else (if (fX5_isTwo h a3) = 0 then (some ((-1), h)) else (fX5_closed_L35 N a1 a2 a3 N 0 0 h))))
def fX5_areAlikeBelow_L10 (N : Nat) (h : Hp) (a1 : Int32) (a2 : Int32) : Nat → Int32 → Int32 → Option Int32
  | 0, _, _ => none
  | n + 1, u3, u4 => (if u3 = 0 then (if u3 = 0 ∨ u3 = 1 then (some u3) else none) else ((fX5_hanging N h a1).bind fun v2 => (if u4 < v2 then ((fX5_hangingAt N h a1 u4).bind fun v3 => ((fX5_hangingAt N h a2 u4).bind fun v4 => ((fX5_areAlike N h v3 v4).bind fun v5 => (fX5_areAlikeBelow_L10 N h a1 a2 n v5 (u4 + 1))))) else (if u3 = 0 ∨ u3 = 1 then (some u3) else none))))
def fX5_areAlikeBelow (N : Nat) (h : Hp) (a1 : Int32) (a2 : Int32) : Option Int32 :=
  ((fX5_areAlike N h a1 a2).bind fun v1 => (fX5_areAlikeBelow_L10 N h a1 a2 N v1 0))
def fX0_becomeAs (h : Hp) (r : Nat) (q1 n1 : Nat) : Option Rs :=
  ((fX4_copyRow h q1 n1 0 r 179 0).bind fun z1 => (some (0, z1.2)))
def fX0_hasCord (h : Hp) (r : Nat) (a1 : Int32) : Int32 :=
  (if a1 < 0 then 0 else (if a1 < (fX0_cords h r) then 1 else 0))
def fX0_hasGroup (h : Hp) (r : Nat) (a1 : Int32) : Int32 :=
  (if a1 < 0 then 0 else (if a1 < (fX0_groups h r) then 1 else 0))
def fX0_valueOf_L4 (N : Nat) (h : Hp) (r : Nat) (a1 : Int32) : Nat → Int32 → Int32 → Option Int32
  | 0, _, _ => none
  | n + 1, u2, u3 => (if u3 < (fX0_sizeOf h r a1) then (if (fX4_isWellPlaced h (fX0_codeOf h r a1 u3) u3) = 0 then (some (-4)) else ((some (u2 + ((fX4_countOf h (fX0_codeOf h r a1 u3)) * (tensV u3)))).bind fun v1 => (fX0_valueOf_L4 N h r a1 n v1 (u3 + 1)))) else (some u2))
def fX0_valueOf (N : Nat) (h : Hp) (r : Nat) (a1 : Int32) : Option Int32 :=
  (fX0_valueOf_L4 N h r a1 N 0 0)
def fX0_valueFromOtherEnd_L11 (N : Nat) (h : Hp) (r : Nat) (a1 : Int32) : Nat → Int32 → Int32 → Int32 → Option Int32
  | 0, _, _, _ => none
  | n + 1, u2, u3, u4 => (if u4 < u3 then ((some (fX0_codeOf h r a1 ((u3 - 1) - u4))).bind fun v1 => (if (fX4_isWellPlaced h v1 u4) = 0 then (some (-4)) else ((some (u2 + ((fX4_countOf h v1) * (tensV u4)))).bind fun v2 => (fX0_valueFromOtherEnd_L11 N h r a1 n v2 u3 (u4 + 1))))) else (some u2))
def fX0_valueFromOtherEnd (N : Nat) (h : Hp) (r : Nat) (a1 : Int32) : Option Int32 :=
  (fX0_valueFromOtherEnd_L11 N h r a1 N 0 (fX0_sizeOf h r a1) 0)
def fX0_mostOn (h : Hp) (r : Nat) (a1 : Int32) : Int32 :=
  ((tensV (fX0_sizeOf h r a1)) - 1)
def fX0_knotsOf_L4 (N : Nat) (h : Hp) (r : Nat) (a1 : Int32) : Nat → Int32 → Int32 → Option Int32
  | 0, _, _ => none
  | n + 1, u2, u3 => (if u3 < (fX0_sizeOf h r a1) then ((some (u2 + (fX4_knotsIn h (fX0_codeOf h r a1 u3)))).bind fun v1 => (fX0_knotsOf_L4 N h r a1 n v1 (u3 + 1))) else (some u2))
def fX0_knotsOf (N : Nat) (h : Hp) (r : Nat) (a1 : Int32) : Option Int32 :=
  (fX0_knotsOf_L4 N h r a1 N 0 0)
def fX0_workToTell_J62 (N : Nat) (h : Hp) (r : Nat) (a1 : Int32) (a2 : Int32) (k8 : Int32 → Int32 → Int32 → Option Int32) (u4 : Int32) (u5 : Int32) (t0 : Int32) (t1 : Int32) : Option Int32 :=
  (k8 (t1 + t0) (u4 / 10) (u5 + 1))
def fX0_workToTell_L8 (N : Nat) (h : Hp) (r : Nat) (a1 : Int32) (a2 : Int32) : Nat → Int32 → Int32 → Int32 → Option Int32
  | 0, _, _, _ => none
  | n + 1, u3, u4, u5 => (if u5 < (fX0_sizeOf h r a1) then ((some (fX4_codeToTell h (u4 - u4 / 10 * 10) u5)).bind fun v1 => (fX0_workToTell_J62 N h r a1 a2 (fX0_workToTell_L8 N h r a1 a2 n) u4 u5 (if (fX0_codeOf h r a1 u5) = v1 then 0 else ((fX4_knotsIn h (fX0_codeOf h r a1 u5)) + (fX4_knotsIn h v1))) u3)) else (some u3))
def fX0_workToTell (N : Nat) (h : Hp) (r : Nat) (a1 : Int32) (a2 : Int32) : Option Int32 :=
  (fX0_workToTell_L8 N h r a1 a2 N 0 a2 0)
def fX0_tell_L5 (N : Nat) (r : Nat) (a1 : Int32) (a2 : Int32) : Nat → Int32 → Int32 → Hp → Option Rs
  | 0, _, _, _ => none
  | n + 1, u3, u4, h => (if u4 < (fX0_sizeOf h r a1) then ((fX0_setCode h r a1 u4 (fX4_codeToTell h (u3 - u3 / 10 * 10) u4)).bind fun z1 => (fX0_tell_L5 N r a1 a2 n (u3 / 10) (u4 + 1) z1.2)) else (some (0, h)))
def fX0_tell (N : Nat) (h : Hp) (r : Nat) (a1 : Int32) (a2 : Int32) : Option Rs :=
  (fX0_tell_L5 N r a1 a2 N a2 0 h)
def fX0_looksLike_L35 (N : Nat) (h : Hp) (r : Nat) (a1 : Int32) (a2 : Int32) : Nat → Int32 → Int32 → Option Int32
  | 0, _, _ => none
  | n + 1, u3, u4 => (if u3 = 0 then (if u3 = 0 ∨ u3 = 1 then (some u3) else none) else (if u4 < (fX0_sizeOf h r a1) then (fX0_looksLike_L35 N h r a1 a2 n (if (fX0_codeOf h r a1 u4) = (fX0_codeOf h r a2 u4) then 1 else 0) (u4 + 1)) else (if u3 = 0 ∨ u3 = 1 then (some u3) else none)))
def fX0_looksLike (N : Nat) (h : Hp) (r : Nat) (a1 : Int32) (a2 : Int32) : Option Int32 :=
  (fX0_looksLike_L35 N h r a1 a2 N (if (fX0_colourOf h r a1) = (fX0_colourOf h r a2) then (if (fX0_sizeOf h r a1) = (fX0_sizeOf h r a2) then 1 else 0) else 0) 0)
def fX0_isIn (h : Hp) (r : Nat) (a1 : Int32) (a2 : Int32) : Int32 :=
  (if (fX0_depthOf h r a1) = 0 then (if (fX0_groupOf h r a1) = a2 then 1 else 0) else 0)
def fX0_isFrom (h : Hp) (r : Nat) (a1 : Int32) (a2 : Int32) : Int32 :=
  (if a1 = a2 then 1 else (if (fX0_holderOf h r a1) = a2 then 1 else (if (fX0_holderOf h r a1) = (-4) then 0 else (if (fX0_holderOf h r (fX0_holderOf h r a1)) = a2 then 1 else 0))))
def fX0_pendantAbove_L4 (N : Nat) (h : Hp) (r : Nat) (a1 : Int32) : Nat → Int32 → Int32 → Option Int32
  | 0, _, _ => none
  | n + 1, u2, u3 => (if u3 < 2 then (if (fX0_holderOf h r u2) = (-4) then (some u2) else (fX0_pendantAbove_L4 N h r a1 n (fX0_holderOf h r u2) (u3 + 1))) else (some u2))
def fX0_pendantAbove (N : Nat) (h : Hp) (r : Nat) (a1 : Int32) : Option Int32 :=
  (fX0_pendantAbove_L4 N h r a1 N a1 0)
def fX0_hangingFrom_L4 (N : Nat) (h : Hp) (r : Nat) (a1 : Int32) : Nat → Int32 → Int32 → Option Int32
  | 0, _, _ => none
  | n + 1, u2, u3 => (if u3 < (fX0_cords h r) then (fX0_hangingFrom_L4 N h r a1 n (if (fX0_holderOf h r u3) = a1 then (u2 + 1) else (u2 + 0)) (u3 + 1)) else (some u2))
def fX0_hangingFrom (N : Nat) (h : Hp) (r : Nat) (a1 : Int32) : Option Int32 :=
  (fX0_hangingFrom_L4 N h r a1 N 0 0)
def fX0_pendantsIn_L4 (N : Nat) (h : Hp) (r : Nat) (a1 : Int32) : Nat → Int32 → Int32 → Option Int32
  | 0, _, _ => none
  | n + 1, u2, u3 => (if u3 < (atF h r 179 178) then (fX0_pendantsIn_L4 N h r a1 n (if (fX0_groupOf h r (atF h r 179 (96 + u3))) = a1 then (u2 + 1) else (u2 + 0)) (u3 + 1)) else (some u2))
def fX0_pendantsIn (N : Nat) (h : Hp) (r : Nat) (a1 : Int32) : Option Int32 :=
  (fX0_pendantsIn_L4 N h r a1 N 0 0)
def fX0_pendantAt_L5 (N : Nat) (h : Hp) (r : Nat) (a1 : Int32) (a2 : Int32) : Nat → Int32 → Int32 → Option Int32
  | 0, _, _ => none
  | n + 1, u3, u4 => (if u4 < (atF h r 179 178) then (if (fX0_groupOf h r (atF h r 179 (96 + u4))) = a1 then (if u3 = a2 then (some (atF h r 179 (96 + u4))) else (fX0_pendantAt_L5 N h r a1 a2 n (u3 + 1) (u4 + 1))) else (fX0_pendantAt_L5 N h r a1 a2 n u3 (u4 + 1))) else (some (-4)))
def fX0_pendantAt (N : Nat) (h : Hp) (r : Nat) (a1 : Int32) (a2 : Int32) : Option Int32 :=
  (fX0_pendantAt_L5 N h r a1 a2 N 0 0)
def fX0_topOf_L2 (N : Nat) (h : Hp) (r : Nat) (a1 : Int32) : Nat → Int32 → Option Int32
  | 0, _ => none
  | n + 1, u2 => (if u2 < (fX0_cords h r) then (if (fX0_isTop h r u2) = 0 then (fX0_topOf_L2 N h r a1 n (u2 + 1)) else (if (fX0_groupOf h r u2) = a1 then (some u2) else (fX0_topOf_L2 N h r a1 n (u2 + 1)))) else (some (-4)))
def fX0_topOf (N : Nat) (h : Hp) (r : Nat) (a1 : Int32) : Option Int32 :=
  (fX0_topOf_L2 N h r a1 N 0)
def fX0_tops_L4 (N : Nat) (h : Hp) (r : Nat) : Nat → Int32 → Int32 → Option Int32
  | 0, _, _ => none
  | n + 1, u1, u2 => (if u2 < (fX0_cords h r) then (fX0_tops_L4 N h r n (if (fX0_isTop h r u2) = 0 then (u1 + 0) else (u1 + 1)) (u2 + 1)) else (some u1))
def fX0_tops (N : Nat) (h : Hp) (r : Nat) : Option Int32 :=
  (fX0_tops_L4 N h r N 0 0)
def fX0_addGroup (h : Hp) (r : Nat) : Option Rs :=
  ((some (putF h r 179 177 ((fX0_groups h r) + 1))).bind fun g1 => (some (0, g1)))
def fX1_opensGroup (h : Hp) : Option Rs :=
  (if (fX0_groups h 4) < 5 then ((fX0_addGroup h 4).bind fun z1 => ((some (hset z1.2 2 4 0)).bind fun g2 => ((some (hset g2 2 2 1)).bind fun g3 => (some (1, g3))))) else (some (0, h)))
def fX1_opensCluster (N : Nat) (h : Hp) (a1 : Int32) : Option Rs :=
  (if (fX0_sizeOf h 4 ((fX0_cords h 4) - 1)) < 4 then (if a1 = 46 then ((fX1_endsCluster N h 0 0).bind fun z4 => (if z4.1 = 0 ∨ z4.1 = 1 then (some (z4.1, z4.2)) else none)) else (if a1 = 101 then ((fX1_endsCluster N h 3 1).bind fun z3 => (if z3.1 = 0 ∨ z3.1 = 1 then (some (z3.1, z3.2)) else none)) else (if a1 = 108 then ((some (hset h 2 2 4)).bind fun g2 => (some (1, g2))) else (if a1 = 115 then ((some (hset h 2 2 3)).bind fun g1 => (some (1, g1))) else (some (0, h)))))) else (some (0, h)))
def fX1_comesBehindCord_J100 (a1 : Int32) (u2 : Int32) (h : Hp) : Option Rs :=
  (if u2 = 0 then ((fX1_opensCord h a1).bind fun z6 => (if z6.1 = 0 then (some (0, z6.2)) else (some (1, z6.2)))) else (some (0, h)))
def fX1_comesBehindCord_J80 (a1 : Int32) (u2 : Int32) (h : Hp) : Option Rs :=
  (if a1 = 93 then (if (h 2 3) = 0 then ((some (hset h 2 2 0)).bind fun g5 => (some (1, g5))) else (fX1_comesBehindCord_J100 a1 u2 h)) else (fX1_comesBehindCord_J100 a1 u2 h))
def fX1_comesBehindCord_J51 (a1 : Int32) (u2 : Int32) (h : Hp) : Option Rs :=
  (if a1 = 94 then (if (h 2 3) = 0 then (if u2 = 0 then ((some (hset h 2 4 1)).bind fun g3 => ((some (hset g3 2 2 1)).bind fun g4 => (some (1, g4)))) else (fX1_comesBehindCord_J80 a1 u2 h)) else (fX1_comesBehindCord_J80 a1 u2 h)) else (fX1_comesBehindCord_J80 a1 u2 h))
def fX1_comesBehindCord_J19 (a1 : Int32) (t0 : Int32) (h : Hp) : Option Rs :=
  (if a1 = 41 then (if 0 < (h 2 3) then ((some (hset h 2 3 ((h 2 3) - 1))).bind fun g1 => ((some (hset g1 2 2 6)).bind fun g2 => (some (1, g2)))) else (fX1_comesBehindCord_J51 a1 t0 h)) else (fX1_comesBehindCord_J51 a1 t0 h))
def fX1_comesBehindCord (h : Hp) (a1 : Int32) : Option Rs :=
  (fX1_comesBehindCord_J19 a1 (if (h 2 3) = 0 then (if (h 2 4) = 0 then 0 else 1) else 0) h)
def fX2_findEvenest_J108 (N : Nat) (k49 : Int32 → Int32 → Int32 → Int32 → Hp → Option Rs) (u1 : Int32) (u2 : Int32) (u3 : Int32) (u4 : Int32) (u6 : Int32) (u7 : Int32) (t0 : Int32) (h : Hp) : Option Rs :=
  ((fX2_better h t0 u7 u4 u6 u3).bind fun z10 => (k49 u1 u2 z10.1 (u4 + 1) z10.2))
def fX2_findEvenest_L49 (N : Nat) : Nat → Int32 → Int32 → Int32 → Int32 → Hp → Option Rs
  | 0, _, _, _, _, _ => none
  | n + 1, u1, u2, u3, u4, h => (if u4 < u1 then ((some (u2 - (2 * (atF h 15 256 u4)))).bind fun v4 => ((fX2_firstFrom N h ((v4 + 1) / 2)).bind fun v5 => (if 0 < v5 then ((fX2_sumAt h (v5 - 1)).bind fun v6 => ((fX2_firstFrom N h v6).bind fun v7 => (fX2_findEvenest_J108 N (fX2_findEvenest_L49 N n) u1 u2 u3 u4 v4 v5 v7 h))) else (fX2_findEvenest_J108 N (fX2_findEvenest_L49 N n) u1 u2 u3 u4 v4 v5 v5 h)))) else ((fX2_asCords N h u3).bind fun v8 => ((some (hset h 12 7 v8)).bind fun g9 => (some (0, g9)))))
def fX2_findEvenest_L14 (N : Nat) : Nat → Int32 → Int32 → Int32 → Hp → Option Rs
  | 0, _, _, _, _ => none
  | n + 1, u1, u2, u3, h => (if u3 < (h 12 5) then (fX2_findEvenest_L14 N n u1 (u2 + (atF h 14 16 u3)) (u3 + 1) h) else ((some (hset h 12 8 u2)).bind fun g3 => (fX2_findEvenest_L49 N N u1 u2 0 0 g3)))
def fX2_findEvenest (N : Nat) (h : Hp) : Option Rs :=
  ((fX2_spreadLow N h 0).bind fun z1 => ((fX2_spreadHigh N z1.2).bind fun z2 => (fX2_findEvenest_L14 N N z2.1 0 0 z2.2)))
def fX2_findFewest_J57 (N : Nat) (a1 : Int32) (k20 : Int32 → Int32 → Int32 → Int32 → Hp → Option Rs) (u2 : Int32) (u3 : Int32) (u4 : Int32) (u5 : Int32) (u6 : Int32) (t0 : Int32) (h : Hp) : Option Rs :=
  (if t0 < (h 12 6) then ((fX2_sumAt h t0).bind fun v7 => (if v7 = u6 then ((fJ6_bitCount_0f7a4 h u5).bind fun v8 => ((fX2_bitsAt h t0).bind fun v9 => ((fJ6_bitCount_0f7a4 h v9).bind fun v10 => (if (v8 + v10) < u4 then ((fX2_bitsAt h t0).bind fun v11 => ((some ((u5 <<< (8 &&& 31)) ||| v11)).bind fun v12 => (k20 u2 v12 (v8 + v10) (u5 + 1) h))) else (k20 u2 u3 u4 (u5 + 1) h))))) else (k20 u2 u3 u4 (u5 + 1) h))) else (k20 u2 u3 u4 (u5 + 1) h))
def fX2_findFewest_L20 (N : Nat) (a1 : Int32) : Nat → Int32 → Int32 → Int32 → Int32 → Hp → Option Rs
  | 0, _, _, _, _, _ => none
  | n + 1, u2, u3, u4, u5, h => (if u5 < u2 then (if (a1 - (atF h 15 256 u5)) < 0 then (fX2_findFewest_J57 N a1 (fX2_findFewest_L20 N a1 n) u2 u3 u4 u5 (a1 - (atF h 15 256 u5)) (h 12 6) h) else ((fX2_firstFrom N h (a1 - (atF h 15 256 u5))).bind fun v3 => (fX2_findFewest_J57 N a1 (fX2_findFewest_L20 N a1 n) u2 u3 u4 u5 (a1 - (atF h 15 256 u5)) v3 h))) else (if u3 = (-4) then ((some (hset h 12 7 (-4))).bind fun g4 => (some (0, g4))) else ((fX2_asCords N h u3).bind fun v5 => ((some (hset h 12 7 v5)).bind fun g6 => (some (0, g6))))))
def fX2_findFewest (N : Nat) (h : Hp) (a1 : Int32) : Option Rs :=
  ((fX2_spreadLow N h 1).bind fun z1 => ((fX2_spreadHigh N z1.2).bind fun z2 => (fX2_findFewest_L20 N a1 N z2.1 (-4) 17 0 z2.2)))
def fX4_pendant (N : Nat) (h : Hp) (a1 : Int32) (a2 : Int32) : Option Int32 :=
  (if (fX0_hasGroup h 7 a1) = 0 then (some (-1)) else (if a2 < 0 then (some (-1)) else ((fX0_pendantAt N h 7 a1 a2).bind fun v1 => (some v1))))
def fX4_tie (N : Nat) (h : Hp) (a1 : Int32) (a2 : Int32) : Option Rs :=
  (if (fX0_hasCord h 7 a1) = 0 then (some ((-1), h)) else (if a2 < 0 then (some ((-1), h)) else (if (fX0_mostOn h 7 a1) < a2 then (some ((-2), h)) else ((fX0_workToTell N h 7 a1 a2).bind fun v1 => ((fX3_add N h 8 9 1432 7 179).bind fun z2 => ((fX0_tell N z2.2 7 a1 a2).bind fun z3 => (some (v1, z3.2))))))))
def fX4_more (N : Nat) (h : Hp) (a1 : Int32) (a2 : Int32) : Option Rs :=
  (if (fX0_hasCord h 7 a1) = 0 then (some ((-1), h)) else (if a2 < (-9999) then (some ((-1), h)) else (if 9999 < a2 then (some ((-1), h)) else ((fX0_valueOf N h 7 a1).bind fun v1 => (if v1 = (-4) then (some ((-2), h)) else (if (v1 + a2) < 0 then (some ((-2), h)) else (if (fX0_mostOn h 7 a1) < (v1 + a2) then (some ((-2), h)) else ((fX3_add N h 8 9 1432 7 179).bind fun z2 => ((fX0_tell N z2.2 7 a1 (v1 + a2)).bind fun z3 => (some ((v1 + a2), z3.2)))))))))))
def fX4_dye (N : Nat) (h : Hp) (a1 : Int32) (a2 : Int32) : Option Rs :=
  (if (fX0_hasCord h 7 a1) = 0 then (some ((-1), h)) else (if (fX4_isColour h a2) = 0 then (some ((-1), h)) else ((fX3_add N h 8 9 1432 7 179).bind fun z1 => ((fX0_setColour z1.2 7 a1 a2).bind fun z2 => (some ((fX0_colourOf h 7 a1), z2.2))))))
def fX4_undo (h : Hp) : Option Rs :=
  (if (h 8 2) = 0 then (some ((-2), h)) else ((fX3_takeInto h 8 9 1432 7 179).bind fun z1 => (some ((z1.2 8 2), z1.2))))
def fX4_closed_J124 (N : Nat) (h : Hp) (a1 : Int32) (a2 : Int32) (a3 : Int32) (k45 : Int32 → Int32 → Int32 → Int32 → Option Int32) (u4 : Int32) (u5 : Int32) (u7 : Int32) (u8 : Int32) (t0 : Int32) : Option Int32 :=
  ((some (u4 + (fX4_countOf h u8))).bind fun v3 => (k45 v3 u5 t0 (u7 + 1)))
def fX4_closed_J159 (N : Nat) (h : Hp) (a1 : Int32) (a2 : Int32) (a3 : Int32) (u4 : Int32) (t0 : Int32) : Option Int32 :=
  (if a3 = 0 then (some t0) else (if t0 = 0 then (some (-4)) else (some u4)))
def fX4_closed_L45 (N : Nat) (h : Hp) (a1 : Int32) (a2 : Int32) (a3 : Int32) : Nat → Int32 → Int32 → Int32 → Int32 → Option Int32
  | 0, _, _, _, _ => none
  | n + 1, u4, u5, u6, u7 => (if u7 < (fX0_sizeOf h 7 a1) then (if (fX4_kindOf h (fX0_codeOf h 7 a1 u7)) = 1 then ((some (u4 + ((fX4_countOf h (fX0_codeOf h 7 a1 u7)) * (tensV (u5 + 1))))).bind fun v1 => (fX4_closed_L45 N h a1 a2 a3 n v1 (u5 + 1) u6 (u7 + 1))) else (if (fX4_kindOf h (fX0_codeOf h 7 a1 u7)) = 0 then (fX4_closed_L45 N h a1 a2 a3 n u4 u5 u6 (u7 + 1)) else (fX4_closed_J124 N h a1 a2 a3 (fX4_closed_L45 N h a1 a2 a3 n) u4 u5 u7 (fX0_codeOf h 7 a1 u7) (if u6 = 0 then 0 else (if u4 = 0 then 1 else 0))))) else (if u6 = 0 then (fX4_closed_J159 N h a1 a2 a3 u4 0) else ((fX4_choices N h (a2 - 1) u5).bind fun v2 => (fX4_closed_J159 N h a1 a2 a3 u4 v2))))
def fX4_closed (N : Nat) (h : Hp) (a1 : Int32) (a2 : Int32) (a3 : Int32) : Option Int32 :=
  (if (fX0_hasCord h 7 a1) = 0 then (some (-1)) else (if a2 < 1 then (some (-1)) else (if 6 < a2 then (some (-1)) else (if a3 < 0 then (some (-1)) else (if 1 < a3 then (some (-1)) else (fX4_closed_L45 N h a1 a2 a3 N 0 0 1 0))))))
def fX4_order_L68 (N : Nat) (a1 : Int32) (k27 : Int32 → Int32 → Int32 → Hp → Option Rs) : Nat → Int32 → Int32 → Int32 → Int32 → Int32 → Int32 → Hp → Option Rs
  | 0, _, _, _, _, _, _, _ => none
  | n + 1, u2, u3, u4, u5, u6, u7, h => (if u7 < u4 then (if u5 < (atF h 20 16 u7) then (fX4_order_L68 N a1 k27 n u2 u3 u4 u5 u6 (u7 + 1) h) else ((some (if u6 < ((atF h 21 16 u7) + 1) then ((atF h 21 16 u7) + 1) else u6)).bind fun v4 => (fX4_order_L68 N a1 k27 n u2 u3 u4 u5 v4 (u7 + 1) h))) else ((some (putF h 20 16 u4 u5)).bind fun g5 => ((some (putF g5 21 16 u4 u6)).bind fun g6 => ((some (if u3 < u6 then u6 else u3)).bind fun v7 => (k27 u2 v7 (u4 + 1) g6)))))
def fX4_order_L27 (N : Nat) (a1 : Int32) : Nat → Int32 → Int32 → Int32 → Hp → Option Rs
  | 0, _, _, _, _ => none
  | n + 1, u2, u3, u4, h => (if u4 < u2 then ((fX0_pendantAt N h 7 a1 u4).bind fun v2 => ((fX0_valueOf N h 7 v2).bind fun v3 => (if v3 = (-4) then (some ((-4), h)) else (fX4_order_L68 N a1 (fX4_order_L27 N a1 n) N u2 u3 u4 v3 1 0 h)))) else (some ((u2 - u3), h)))
def fX4_order (N : Nat) (h : Hp) (a1 : Int32) : Option Rs :=
  (if (fX0_hasGroup h 7 a1) = 0 then (some ((-1), h)) else ((fX0_pendantsIn N h 7 a1).bind fun v1 => (fX4_order_L27 N a1 N v1 0 0 h)))
def fX4_keep (N : Nat) (h : Hp) : Option Rs :=
  (if (h 10 2) < 2 then ((fX3_add N h 10 11 358 7 179).bind fun z1 => (some ((z1.2 10 2), z1.2))) else (some ((-3), h)))
def fX4_back (h : Hp) : Option Rs :=
  (if (h 10 2) = 0 then (some ((-2), h)) else ((fX3_takeInto h 10 11 358 7 179).bind fun z1 => ((fX3_clear z1.2 8 9 1432).bind fun z2 => (some ((z2.2 10 2), z2.2)))))
def fX4_measureRoom_J90 (N : Nat) (a1 : Int32) (k18 : Int32 → Hp → Option Rs) (k31 : Int32 → Int32 → Hp → Option Rs) (u2 : Int32) (u3 : Int32) (t0 : Int32) (h : Hp) : Option Rs :=
  ((some (putF h 18 4 u3 ((atF h 18 4 u3) + t0))).bind fun g4 => ((some (putF g4 19 4 u3 (((atF g4 19 4 u3) + 9) - t0))).bind fun g5 => (k31 u2 (u3 + 1) g5)))
def fX4_measureRoom_L31 (N : Nat) (a1 : Int32) (k18 : Int32 → Hp → Option Rs) : Nat → Int32 → Int32 → Hp → Option Rs
  | 0, _, _, _ => none
  | n + 1, u2, u3, h => (if (fX0_isIn h 7 u2 a1) = 0 then (k18 (u2 + 1) h) else (if u3 < (fX0_sizeOf h 7 u2) then ((some (fX4_countOf h (fX0_codeOf h 7 u2 u3))).bind fun v3 => (fX4_measureRoom_J90 N a1 k18 (fX4_measureRoom_L31 N a1 k18 n) u2 u3 (if (fX0_isTop h 7 u2) = 0 then (9 - v3) else v3) h)) else (k18 (u2 + 1) h)))
def fX4_measureRoom_L18 (N : Nat) (a1 : Int32) : Nat → Int32 → Hp → Option Rs
  | 0, _, _ => none
  | n + 1, u2, h => (if u2 < (fX0_cords h 7) then (fX4_measureRoom_L31 N a1 (fX4_measureRoom_L18 N a1 n) N u2 0 h) else (some (0, h)))
def fX4_measureRoom (N : Nat) (h : Hp) (a1 : Int32) : Option Rs :=
  ((fJ7_fill_53178 N h 18 4 0).bind fun z1 => ((fJ7_fill_53178 N z1.2 19 4 0).bind fun z2 => (fX4_measureRoom_L18 N a1 N 0 z2.2)))
def fX5_takes_J114 (N : Nat) (a1 : Int32) (h : Hp) : Option Rs :=
  ((fX5_takesKnots N h a1).bind fun z8 => (if z8.1 = 0 ∨ z8.1 = 1 then (some (z8.1, z8.2)) else none))
def fX5_takes (N : Nat) (h : Hp) (a1 : Int32) : Option Rs :=
  (if (h 22 8) = 0 then ((fX5_takesGroup h a1).bind fun z7 => (if z7.1 = 0 ∨ z7.1 = 1 then (some (z7.1, z7.2)) else none)) else (if (h 22 8) = 1 then (if (fX5_in h (a1).toInt64 48 57) = 0 then (some (0, h)) else (if (fX5_hasRoom h) = 0 then (some (0, h)) else ((fX5_takesColour h (a1 - 48)).bind fun z6 => (if z6.1 = 0 then (some (0, z6.2)) else (some (1, z6.2)))))) else (if (h 22 8) = 2 then ((fX5_takesKnots N h a1).bind fun z5 => (if z5.1 = 0 ∨ z5.1 = 1 then (some (z5.1, z5.2)) else none)) else (if (h 22 8) = 3 then (if a1 = 46 then (fX5_takes_J114 N a1 h) else (if (fX5_in h (a1).toInt64 97 122) = 0 then ((fX5_takesBehind h a1).bind fun z4 => (if z4.1 = 0 ∨ z4.1 = 1 then (some (z4.1, z4.2)) else none)) else (fX5_takes_J114 N a1 h))) else (if (h 22 8) = 4 then ((fX5_takesBehind h a1).bind fun z3 => (if z3.1 = 0 ∨ z3.1 = 1 then (some (z3.1, z3.2)) else none)) else (if (h 22 8) = 5 then (if (fX5_in h (a1).toInt64 49 57) = 0 then (some (0, h)) else ((fX5_takesCluster N h ((10 + a1) - 48)).bind fun z2 => (if z2.1 = 0 then (some (0, z2.2)) else (some (1, z2.2))))) else (if (fX5_in h (a1).toInt64 50 57) = 0 then (some (0, h)) else ((fX5_takesCluster N h ((20 + a1) - 48)).bind fun z1 => (if z1.1 = 0 then (some (0, z1.2)) else (some (1, z1.2)))))))))))
def fX5_beneath_L4 (N : Nat) (h : Hp) (a1 : Int32) : Nat → Int32 → Int32 → Option Int32
  | 0, _, _ => none
  | n + 1, u2, u3 => (if u3 < (h 23 0) then ((fX5_isUnder h u3 a1).bind fun v1 => (if v1 = 0 then (fX5_beneath_L4 N h a1 n u2 (u3 + 1)) else ((fX5_value N h u3).bind fun v2 => (if v2 = (-4) then (some (-4)) else ((fX5_value N h u3).bind fun v3 => (fX5_beneath_L4 N h a1 n (u2 + v3) (u3 + 1))))))) else (some u2))
def fX5_beneath (N : Nat) (h : Hp) (a1 : Int32) : Option Int32 :=
  (fX5_beneath_L4 N h a1 N 0 0)
def fX5_manyOf_L4 (N : Nat) (h : Hp) (a1 : Int32) : Nat → Int32 → Int32 → Option Int32
  | 0, _, _ => none
  | n + 1, u2, u3 => (if u3 < (h 23 0) then ((fX5_isOf h u3 a1).bind fun v1 => (fX5_manyOf_L4 N h a1 n (if v1 = 0 then (u2 + 0) else (u2 + 1)) (u3 + 1))) else (some u2))
def fX5_manyOf (N : Nat) (h : Hp) (a1 : Int32) : Option Int32 :=
  (fX5_manyOf_L4 N h a1 N 0 0)
def fX5_pendantAt_L27 (N : Nat) (h : Hp) (a1 : Int32) (a2 : Int32) (k2 : Int32 → Option Int32) : Nat → Int32 → Int32 → Int32 → Option Int32
  | 0, _, _, _ => none
  | n + 1, u3, u4, u5 => (if u5 < (h 23 0) then ((fX5_isOf h u5 a1).bind fun v2 => (if v2 = 0 then (fX5_pendantAt_L27 N h a1 a2 k2 n u3 (u4 + 0) (u5 + 1)) else ((rdH h 23 162 (146 + u5)).bind fun v3 => ((rdH h 23 162 (146 + u3)).bind fun v4 => (fX5_pendantAt_L27 N h a1 a2 k2 n u3 (if v3 < v4 then (u4 + 1) else (u4 + 0)) (u5 + 1)))))) else (if u4 = a2 then (some u3) else (k2 (u3 + 1))))
def fX5_pendantAt_L2 (N : Nat) (h : Hp) (a1 : Int32) (a2 : Int32) : Nat → Int32 → Option Int32
  | 0, _ => none
  | n + 1, u3 => (if u3 < (h 23 0) then ((fX5_isOf h u3 a1).bind fun v1 => (if v1 = 0 then (fX5_pendantAt_L2 N h a1 a2 n (u3 + 1)) else (fX5_pendantAt_L27 N h a1 a2 (fX5_pendantAt_L2 N h a1 a2 n) N u3 0 0))) else (some (-4)))
def fX5_pendantAt (N : Nat) (h : Hp) (a1 : Int32) (a2 : Int32) : Option Int32 :=
  (fX5_pendantAt_L2 N h a1 a2 N 0)
def fX5_tie (N : Nat) (h : Hp) (a1 : Int32) (a2 : Int32) : Option Rs :=
  (if (fX5_isCord h a1) = 0 then (some ((-1), h)) else (if a2 < 0 then (some ((-1), h)) else ((rdH h 23 162 (18 + a1)).bind fun v1 => ((fX5_power N h v1).bind fun v2 => (if a2 < v2 then ((fX5_workFor N h a1 a2).bind fun v3 => ((fX5_ties N h a1 a2).bind fun z4 => (some (v3, z4.2)))) else (some ((-2), h)))))))
def fX5_more (N : Nat) (h : Hp) (a1 : Int32) (a2 : Int32) : Option Rs :=
  (if (fX5_isCord h a1) = 0 then (some ((-1), h)) else (if (fX5_in h (a2).toInt64 (-9999) 9999) = 0 then (some ((-1), h)) else ((fX5_value N h a1).bind fun v1 => ((fX5_value N h a1).bind fun v2 => (if v2 = (-4) then (some ((-2), h)) else ((rdH h 23 162 (18 + a1)).bind fun v3 => ((fX5_power N h v3).bind fun v4 => (if (fX5_in h ((v1 + a2)).toInt64 0 ((v4 - 1)).toInt64) = 0 then (some ((-2), h)) else ((fX5_ties N h a1 (v1 + a2)).bind fun z5 => (some ((v1 + a2), z5.2)))))))))))
def fX5_layRoom_J136 (N : Nat) (a1 : Int32) (k29 : Int32 → Hp → Option Rs) (k75 : Int32 → Int32 → Int32 → Hp → Option Rs) (u2 : Int32) (u3 : Int32) (u4 : Int32) (u5 : Int32) (t0 : Int32) (t1 : Int32) (t2 : Int32) (h : Hp) : Option Rs :=
  (if 0 ≤ (t2).toInt ∧ (t2).toInt < (4 : Nat) then ((some (hset h 29 (t2).toNatClampNeg (t1 + t0))).bind fun g9 => ((rdH g9 30 4 u4).bind fun v10 => (if u3 = 0 then (if 0 ≤ (u4).toInt ∧ (u4).toInt < (4 : Nat) then ((some (hset g9 30 (u4).toNatClampNeg (v10 + u5))).bind fun g11 => (k75 u2 u3 (u4 + 1) g11)) else none) else (if 0 ≤ (u4).toInt ∧ (u4).toInt < (4 : Nat) then ((some (hset g9 30 (u4).toNatClampNeg (v10 + (9 - u5)))).bind fun g12 => (k75 u2 u3 (u4 + 1) g12)) else none)))) else none)
def fX5_layRoom_J102 (N : Nat) (a1 : Int32) (k29 : Int32 → Hp → Option Rs) (k75 : Int32 → Int32 → Int32 → Hp → Option Rs) (u2 : Int32) (u3 : Int32) (u4 : Int32) (h : Hp) : Option Rs :=
  ((fX5_knot0 h u2 u4).bind fun v7 => ((rdH h 29 4 u4).bind fun v8 => (fX5_layRoom_J136 N a1 k29 k75 u2 u3 u4 (v7 - v7 / 10 * 10) (if u3 = 0 then (9 - (v7 - v7 / 10 * 10)) else (v7 - v7 / 10 * 10)) v8 u4 h)))
def fX5_layRoom_L75 (N : Nat) (a1 : Int32) (k29 : Int32 → Hp → Option Rs) : Nat → Int32 → Int32 → Int32 → Hp → Option Rs
  | 0, _, _, _, _ => none
  | n + 1, u2, u3, u4, h => ((rdH h 23 162 (18 + u2)).bind fun v5 => (if u4 < v5 then (if u3 = 0 then ((fX5_isOf h u2 a1).bind fun v6 => (if v6 = 0 then (k29 (u2 + 1) h) else (fX5_layRoom_J102 N a1 k29 (fX5_layRoom_L75 N a1 k29 n) u2 u3 u4 h))) else (fX5_layRoom_J102 N a1 k29 (fX5_layRoom_L75 N a1 k29 n) u2 u3 u4 h)) else (k29 (u2 + 1) h)))
def fX5_layRoom_L29 (N : Nat) (a1 : Int32) : Nat → Int32 → Hp → Option Rs
  | 0, _, _ => none
  | n + 1, u2, h => (if u2 < (h 23 0) then ((rdH h 23 162 (130 + u2)).bind fun v3 => (if v3 = 1 then ((rdH h 23 162 (114 + u2)).bind fun v4 => (fX5_layRoom_L75 N a1 (fX5_layRoom_L29 N a1 n) N u2 (if v4 = a1 then 1 else 0) 0 h)) else (fX5_layRoom_L75 N a1 (fX5_layRoom_L29 N a1 n) N u2 0 0 h))) else (some (0, h)))
def fX5_layRoom_L2 (N : Nat) (a1 : Int32) : Nat → Int32 → Hp → Option Rs
  | 0, _, _ => none
  | n + 1, u2, h => (if u2 < 4 then (if 0 ≤ (u2).toInt ∧ (u2).toInt < (4 : Nat) then ((some (hset h 29 (u2).toNatClampNeg 0)).bind fun g1 => (if 0 ≤ (u2).toInt ∧ (u2).toInt < (4 : Nat) then ((some (hset g1 30 (u2).toNatClampNeg 0)).bind fun g2 => (fX5_layRoom_L2 N a1 n (u2 + 1) g2)) else none)) else none) else (fX5_layRoom_L29 N a1 N 0 h))
def fX5_layRoom (N : Nat) (h : Hp) (a1 : Int32) : Option Rs :=
  (fX5_layRoom_L2 N a1 N 0 h)
def fX5_layValues_L2 (N : Nat) : Nat → Int32 → Hp → Option Rs
  | 0, _, _ => none
  | n + 1, u1, h => (if u1 < (h 23 0) then ((fX5_value N h u1).bind fun v1 => (if 0 ≤ (u1).toInt ∧ (u1).toInt < (16 : Nat) then ((some (hset h 32 (u1).toNatClampNeg v1)).bind fun g2 => (fX5_layValues_L2 N n (u1 + 1) g2)) else none)) else (some (0, h)))
def fX5_layValues (N : Nat) (h : Hp) : Option Rs :=
  (fX5_layValues_L2 N N 0 h)
def fX5_colours_L29 (N : Nat) (h : Hp) (a1 : Int32) (a2 : Int32) : Nat → Int32 → Int32 → Int32 → Option Int32
  | 0, _, _, _ => none
  | n + 1, u3, u4, u5 => (if u5 < (h 23 0) then ((rdH h 23 162 (2 + u5)).bind fun v1 => (if v1 = a1 then ((fX5_value N h u5).bind fun v2 => (if v2 = (-4) then (fX5_colours_L29 N h a1 a2 n (u3 + 0) (u4 + 1) (u5 + 1)) else ((fX5_value N h u5).bind fun v3 => (fX5_colours_L29 N h a1 a2 n (u3 + v3) (u4 + 1) (u5 + 1))))) else (fX5_colours_L29 N h a1 a2 n u3 u4 (u5 + 1)))) else (if a2 = 0 then (some u3) else (some u4)))
def fX5_colours (N : Nat) (h : Hp) (a1 : Int32) (a2 : Int32) : Option Int32 :=
  (if (fX5_in h (a1).toInt64 0 9) = 0 then (some (-1)) else (if (fX5_isTwo h a2) = 0 then (some (-1)) else (fX5_colours_L29 N h a1 a2 N 0 0 0)))
def fX5_path_J90 (N : Nat) (h : Hp) (a1 : Int32) (a2 : Int32) (k31 : Int32 → Int32 → Option Int32) (u3 : Int32) (u4 : Int32) (t0 : Int32) : Option Int32 :=
  (if t0 = 0 then (k31 (u3 + 0) (u4 + 1)) else ((fX5_value N h u4).bind fun v5 => (if v5 = (-4) then (k31 (u3 + 0) (u4 + 1)) else ((fX5_value N h u4).bind fun v6 => (k31 (u3 + v6) (u4 + 1))))))
def fX5_path_L31 (N : Nat) (h : Hp) (a1 : Int32) (a2 : Int32) : Nat → Int32 → Int32 → Option Int32
  | 0, _, _ => none
  | n + 1, u3, u4 => (if u4 < (h 23 0) then ((rdH h 23 162 (2 + u4)).bind fun v1 => (if v1 = a2 then ((fX5_isPendant h u4).bind fun v2 => (if v2 = 0 then ((rdH h 23 162 (98 + u4)).bind fun v3 => ((rdH h 23 162 (2 + v3)).bind fun v4 => (fX5_path_J90 N h a1 a2 (fX5_path_L31 N h a1 a2 n) u3 u4 (if v4 = a1 then 1 else 0)))) else (fX5_path_J90 N h a1 a2 (fX5_path_L31 N h a1 a2 n) u3 u4 0))) else (fX5_path_J90 N h a1 a2 (fX5_path_L31 N h a1 a2 n) u3 u4 0))) else (some u3))
def fX5_path (N : Nat) (h : Hp) (a1 : Int32) (a2 : Int32) : Option Int32 :=
  (if (fX5_in h (a1).toInt64 0 9) = 0 then (some (-1)) else (if (fX5_in h (a2).toInt64 0 9) = 0 then (some (-1)) else (fX5_path_L31 N h a1 a2 N 0 0)))
def fX5_same_J72 (N : Nat) (h : Hp) (a1 : Int32) (a2 : Int32) (u3 : Int32) : Option Int32 :=
  (if u3 = 0 then (some 0) else (some 1))
def fX5_same_L33 (N : Nat) (h : Hp) (a1 : Int32) (a2 : Int32) : Nat → Int32 → Int32 → Option Int32
  | 0, _, _ => none
  | n + 1, u3, u4 => (if u3 = 0 then (fX5_same_J72 N h a1 a2 u3) else ((fX5_hanging N h a1).bind fun v2 => (if u4 < v2 then ((fX5_hangingAt N h a1 u4).bind fun v3 => ((fX5_hangingAt N h a2 u4).bind fun v4 => ((fX5_areAlikeBelow N h v3 v4).bind fun v5 => (fX5_same_L33 N h a1 a2 n v5 (u4 + 1))))) else (fX5_same_J72 N h a1 a2 u3))))
def fX5_same (N : Nat) (h : Hp) (a1 : Int32) (a2 : Int32) : Option Int32 :=
  (if (fX5_isCord h a1) = 0 then (some (-1)) else (if (fX5_isCord h a2) = 0 then (some (-1)) else (if a1 = a2 then (some (-1)) else ((fX5_areAlike N h a1 a2).bind fun v1 => (fX5_same_L33 N h a1 a2 N v1 0)))))
def fX5_year_J150 (N : Nat) (h : Hp) (a1 : Int32) (a2 : Int32) (k29 : Int32 → Int32 → Int32 → Option Int32) (u3 : Int32) (u4 : Int32) (u5 : Int32) (t0 : Int32) : Option Int32 :=
  ((fX5_workFor N h u5 t0).bind fun v8 => (k29 (u3 + v8) (u4 + t0) (u5 + 1)))
def fX5_year_L29 (N : Nat) (h : Hp) (a1 : Int32) (a2 : Int32) : Nat → Int32 → Int32 → Int32 → Option Int32
  | 0, _, _, _ => none
  | n + 1, u3, u4, u5 => (if u5 < (h 23 0) then ((fX5_isPlain h u5).bind fun v1 => (if v1 = 0 then (fX5_year_L29 N h a1 a2 n u3 u4 (u5 + 1)) else ((fX5_value N h u5).bind fun v2 => (if v2 = (-4) then (fX5_year_L29 N h a1 a2 n u3 u4 (u5 + 1)) else ((some (((((((7919 * (a1).toInt64) + (6151 * (u5).toInt64)) + 1) * (((7919 * (a1).toInt64) + (6151 * (u5).toInt64)) + 1)) - ((((7919 * (a1).toInt64) + (6151 * (u5).toInt64)) + 1) * (((7919 * (a1).toInt64) + (6151 * (u5).toInt64)) + 1)) / 65521 * 65521)).toInt32 / 8)).bind fun v3 => ((rdH h 23 162 (18 + u5)).bind fun v4 => ((fX5_power N h v4).bind fun v5 => ((fX5_value N h u5).bind fun v6 => ((some ((v6 + (v3 - v3 / 21 * 21)) - 10)).bind fun v7 => (fX5_year_J150 N h a1 a2 (fX5_year_L29 N h a1 a2 n) u3 u4 u5 (if v7 < 0 then 0 else (if (v5 - 1) < v7 then (v5 - 1) else v7)))))))))))) else (if a2 = 0 then (some u3) else (some u4)))
def fX5_year (N : Nat) (h : Hp) (a1 : Int32) (a2 : Int32) : Option Int32 :=
  (if (fX5_in h (a1).toInt64 0 9999) = 0 then (some (-1)) else (if (fX5_isTwo h a2) = 0 then (some (-1)) else (fX5_year_L29 N h a1 a2 N 0 0 0)))
def fX5_count_J52 (N : Nat) (h : Hp) (a1 : Int32) (k10 : Int32 → Int32 → Int32 → Int32 → Option Int32) (u2 : Int32) (u4 : Int32) (u5 : Int32) (t0 : Int32) (t1 : Int32) : Option Int32 :=
  ((fX5_knots_ N h u5).bind fun v3 => (k10 u2 (t1 + t0) (u4 + v3) (u5 + 1)))
def fX5_count_L10 (N : Nat) (h : Hp) (a1 : Int32) : Nat → Int32 → Int32 → Int32 → Int32 → Option Int32
  | 0, _, _, _, _ => none
  | n + 1, u2, u3, u4, u5 => (if u5 < (h 23 0) then ((rdH h 23 162 (130 + u5)).bind fun v1 => ((fX5_value N h u5).bind fun v2 => (fX5_count_J52 N h a1 (fX5_count_L10 N h a1 n) (u2 + v1) u4 u5 (if v2 = (-4) then 0 else 1) u3))) else (if a1 = 0 then (some (h 23 0)) else (if a1 = 1 then (some (h 23 1)) else (if a1 = 2 then (some u2) else (if a1 = 3 then (some u3) else (if a1 = 4 then (some u4) else (if a1 = 5 then (some (h 22 2)) else (if a1 = 6 then (some (h 22 4)) else (if a1 = 7 then (some (h 22 6)) else (some (-1)))))))))))
def fX5_count (N : Nat) (h : Hp) (a1 : Int32) : Option Int32 :=
  (fX5_count_L10 N h a1 N 0 0 0 0)
def fX0_hasCluster (h : Hp) (r : Nat) (a1 : Int32) (a2 : Int32) : Int32 :=
  (if (fX0_hasCord h r a1) = 0 then 0 else (if a2 < 0 then 0 else (if a2 < (fX0_sizeOf h r a1) then 1 else 0)))
def fX0_told (N : Nat) (h : Hp) (r : Nat) (a1 : Int32) : Option Int32 :=
  ((fX0_valueOf N h r a1).bind fun v1 => (some (if v1 < 0 then 0 else v1)))
def fX0_isPlainPendant (h : Hp) (r : Nat) (a1 : Int32) : Int32 :=
  (if (fX0_hasCord h r a1) = 0 then 0 else (if (fX0_depthOf h r a1) = 0 then (if (fX0_isTop h r a1) = 0 then 1 else 0) else 0))
def fX0_cordsFrom_L4 (N : Nat) (h : Hp) (r : Nat) (a1 : Int32) : Nat → Int32 → Int32 → Option Int32
  | 0, _, _ => none
  | n + 1, u2, u3 => (if u3 < (fX0_cords h r) then (fX0_cordsFrom_L4 N h r a1 n (if (fX0_isFrom h r u3 a1) = 0 then (u2 + 0) else (u2 + 1)) (u3 + 1)) else (some u2))
def fX0_cordsFrom (N : Nat) (h : Hp) (r : Nat) (a1 : Int32) : Option Int32 :=
  (fX0_cordsFrom_L4 N h r a1 N 0 0)
def fX0_wholeOf_L4 (N : Nat) (h : Hp) (r : Nat) (a1 : Int32) : Nat → Int32 → Int32 → Option Int32
  | 0, _, _ => none
  | n + 1, u2, u3 => (if u3 < (fX0_cords h r) then (if (fX0_isFrom h r u3 a1) = 0 then (fX0_wholeOf_L4 N h r a1 n u2 (u3 + 1)) else ((fX0_valueOf N h r u3).bind fun v1 => (if v1 = (-4) then (some (-4)) else (fX0_wholeOf_L4 N h r a1 n (u2 + v1) (u3 + 1))))) else (some u2))
def fX0_wholeOf (N : Nat) (h : Hp) (r : Nat) (a1 : Int32) : Option Int32 :=
  (fX0_wholeOf_L4 N h r a1 N 0 0)
def fX0_moveBehind_L81 (N : Nat) (r : Nat) (a1 : Int32) (a2 : Int32) : Nat → Int32 → Hp → Option Rs
  | 0, _, _ => none
  | n + 1, u5, h => (if u5 < (fX0_cords h r) then (if (fX0_isFrom h r u5 a1) = 0 then (fX0_moveBehind_L81 N r a1 a2 n (u5 + 1) h) else ((some (putF h r 179 (80 + u5) a2)).bind fun g3 => (fX0_moveBehind_L81 N r a1 a2 n (u5 + 1) g3))) else (some (0, h)))
def fX0_moveBehind_L17 (N : Nat) (r : Nat) (a1 : Int32) (a2 : Int32) : Nat → Int32 → Int32 → Int32 → Hp → Option Rs
  | 0, _, _, _, _ => none
  | n + 1, u3, u4, u5, h => (if u5 < u4 then (if (atF h r 179 (96 + u5)) = a1 then (fX0_moveBehind_L17 N r a1 a2 n u3 u4 (u5 + 1) h) else ((some (putF h r 179 (96 + u3) (atF h r 179 (96 + u5)))).bind fun g1 => (fX0_moveBehind_L17 N r a1 a2 n (u3 + 1) u4 (u5 + 1) g1))) else ((some (putF h r 179 (96 + u3) a1)).bind fun g2 => (fX0_moveBehind_L81 N r a1 a2 N 0 g2)))
def fX0_moveBehind (N : Nat) (h : Hp) (r : Nat) (a1 : Int32) (a2 : Int32) : Option Rs :=
  (fX0_moveBehind_L17 N r a1 a2 N 0 (atF h r 179 178) 0 h)
def fX0_wellKnotted_L4 (N : Nat) (h : Hp) (r : Nat) : Nat → Int32 → Int32 → Option Int32
  | 0, _, _ => none
  | n + 1, u1, u2 => (if u2 < (fX0_cords h r) then ((fX0_valueOf N h r u2).bind fun v1 => (fX0_wellKnotted_L4 N h r n (if v1 = (-4) then (u1 + 0) else (u1 + 1)) (u2 + 1))) else (some u1))
def fX0_wellKnotted (N : Nat) (h : Hp) (r : Nat) : Option Int32 :=
  (fX0_wellKnotted_L4 N h r N 0 0)
def fX0_allKnots_L4 (N : Nat) (h : Hp) (r : Nat) : Nat → Int32 → Int32 → Option Int32
  | 0, _, _ => none
  | n + 1, u1, u2 => (if u2 < (fX0_cords h r) then ((fX0_knotsOf N h r u2).bind fun v1 => (fX0_allKnots_L4 N h r n (u1 + v1) (u2 + 1))) else (some u1))
def fX0_allKnots (N : Nat) (h : Hp) (r : Nat) : Option Int32 :=
  (fX0_allKnots_L4 N h r N 0 0)
def fX1_takes (N : Nat) (h : Hp) (a1 : Int32) : Option Rs :=
  (if (h 2 2) = 0 then (if a1 = 91 then ((fX1_opensGroup h).bind fun z9 => (if z9.1 = 0 then (some (0, z9.2)) else (some (1, z9.2)))) else (some (0, h))) else (if (h 2 2) = 1 then ((fX1_opensCord h a1).bind fun z8 => (if z8.1 = 0 ∨ z8.1 = 1 then (some (z8.1, z8.2)) else none)) else (if (h 2 2) = 2 then ((fX1_opensCluster N h a1).bind fun z7 => (if z7.1 = 0 ∨ z7.1 = 1 then (some (z7.1, z7.2)) else none)) else (if (h 2 2) = 3 then ((fX1_endsCluster N h 1 (a1 - 48)).bind fun z6 => (if z6.1 = 0 ∨ z6.1 = 1 then (some (z6.1, z6.2)) else none)) else (if (h 2 2) = 4 then ((fX1_endsCluster N h 2 (a1 - 48)).bind fun z5 => (if z5.1 = 0 ∨ z5.1 = 1 then (some (z5.1, z5.2)) else none)) else (if (h 2 2) = 5 then ((fX1_opensCluster N h a1).bind fun z2 => (if z2.1 = 0 then ((fX1_opensHanging z2.2 a1).bind fun z3 => (if z3.1 = 0 then ((fX1_comesBehindCord z3.2 a1).bind fun z4 => (if z4.1 = 0 then (some (0, z4.2)) else (some (1, z4.2)))) else (some (1, z3.2)))) else (some (1, z2.2)))) else ((fX1_comesBehindCord h a1).bind fun z1 => (if z1.1 = 0 ∨ z1.1 = 1 then (some (z1.1, z1.2)) else none))))))))
def fX4_cord (N : Nat) (h : Hp) (a1 : Int32) (a2 : Int32) : Option Int32 :=
  (if (fX0_hasCord h 7 a1) = 0 then (some (-1)) else (if a2 = 0 then (some (fX0_colourOf h 7 a1)) else (if a2 = 1 then (some (fX0_sizeOf h 7 a1)) else (if a2 = 2 then (some (fX0_holderOf h 7 a1)) else (if a2 = 3 then (some (fX0_groupOf h 7 a1)) else (if a2 = 4 then (some (fX0_depthOf h 7 a1)) else (if a2 = 5 then ((fX0_hangingFrom N h 7 a1).bind fun v5 => (some v5)) else (if a2 = 6 then (if (fX0_isTop h 7 a1) = 0 then (some 0) else (some 1)) else (if a2 = 7 then ((fX0_valueOf N h 7 a1).bind fun v4 => (some v4)) else (if a2 = 8 then ((fX0_wholeOf N h 7 a1).bind fun v3 => (some v3)) else (if a2 = 9 then ((fX0_valueFromOtherEnd N h 7 a1).bind fun v2 => (some v2)) else (if a2 = 10 then ((fX0_knotsOf N h 7 a1).bind fun v1 => (some v1)) else (some (-1))))))))))))))
def fX4_cluster (h : Hp) (a1 : Int32) (a2 : Int32) : Int32 :=
  (if (fX0_hasCluster h 7 a1 a2) = 0 then (-1) else (fX0_codeOf h 7 a1 a2))
def fX4_knot (N : Nat) (h : Hp) (a1 : Int32) (a2 : Int32) (a3 : Int32) (a4 : Int32) : Option Rs :=
  (if (fX0_hasCluster h 7 a1 a2) = 0 then (some ((-1), h)) else (if (fX4_canCount h a3 a4) = 0 then (some ((-1), h)) else ((fX3_add N h 8 9 1432 7 179).bind fun z1 => ((fX0_setCode z1.2 7 a1 a2 ((10 * a3) + a4)).bind fun z2 => ((fX0_knotsOf N z2.2 7 a1).bind fun v3 => (some (v3, z2.2)))))))
def fX4_hang (N : Nat) (h : Hp) (a1 : Int32) (a2 : Int32) : Option Rs :=
  (if (fX0_hasCord h 7 a1) = 0 then (some ((-1), h)) else (if (fX0_hasGroup h 7 a2) = 0 then (some ((-1), h)) else (if (fX0_isPlainPendant h 7 a1) = 0 then (some ((-2), h)) else (if (fX0_groupOf h 7 a1) = a2 then (some ((-2), h)) else ((fX0_pendantsIn N h 7 (fX0_groupOf h 7 a1)).bind fun v1 => (if 1 < v1 then ((fX3_add N h 8 9 1432 7 179).bind fun z2 => ((fX0_moveBehind N z2.2 7 a1 a2).bind fun z3 => ((fX0_pendantsIn N z3.2 7 a2).bind fun v4 => (some (v4, z3.2))))) else (some ((-2), h))))))))
def fX4_lost_J131 (N : Nat) (h : Hp) (a1 : Int32) (k82 : Int32 → Int32 → Int32 → Option Int32) (u2 : Int32) (u3 : Int32) (u4 : Int32) (t0 : Int32) : Option Int32 :=
  (if t0 = 0 then (k82 u2 u3 (u4 + 1)) else (if u4 = a1 then (k82 u2 u3 (u4 + 1)) else ((fX0_valueOf N h 7 u4).bind fun v5 => (if v5 = (-4) then (some (-4)) else (k82 u2 (u3 - v5) (u4 + 1))))))
def fX4_lost_L82 (N : Nat) (h : Hp) (a1 : Int32) : Nat → Int32 → Int32 → Int32 → Option Int32
  | 0, _, _, _ => none
  | n + 1, u2, u3, u4 => (if u4 < (fX0_cords h 7) then ((fX0_pendantAbove N h 7 u4).bind fun v4 => (fX4_lost_J131 N h a1 (fX4_lost_L82 N h a1 n) u2 u3 u4 (if (fX0_isPlainPendant h 7 v4) = 0 then 0 else (if (fX0_groupOf h 7 u4) = u2 then 1 else 0)))) else (if u3 < 0 then (some (-4)) else (if 9999 < u3 then (some (-4)) else (some u3))))
def fX4_lost_J69 (N : Nat) (h : Hp) (a1 : Int32) (u2 : Int32) (t0 : Int32) : Option Int32 :=
  (if t0 = (-4) then (some (-4)) else (fX4_lost_L82 N h a1 N u2 t0 0))
def fX4_lost (N : Nat) (h : Hp) (a1 : Int32) : Option Int32 :=
  (if (fX0_hasCord h 7 a1) = 0 then (some (-1)) else (if (fX0_isPlainPendant h 7 a1) = 0 then (some (-2)) else ((fX0_topOf N h 7 (fX0_groupOf h 7 a1)).bind fun v1 => (if v1 = (-4) then (fX4_lost_J69 N h a1 (fX0_groupOf h 7 a1) (-4)) else ((fX0_topOf N h 7 (fX0_groupOf h 7 a1)).bind fun v2 => ((fX0_wholeOf N h 7 v2).bind fun v3 => (fX4_lost_J69 N h a1 (fX0_groupOf h 7 a1) v3)))))))
def fX4_share_J75 (N : Nat) (a1 : Int32) (a2 : Int32) (k36 : Int32 → Hp → Option Rs) (u3 : Int32) (h : Hp) : Option Rs :=
  ((fX0_valueOf N h 7 u3).bind fun v3 => (if v3 = (-4) then (some ((-4), h)) else ((fX2_add h u3 v3).bind fun z4 => (k36 (u3 + 1) z4.2))))
def fX4_share_L36 (N : Nat) (a1 : Int32) (a2 : Int32) : Nat → Int32 → Hp → Option Rs
  | 0, _, _ => none
  | n + 1, u3, h => (if u3 < (fX0_cords h 7) then (if (fX0_isPlainPendant h 7 u3) = 0 then (fX4_share_L36 N a1 a2 n (u3 + 1) h) else (if a1 = 5 then (fX4_share_J75 N a1 a2 (fX4_share_L36 N a1 a2 n) u3 h) else (if (fX0_groupOf h 7 u3) = a1 then (fX4_share_J75 N a1 a2 (fX4_share_L36 N a1 a2 n) u3 h) else (fX4_share_L36 N a1 a2 n (u3 + 1) h)))) else ((fX2_findEvenest N h).bind fun z2 => (if a2 = 0 then (some ((z2.2 12 7), z2.2)) else (some ((z2.2 12 8), z2.2)))))
def fX4_share_J16 (N : Nat) (a1 : Int32) (a2 : Int32) (h : Hp) : Option Rs :=
  (if a2 < 0 then (some ((-1), h)) else (if 1 < a2 then (some ((-1), h)) else ((fX2_clear h).bind fun z1 => (fX4_share_L36 N a1 a2 N 0 z1.2))))
def fX4_share (N : Nat) (h : Hp) (a1 : Int32) (a2 : Int32) : Option Rs :=
  (if a1 = 5 then (fX4_share_J16 N a1 a2 h) else (if (fX0_hasGroup h 7 a1) = 0 then (some ((-1), h)) else (fX4_share_J16 N a1 a2 h)))
def fX4_make_L22 (N : Nat) (a1 : Int32) : Nat → Int32 → Hp → Option Rs
  | 0, _, _ => none
  | n + 1, u2, h => (if u2 < (fX0_cords h 7) then (if (fX0_isPlainPendant h 7 u2) = 0 then (fX4_make_L22 N a1 n (u2 + 1) h) else ((fX0_valueOf N h 7 u2).bind fun v2 => (if v2 = (-4) then (fX4_make_L22 N a1 n (u2 + 1) h) else ((fX0_valueOf N h 7 u2).bind fun v3 => ((fX2_add h u2 v3).bind fun z4 => (fX4_make_L22 N a1 n (u2 + 1) z4.2)))))) else ((fX2_findFewest N h a1).bind fun z5 => (some ((z5.2 12 7), z5.2))))
def fX4_make (N : Nat) (h : Hp) (a1 : Int32) : Option Rs :=
  (if a1 < 0 then (some ((-1), h)) else (if 9999 < a1 then (some ((-1), h)) else ((fX2_clear h).bind fun z1 => (fX4_make_L22 N a1 N 0 z1.2))))
def fX4_colours_L26 (N : Nat) (h : Hp) (a1 : Int32) (a2 : Int32) : Nat → Int32 → Int32 → Int32 → Option Int32
  | 0, _, _, _ => none
  | n + 1, u3, u4, u5 => (if u5 < (fX0_cords h 7) then (if (fX0_colourOf h 7 u5) = a1 then ((fX0_told N h 7 u5).bind fun v1 => (fX4_colours_L26 N h a1 a2 n (u3 + v1) (u4 + 1) (u5 + 1))) else (fX4_colours_L26 N h a1 a2 n u3 u4 (u5 + 1))) else (if a2 = 0 then (some u3) else (some u4)))
def fX4_colours (N : Nat) (h : Hp) (a1 : Int32) (a2 : Int32) : Option Int32 :=
  (if (fX4_isColour h a1) = 0 then (some (-1)) else (if a2 < 0 then (some (-1)) else (if 1 < a2 then (some (-1)) else (fX4_colours_L26 N h a1 a2 N 0 0 0))))
def fX4_path_L21 (N : Nat) (h : Hp) (a1 : Int32) (a2 : Int32) : Nat → Int32 → Int32 → Option Int32
  | 0, _, _ => none
  | n + 1, u3, u4 => (if u4 < (fX0_cords h 7) then (if (fX0_holderOf h 7 u4) = (-4) then (fX4_path_L21 N h a1 a2 n u3 (u4 + 1)) else (if (fX0_colourOf h 7 (fX0_holderOf h 7 u4)) = a1 then (if (fX0_colourOf h 7 u4) = a2 then ((fX0_told N h 7 u4).bind fun v1 => (fX4_path_L21 N h a1 a2 n (u3 + v1) (u4 + 1))) else (fX4_path_L21 N h a1 a2 n u3 (u4 + 1))) else (fX4_path_L21 N h a1 a2 n u3 (u4 + 1)))) else (some u3))
def fX4_path (N : Nat) (h : Hp) (a1 : Int32) (a2 : Int32) : Option Int32 :=
  (if (fX4_isColour h a1) = 0 then (some (-1)) else (if (fX4_isColour h a2) = 0 then (some (-1)) else (fX4_path_L21 N h a1 a2 N 0 0)))
def fX4_same_J149 (N : Nat) (h : Hp) (a1 : Int32) (a2 : Int32) (u4 : Int32) : Option Int32 :=
  (if u4 = 0 then (some 0) else (some 1))
def fX4_same_L79 (N : Nat) (h : Hp) (a1 : Int32) (a2 : Int32) : Nat → Int32 → Int32 → Int32 → Int32 → Option Int32
  | 0, _, _, _, _ => none
  | n + 1, u3, u4, u5, u6 => (if u4 = 0 then (fX4_same_J149 N h a1 a2 u4) else (if u6 < u3 then ((fX0_looksLike N h 7 (a1 + u6) (a2 + u6)).bind fun v4 => (fX4_same_L79 N h a1 a2 n u3 (if v4 = 0 then 0 else (if ((fX0_depthOf h 7 (a2 + u6)) - (fX0_depthOf h 7 (a1 + u6))) = u5 then 1 else 0)) u5 (u6 + 1))) else (fX4_same_J149 N h a1 a2 u4)))
def fX4_same_J55 (N : Nat) (h : Hp) (a1 : Int32) (a2 : Int32) (u3 : Int32) (t0 : Int32) : Option Int32 :=
  ((some ((fX0_depthOf h 7 a2) - (fX0_depthOf h 7 a1))).bind fun v3 => (fX4_same_L79 N h a1 a2 N u3 t0 v3 0))
def fX4_same (N : Nat) (h : Hp) (a1 : Int32) (a2 : Int32) : Option Int32 :=
  (if (fX0_hasCord h 7 a1) = 0 then (some (-1)) else (if (fX0_hasCord h 7 a2) = 0 then (some (-1)) else (if a1 = a2 then (some (-1)) else ((fX0_cordsFrom N h 7 a1).bind fun v1 => ((fX0_cordsFrom N h 7 a2).bind fun v2 => (fX4_same_J55 N h a1 a2 v1 (if v1 = v2 then 1 else 0)))))))
def fX4_year_J68 (N : Nat) (h : Hp) (a1 : Int32) (a2 : Int32) (k30 : Int32 → Int32 → Int32 → Option Int32) (u3 : Int32) (u4 : Int32) (u5 : Int32) (t0 : Int32) : Option Int32 :=
  (if t0 = (-4) then (k30 u3 u4 (u5 + 1)) else ((some (if (fX0_mostOn h 7 u5) < (if (t0 + (fX4_drawn h a1 u5)) < 0 then 0 else (t0 + (fX4_drawn h a1 u5))) then (fX0_mostOn h 7 u5) else (if (t0 + (fX4_drawn h a1 u5)) < 0 then 0 else (t0 + (fX4_drawn h a1 u5))))).bind fun v2 => ((fX0_workToTell N h 7 u5 v2).bind fun v3 => (k30 (u3 + v3) (u4 + v2) (u5 + 1)))))
def fX4_year_L30 (N : Nat) (h : Hp) (a1 : Int32) (a2 : Int32) : Nat → Int32 → Int32 → Int32 → Option Int32
  | 0, _, _, _ => none
  | n + 1, u3, u4, u5 => (if u5 < (fX0_cords h 7) then (if (fX0_isPlainPendant h 7 u5) = 0 then (fX4_year_J68 N h a1 a2 (fX4_year_L30 N h a1 a2 n) u3 u4 u5 (-4)) else ((fX0_valueOf N h 7 u5).bind fun v1 => (fX4_year_J68 N h a1 a2 (fX4_year_L30 N h a1 a2 n) u3 u4 u5 v1))) else (if a2 = 0 then (some u3) else (some u4)))
def fX4_year (N : Nat) (h : Hp) (a1 : Int32) (a2 : Int32) : Option Int32 :=
  (if a1 < 0 then (some (-1)) else (if 9999 < a1 then (some (-1)) else (if a2 < 0 then (some (-1)) else (if 1 < a2 then (some (-1)) else (fX4_year_L30 N h a1 a2 N 0 0 0)))))
def fX4_count (N : Nat) (h : Hp) (a1 : Int32) : Option Int32 :=
  (if a1 = 0 then (some (fX0_cords h 7)) else (if a1 = 1 then (some (fX0_groups h 7)) else (if a1 = 2 then ((fX0_tops N h 7).bind fun v3 => (some v3)) else (if a1 = 3 then ((fX0_wellKnotted N h 7).bind fun v2 => (some v2)) else (if a1 = 4 then ((fX0_allKnots N h 7).bind fun v1 => (some v1)) else (if a1 = 5 then (some (h 8 2)) else (if a1 = 6 then (some (h 10 2)) else (if a1 = 7 then (some (h 0 1)) else (some (-1))))))))))
def fX5_fault_L29 (N : Nat) : Nat → Int32 → Hp → Option Rs
  | 0, _, _ => none
  | n + 1, u1, h => (if u1 < (h 22 6) then ((rdH h 26 200 u1).bind fun v3 => ((fX5_takes N h v3).bind fun z4 => (if z4.1 = 0 then (some (u1, z4.2)) else (fX5_fault_L29 N n (u1 + 1) z4.2)))) else (if (h 22 8) = 0 then (some ((-4), h)) else (some ((h 22 6), h))))
def fX5_fault_L2 (N : Nat) : Nat → Int32 → Hp → Option Rs
  | 0, _, _ => none
  | n + 1, u1, h => (if u1 < 162 then (if 0 ≤ (u1).toInt ∧ (u1).toInt < (162 : Nat) then ((some (hset h 27 (u1).toNatClampNeg 0)).bind fun g1 => (fX5_fault_L2 N n (u1 + 1) g1)) else none) else ((some (hset h 22 8 0)).bind fun g2 => (fX5_fault_L29 N N 0 g2)))
def fX5_fault (N : Nat) (h : Hp) : Option Rs :=
  (fX5_fault_L2 N N 0 h)
def fX5_whole (N : Nat) (h : Hp) (a1 : Int32) : Option Int32 :=
  ((fX5_value N h a1).bind fun v1 => (if v1 = (-4) then (some (-4)) else ((fX5_beneath N h a1).bind fun v2 => (if v2 = (-4) then (some (-4)) else ((fX5_value N h a1).bind fun v3 => ((fX5_beneath N h a1).bind fun v4 => (some (v3 + v4))))))))
def fX5_pendant (N : Nat) (h : Hp) (a1 : Int32) (a2 : Int32) : Option Int32 :=
  (if (fX5_isGroup h a1) = 0 then (some (-1)) else (if a2 < 0 then (some (-1)) else ((fX5_pendantAt N h a1 a2).bind fun v1 => (some v1))))
def fX5_hang_J109 (N : Nat) (a1 : Int32) (a2 : Int32) (k68 : Int32 → Int32 → Hp → Option Rs) (u4 : Int32) (t0 : Int32) (h : Hp) : Option Rs :=
  ((fX5_isUnder h u4 a1).bind fun v11 => (if v11 = 0 then ((rdH h 23 162 (114 + u4)).bind fun v12 => (if 0 ≤ ((114 + u4)).toInt ∧ ((114 + u4)).toInt < (162 : Nat) then ((some (hset h 23 ((114 + u4)).toNatClampNeg v12)).bind fun g13 => (k68 t0 (u4 + 1) g13)) else none)) else (if 0 ≤ ((114 + u4)).toInt ∧ ((114 + u4)).toInt < (162 : Nat) then ((some (hset h 23 ((114 + u4)).toNatClampNeg a2)).bind fun g14 => (k68 t0 (u4 + 1) g14)) else none)))
def fX5_hang_L68 (N : Nat) (a1 : Int32) (a2 : Int32) : Nat → Int32 → Int32 → Hp → Option Rs
  | 0, _, _, _ => none
  | n + 1, u3, u4, h => (if u4 < (h 23 0) then ((rdH h 23 162 (146 + u4)).bind fun v6 => (if u3 < v6 then ((rdH h 23 162 (146 + u4)).bind fun v7 => (fX5_hang_J109 N a1 a2 (fX5_hang_L68 N a1 a2 n) u4 v7 h)) else (fX5_hang_J109 N a1 a2 (fX5_hang_L68 N a1 a2 n) u4 u3 h))) else (if 0 ≤ ((114 + a1)).toInt ∧ ((114 + a1)).toInt < (162 : Nat) then ((some (hset h 23 ((114 + a1)).toNatClampNeg a2)).bind fun g8 => (if 0 ≤ ((146 + a1)).toInt ∧ ((146 + a1)).toInt < (162 : Nat) then ((some (hset g8 23 ((146 + a1)).toNatClampNeg (u3 + 1))).bind fun g9 => ((fX5_manyOf N g9 a2).bind fun v10 => (some (v10, g9)))) else none)) else none))
def fX5_hang (N : Nat) (h : Hp) (a1 : Int32) (a2 : Int32) : Option Rs :=
  (if (fX5_isCord h a1) = 0 then (some ((-1), h)) else (if (fX5_isGroup h a2) = 0 then (some ((-1), h)) else ((fX5_isPlain h a1).bind fun v1 => (if v1 = 0 then (some ((-2), h)) else ((rdH h 23 162 (114 + a1)).bind fun v2 => ((fX5_manyOf N h v2).bind fun v3 => (if v3 = 1 then (some ((-2), h)) else ((rdH h 23 162 (114 + a1)).bind fun v4 => (if v4 = a2 then (some ((-2), h)) else ((fX5_remember N h).bind fun z5 => (fX5_hang_L68 N a1 a2 N 0 0 z5.2)))))))))))
def fX5_order_L71 (N : Nat) (a1 : Int32) (k21 : Int32 → Int32 → Int32 → Hp → Option Rs) : Nat → Int32 → Int32 → Int32 → Int32 → Hp → Option Rs
  | 0, _, _, _, _, _ => none
  | n + 1, u2, u3, u4, u5, h => (if u5 < u4 then ((rdH h 32 16 u5).bind fun v7 => ((rdH h 32 16 u4).bind fun v8 => (if v8 < v7 then ((rdH h 33 16 u4).bind fun v9 => (if 0 ≤ (u4).toInt ∧ (u4).toInt < (16 : Nat) then ((some (hset h 33 (u4).toNatClampNeg v9)).bind fun g10 => (fX5_order_L71 N a1 k21 n u2 u3 u4 (u5 + 1) g10)) else none)) else ((rdH h 33 16 u5).bind fun v11 => ((rdH h 33 16 u4).bind fun v12 => (if v12 < (v11 + 1) then ((rdH h 33 16 u5).bind fun v13 => (if 0 ≤ (u4).toInt ∧ (u4).toInt < (16 : Nat) then ((some (hset h 33 (u4).toNatClampNeg (v13 + 1))).bind fun g14 => (fX5_order_L71 N a1 k21 n u2 u3 u4 (u5 + 1) g14)) else none)) else ((rdH h 33 16 u4).bind fun v15 => (if 0 ≤ (u4).toInt ∧ (u4).toInt < (16 : Nat) then ((some (hset h 33 (u4).toNatClampNeg v15)).bind fun g16 => (fX5_order_L71 N a1 k21 n u2 u3 u4 (u5 + 1) g16)) else none)))))))) else ((rdH h 33 16 u4).bind fun v17 => (if u3 < v17 then ((rdH h 33 16 u4).bind fun v18 => (k21 u2 v18 (u4 + 1) h)) else (k21 u2 u3 (u4 + 1) h))))
def fX5_order_L21 (N : Nat) (a1 : Int32) : Nat → Int32 → Int32 → Int32 → Hp → Option Rs
  | 0, _, _, _, _ => none
  | n + 1, u2, u3, u4, h => (if u4 < u2 then ((fX5_pendantAt N h a1 u4).bind fun v2 => ((fX5_value N h v2).bind fun v3 => (if 0 ≤ (u4).toInt ∧ (u4).toInt < (16 : Nat) then ((some (hset h 32 (u4).toNatClampNeg v3)).bind fun g4 => ((rdH g4 32 16 u4).bind fun v5 => (if v5 = (-4) then (some ((-4), g4)) else (if 0 ≤ (u4).toInt ∧ (u4).toInt < (16 : Nat) then ((some (hset g4 33 (u4).toNatClampNeg 1)).bind fun g6 => (fX5_order_L71 N a1 (fX5_order_L21 N a1 n) N u2 u3 u4 0 g6)) else none)))) else none))) else (some ((u2 - u3), h)))
def fX5_order (N : Nat) (h : Hp) (a1 : Int32) : Option Rs :=
  (if (fX5_isGroup h a1) = 0 then (some ((-1), h)) else ((fX5_manyOf N h a1).bind fun v1 => (fX5_order_L21 N a1 N v1 0 0 h)))
def fX5_share_J142 (N : Nat) (a1 : Int32) (a2 : Int32) (k97 : Int32 → Int32 → Int32 → Int32 → Int32 → Hp → Option Rs) (u3 : Int32) (u4 : Int32) (u6 : Int32) (u7 : Int32) (u8 : Int32) (t0 : Int32) (h : Hp) : Option Rs :=
  (k97 u3 u4 t0 (if u8 < u6 then u8 else u6) (u7 + 1) h)
def fX5_share_L97 (N : Nat) (a1 : Int32) (a2 : Int32) : Nat → Int32 → Int32 → Int32 → Int32 → Int32 → Hp → Option Rs
  | 0, _, _, _, _, _, _ => none
  | n + 1, u3, u4, u5, u6, u7, h => (if u3 < u7 then (if a2 = 0 then (some (u5, h)) else (some (u6, h))) else (if (u7 &&& (u3 ^^^ (-1))) = 0 then ((fX5_tellOf N h u7).bind fun v6 => ((some (fX5_plain h (u4 - (2 * v6)))).bind fun v7 => (fX5_share_J142 N a1 a2 (fX5_share_L97 N a1 a2 n) u3 u4 u6 u7 v7 (if v7 < u6 then u7 else u5) h))) else (fX5_share_L97 N a1 a2 n u3 u4 u5 u6 (u7 + 1) h)))
def fX5_share_L31 (N : Nat) (a1 : Int32) (a2 : Int32) : Nat → Int32 → Int32 → Hp → Option Rs
  | 0, _, _, _ => none
  | n + 1, u3, u4, h => (if u4 < (h 23 0) then ((fX5_isOf h u4 a1).bind fun v2 => (if v2 = 0 then (fX5_share_L31 N a1 a2 n u3 (u4 + 1) h) else ((rdH h 32 16 u4).bind fun v3 => (if v3 = (-4) then (some ((-4), h)) else ((some (u3 ||| (1 <<< (u4 &&& 31)))).bind fun v4 => (fX5_share_L31 N a1 a2 n v4 (u4 + 1) h)))))) else ((fX5_tellOf N h u3).bind fun v5 => (fX5_share_L97 N a1 a2 N u3 v5 0 1000000 0 h)))
def fX5_share_J13 (N : Nat) (a1 : Int32) (a2 : Int32) (h : Hp) : Option Rs :=
  (if (fX5_isTwo h a2) = 0 then (some ((-1), h)) else ((fX5_layValues N h).bind fun z1 => (fX5_share_L31 N a1 a2 N 0 0 z1.2)))
def fX5_share (N : Nat) (h : Hp) (a1 : Int32) (a2 : Int32) : Option Rs :=
  (if (fX5_isGroup h a1) = 0 then (if a1 = 5 then (fX5_share_J13 N a1 a2 h) else (some ((-1), h))) else (fX5_share_J13 N a1 a2 h))
def fX5_make_J111 (N : Nat) (a1 : Int32) (k73 : Int32 → Int32 → Int32 → Hp → Option Rs) (u2 : Int32) (u3 : Int32) (u4 : Int32) (t0 : Int32) (h : Hp) : Option Rs :=
  (if t0 = 0 then (k73 u2 u3 (u4 + 1) h) else ((fX5_tellOf N h u4).bind fun v7 => (k73 u2 (if v7 = a1 then u4 else u3) (u4 + 1) h)))
def fX5_make_L73 (N : Nat) (a1 : Int32) : Nat → Int32 → Int32 → Int32 → Hp → Option Rs
  | 0, _, _, _, _ => none
  | n + 1, u2, u3, u4, h => (if u2 < u4 then (some (u3, h)) else (if (u4 &&& (u2 ^^^ (-1))) = 0 then (if u3 = (-4) then (fX5_make_J111 N a1 (fX5_make_L73 N a1 n) u2 u3 u4 1 h) else ((fX5_bits N h u4).bind fun v5 => ((fX5_bits N h u3).bind fun v6 => (fX5_make_J111 N a1 (fX5_make_L73 N a1 n) u2 u3 u4 (if v5 < v6 then 1 else 0) h)))) else (fX5_make_J111 N a1 (fX5_make_L73 N a1 n) u2 u3 u4 0 h)))
def fX5_make_L22 (N : Nat) (a1 : Int32) : Nat → Int32 → Int32 → Hp → Option Rs
  | 0, _, _, _ => none
  | n + 1, u2, u3, h => (if u3 < (h 23 0) then ((fX5_isPlain h u3).bind fun v2 => (if v2 = 0 then (fX5_make_L22 N a1 n (u2 ||| 0) (u3 + 1) h) else ((rdH h 32 16 u3).bind fun v3 => (if v3 = (-4) then (fX5_make_L22 N a1 n (u2 ||| 0) (u3 + 1) h) else ((some (u2 ||| (1 <<< (u3 &&& 31)))).bind fun v4 => (fX5_make_L22 N a1 n v4 (u3 + 1) h)))))) else (fX5_make_L73 N a1 N u2 (-4) 0 h))
def fX5_make (N : Nat) (h : Hp) (a1 : Int32) : Option Rs :=
  (if (fX5_in h (a1).toInt64 0 9999) = 0 then (some ((-1), h)) else ((fX5_layValues N h).bind fun z1 => (fX5_make_L22 N a1 N 0 0 z1.2)))
def fX0_sumOf_L4 (N : Nat) (h : Hp) (r : Nat) (a1 : Int32) : Nat → Int32 → Int32 → Option Int32
  | 0, _, _ => none
  | n + 1, u2, u3 => (if u3 < (fX0_cords h r) then (if (fX0_isPlainPendant h r u3) = 0 then (fX0_sumOf_L4 N h r a1 n u2 (u3 + 1)) else (if (fX0_groupOf h r u3) = a1 then ((fX0_wholeOf N h r u3).bind fun v1 => (if v1 = (-4) then (some (-4)) else (fX0_sumOf_L4 N h r a1 n (u2 + v1) (u3 + 1)))) else (fX0_sumOf_L4 N h r a1 n u2 (u3 + 1)))) else (some u2))
def fX0_sumOf (N : Nat) (h : Hp) (r : Nat) (a1 : Int32) : Option Int32 :=
  (fX0_sumOf_L4 N h r a1 N 0 0)
def fX1_read_J53 (N : Nat) (q1 n1 : Nat) (a2 : Int32) (h : Hp) : Option Rs :=
  (if (h 2 2) = 0 then (some ((-4), h)) else (some (a2, h)))
def fX1_read_L24 (N : Nat) (q1 n1 : Nat) (a2 : Int32) : Nat → Int32 → Hp → Option Rs
  | 0, _, _ => none
  | n + 1, u3, h => (if u3 < a2 then (if u3 < (Int32.ofNat n1) then ((rdH h q1 n1 u3).bind fun v5 => ((fX1_takes N h v5).bind fun z6 => (if z6.1 = 0 then (some (u3, z6.2)) else (fX1_read_L24 N q1 n1 a2 n (u3 + 1) z6.2)))) else (fX1_read_J53 N q1 n1 a2 h)) else (fX1_read_J53 N q1 n1 a2 h))
def fX1_read (N : Nat) (h : Hp) (q1 n1 : Nat) (a2 : Int32) : Option Rs :=
  ((fX0_clear N h 4).bind fun z1 => ((some (hset z1.2 2 2 0)).bind fun g2 => ((some (hset g2 2 3 0)).bind fun g3 => ((some (hset g3 2 4 0)).bind fun g4 => (fX1_read_L24 N q1 n1 a2 N 0 g4)))))
def fX5_lay (N : Nat) (h : Hp) : Option Rs :=
  ((fX5_fault N h).bind fun z1 => (if z1.1 = (-4) then (if (z1.2 22 6) = 0 then (some ((-2), z1.2)) else ((fX5_begins N z1.2).bind fun z2 => (some ((z2.2 23 0), z2.2)))) else (some ((-2), z1.2))))
def fX5_cord (N : Nat) (h : Hp) (a1 : Int32) (a2 : Int32) : Option Int32 :=
  (if (fX5_isCord h a1) = 0 then (some (-1)) else (if a2 = 0 then ((rdH h 23 162 (2 + a1)).bind fun v12 => (some v12)) else (if a2 = 1 then ((rdH h 23 162 (18 + a1)).bind fun v11 => (some v11)) else (if a2 = 2 then ((fX5_isPendant h a1).bind fun v9 => (if v9 = 0 then ((rdH h 23 162 (98 + a1)).bind fun v10 => (some v10)) else (some (-4)))) else (if a2 = 3 then ((rdH h 23 162 (114 + a1)).bind fun v8 => (some v8)) else (if a2 = 4 then ((fX5_depthOf h a1).bind fun v7 => (some v7)) else (if a2 = 5 then ((fX5_hanging N h a1).bind fun v6 => (some v6)) else (if a2 = 6 then ((rdH h 23 162 (130 + a1)).bind fun v5 => (some v5)) else (if a2 = 7 then ((fX5_value N h a1).bind fun v4 => (some v4)) else (if a2 = 8 then ((fX5_whole N h a1).bind fun v3 => (some v3)) else (if a2 = 9 then ((fX5_told N h a1 1).bind fun v2 => (some v2)) else (if a2 = 10 then ((fX5_knots_ N h a1).bind fun v1 => (some v1)) else (some (-1))))))))))))))
def fX5_sumOf_L4 (N : Nat) (h : Hp) (a1 : Int32) : Nat → Int32 → Int32 → Option Int32
  | 0, _, _ => none
  | n + 1, u2, u3 => (if u3 < (h 23 0) then ((fX5_isOf h u3 a1).bind fun v1 => (if v1 = 0 then (fX5_sumOf_L4 N h a1 n u2 (u3 + 1)) else ((fX5_whole N h u3).bind fun v2 => (if v2 = (-4) then (some (-4)) else ((fX5_whole N h u3).bind fun v3 => (fX5_sumOf_L4 N h a1 n (u2 + v3) (u3 + 1))))))) else (some u2))
def fX5_sumOf (N : Nat) (h : Hp) (a1 : Int32) : Option Int32 :=
  (fX5_sumOf_L4 N h a1 N 0 0)
def fX5_lost_L82 (N : Nat) (h : Hp) (a1 : Int32) : Nat → Int32 → Int32 → Int32 → Option Int32
  | 0, _, _, _ => none
  | n + 1, u2, u4, u5 => (if u5 < (h 23 0) then (if u5 = a1 then (fX5_lost_L82 N h a1 n u2 u4 (u5 + 1)) else ((fX5_isOf h u5 u2).bind fun v8 => (if v8 = 0 then (fX5_lost_L82 N h a1 n u2 u4 (u5 + 1)) else ((fX5_whole N h u5).bind fun v9 => (if v9 = (-4) then (some (-4)) else ((fX5_whole N h u5).bind fun v10 => (fX5_lost_L82 N h a1 n u2 (u4 - v10) (u5 + 1)))))))) else (if (fX5_in h (u4).toInt64 0 9999) = 0 then (some (-4)) else (some u4)))
def fX5_lost (N : Nat) (h : Hp) (a1 : Int32) : Option Int32 :=
  (if (fX5_isCord h a1) = 0 then (some (-1)) else ((fX5_isPlain h a1).bind fun v1 => (if v1 = 0 then (some (-2)) else ((rdH h 23 162 (114 + a1)).bind fun v2 => ((fX5_topOf N h v2).bind fun v3 => (if v3 = (-4) then (some (-4)) else ((fX5_whole N h v3).bind fun v4 => (if v4 = (-4) then (some (-4)) else ((fX5_beneath N h a1).bind fun v5 => (if v5 = (-4) then (some (-4)) else ((fX5_whole N h v3).bind fun v6 => ((fX5_beneath N h a1).bind fun v7 => (fX5_lost_L82 N h a1 N v2 (v6 - v7) 0)))))))))))))
def fX0_canBeCompared (N : Nat) (h : Hp) (r : Nat) (a1 : Int32) : Option Int32 :=
  ((fX0_topOf N h r a1).bind fun v1 => (if v1 = (-4) then (some 0) else ((fX0_wholeOf N h r v1).bind fun v2 => (if v2 = (-4) then (some 0) else ((fX0_sumOf N h r a1).bind fun v3 => (if v3 = (-4) then (some 0) else (some 1)))))))
def fX0_excessOf (N : Nat) (h : Hp) (r : Nat) (a1 : Int32) : Option Int32 :=
  ((fX0_sumOf N h r a1).bind fun v1 => ((fX0_topOf N h r a1).bind fun v2 => ((fX0_wholeOf N h r v2).bind fun v3 => (some (v1 - v3)))))
def fX4_fault (N : Nat) (h : Hp) : Option Rs :=
  ((fX1_read N h 1 200 (h 0 1)).bind fun z1 => (some (z1.1, z1.2)))
def fX4_lay (N : Nat) (h : Hp) : Option Rs :=
  (if (h 0 1) = 0 then (some ((-2), h)) else ((fX1_read N h 1 200 (h 0 1)).bind fun z1 => (if z1.1 = (-4) then ((fX0_becomeAs z1.2 7 4 179).bind fun z2 => ((fX3_clear z2.2 8 9 1432).bind fun z3 => ((fX3_clear z3.2 10 11 358).bind fun z4 => (some ((fX0_cords z4.2 7), z4.2))))) else (some ((-2), z1.2)))))
def fX4_group (N : Nat) (h : Hp) (a1 : Int32) (a2 : Int32) : Option Int32 :=
  (if (fX0_hasGroup h 7 a1) = 0 then (some (-1)) else (if a2 = 0 then ((fX0_pendantsIn N h 7 a1).bind fun v5 => (some v5)) else (if a2 = 1 then ((fX0_topOf N h 7 a1).bind fun v4 => (some v4)) else (if a2 = 2 then ((fX0_sumOf N h 7 a1).bind fun v3 => (some v3)) else (if a2 = 3 then ((fX0_canBeCompared N h 7 a1).bind fun v1 => (if v1 = 0 then (some 0) else ((fX0_excessOf N h 7 a1).bind fun v2 => (if v2 = 0 then (some 1) else (some 0))))) else (some (-1)))))))
def fX4_wrong (N : Nat) (h : Hp) (a1 : Int32) : Option Int32 :=
  (if (fX0_hasGroup h 7 a1) = 0 then (some (-1)) else ((fX0_canBeCompared N h 7 a1).bind fun v1 => (if v1 = 0 then (some (-4)) else ((fX0_excessOf N h 7 a1).bind fun v2 => (some (v2 + 100000))))))
def fX4_slip_J109 (N : Nat) (h : Hp) (a1 : Int32) (a2 : Int32) (k52 : Int32 → Int32 → Int32 → Int32 → Option Int32) (k67 : Int32 → Int32 → Int32 → Int32 → Int32 → Option Int32) (u3 : Int32) (u4 : Int32) (u5 : Int32) (u6 : Int32) (u7 : Int32) (t0 : Int32) : Option Int32 :=
  (if t0 = (-4) then (k67 u3 u4 u5 u6 (u7 + 1)) else (if u4 = (-4) then ((some (((100 * u6) + (10 * u7)) + t0)).bind fun v4 => (k67 (u3 + 1) v4 u5 u6 (u7 + 1))) else (k67 (u3 + 1) u4 u5 u6 (u7 + 1))))
def fX4_slip_L67 (N : Nat) (h : Hp) (a1 : Int32) (a2 : Int32) (k52 : Int32 → Int32 → Int32 → Int32 → Option Int32) : Nat → Int32 → Int32 → Int32 → Int32 → Int32 → Option Int32
  | 0, _, _, _, _, _ => none
  | n + 1, u3, u4, u5, u6, u7 => (if u7 < (fX0_sizeOf h 7 u6) then (if (fX0_isIn h 7 u6 a1) = 0 then (fX4_slip_J109 N h a1 a2 k52 (fX4_slip_L67 N h a1 a2 k52 n) u3 u4 u5 u6 u7 (-4)) else ((fX4_slipAt N h u6 u7 u5).bind fun v3 => (fX4_slip_J109 N h a1 a2 k52 (fX4_slip_L67 N h a1 a2 k52 n) u3 u4 u5 u6 u7 v3))) else (k52 u3 u4 u5 (u6 + 1)))
def fX4_slip_J161 (N : Nat) (h : Hp) (a1 : Int32) (a2 : Int32) (u3 : Int32) (u4 : Int32) : Option Int32 :=
  (if a2 = 0 then (some u3) else (some u4))
def fX4_slip_L52 (N : Nat) (h : Hp) (a1 : Int32) (a2 : Int32) : Nat → Int32 → Int32 → Int32 → Int32 → Option Int32
  | 0, _, _, _, _ => none
  | n + 1, u3, u4, u5, u6 => (if u6 < (fX0_cords h 7) then (fX4_slip_L67 N h a1 a2 (fX4_slip_L52 N h a1 a2 n) N u3 u4 u5 u6 0) else (fX4_slip_J161 N h a1 a2 u3 u4))
def fX4_slip (N : Nat) (h : Hp) (a1 : Int32) (a2 : Int32) : Option Int32 :=
  (if (fX0_hasGroup h 7 a1) = 0 then (some (-1)) else (if a2 < 0 then (some (-1)) else (if 1 < a2 then (some (-1)) else ((fX0_canBeCompared N h 7 a1).bind fun v1 => (if v1 = 0 then (fX4_slip_J161 N h a1 a2 0 (-4)) else ((fX0_excessOf N h 7 a1).bind fun v2 => (fX4_slip_L52 N h a1 a2 N 0 (-4) v2 0)))))))
def fX4_leastMoves_L60 (N : Nat) (h : Hp) (q0 n0 : Nat) (q1 n1 : Nat) (kr : Int32 → Int32 → Option Int32) (a2 : Int32) (a3 : Int32) : Nat → Int32 → Int32 → Int32 → Option Int32
  | 0, _, _, _ => none
  | n + 1, u5, u6, u7 => (if u5 < u7 then (some u6) else ((kr (a2 + 1) ((a3 - u7) / 10)).bind fun v3 => ((some (v3 + (if 0 ≤ u7 then u7 else 0 - u7))).bind fun v4 => (fX4_leastMoves_L60 N h q0 n0 q1 n1 kr a2 a3 n u5 (if v3 = (-4) then u6 else (if u6 = (-4) then v4 else (if v4 < u6 then v4 else u6))) (u7 + 10)))))
def fX4_leastMoves (N : Nat) (h : Hp) (q0 n0 : Nat) (q1 n1 : Nat) (kr : Int32 → Int32 → Option Int32) (a2 : Int32) (a3 : Int32) : Option Int32 :=
  (if a2 < 3 then ((fJ9_floorMod_7cf53 h (a3 - (-(atF h q1 n1 a2))) 10).bind fun v1 => ((some ((-(atF h q1 n1 a2)) + v1)).bind fun v2 => (fX4_leastMoves_L60 N h q0 n0 q1 n1 kr a2 a3 N (atF h q0 n0 a2) (-4) v2))) else (if a3 < (-(atF h q1 n1 a2)) then (some (-4)) else (if (atF h q0 n0 a2) < a3 then (some (-4)) else (some (if 0 ≤ a3 then a3 else 0 - a3)))))
def lmR (N : Nat) (h : Hp) (q0 n0 q1 n1 : Nat) : Nat → Int32 → Int32 → Option Int32
  | 0, _, _ => none
  | M + 1, u, v => fX4_leastMoves N h q0 n0 q1 n1 (lmR N h q0 n0 q1 n1 M) u v
def fX5_wrongBy (N : Nat) (h : Hp) (a1 : Int32) : Option Int32 :=
  ((fX5_topOf N h a1).bind fun v1 => (if v1 = (-4) then (some (-4)) else ((fX5_whole N h v1).bind fun v2 => (if v2 = (-4) then (some (-4)) else ((fX5_sumOf N h a1).bind fun v3 => (if v3 = (-4) then (some (-4)) else ((fX5_sumOf N h a1).bind fun v4 => ((fX5_whole N h v1).bind fun v5 => (some ((v4 - v5) + 100000))))))))))
def fX4_mend (N : Nat) (h : Hp) (a1 : Int32) : Option Rs :=
  (if (fX0_hasGroup h 7 a1) = 0 then (some ((-1), h)) else ((fX0_canBeCompared N h 7 a1).bind fun v1 => (if v1 = 0 then (some ((-4), h)) else ((fX4_measureRoom N h a1).bind fun z2 => ((fX0_excessOf N z2.2 7 a1).bind fun v3 => ((lmR N z2.2 18 4 19 4 5 0 (-v3)).bind fun v4 => (some (v4, z2.2))))))))
def fX5_group (N : Nat) (h : Hp) (a1 : Int32) (a2 : Int32) : Option Int32 :=
  (if (fX5_isGroup h a1) = 0 then (some (-1)) else (if a2 = 0 then ((fX5_manyOf N h a1).bind fun v4 => (some v4)) else (if a2 = 1 then ((fX5_topOf N h a1).bind fun v3 => (some v3)) else (if a2 = 2 then ((fX5_sumOf N h a1).bind fun v2 => (some v2)) else (if a2 = 3 then ((fX5_wrongBy N h a1).bind fun v1 => (if v1 = 100000 then (some 1) else (some 0))) else (some (-1)))))))
def fX5_wrong (N : Nat) (h : Hp) (a1 : Int32) : Option Int32 :=
  (if (fX5_isGroup h a1) = 0 then (some (-1)) else ((fX5_wrongBy N h a1).bind fun v1 => (some v1)))
def fX5_mend_L195 (N : Nat) (a1 : Int32) (k48 : Int32 → Int32 → Int32 → Hp → Option Rs) (k78 : Int32 → Int32 → Int32 → Int32 → Int32 → Hp → Option Rs) : Nat → Int32 → Int32 → Int32 → Int32 → Int32 → Int32 → Int32 → Int32 → Hp → Option Rs
  | 0, _, _, _, _, _, _, _, _, _ => none
  | n + 1, u3, u4, u5, u6, u7, u8, u10, u11, h => (if u10 < u11 then (k78 u3 u4 u5 u6 (u7 + 1) h) else ((some ((((fX5_plain h u5) + (fX5_plain h u7)) + (fX5_plain h u11)) + (fX5_plain h (u8 - (10 * u11))))).bind fun v5 => (fX5_mend_L195 N a1 k48 k78 n u3 (if (fX5_in h ((u8 - (10 * u11))).toInt64 ((-(h 30 0))).toInt64 ((h 29 0)).toInt64) = 0 then u4 else (if v5 < u4 then v5 else u4)) u5 u6 u7 u8 u10 (u11 + 1) h)))
def fX5_mend_J165 (N : Nat) (a1 : Int32) (k48 : Int32 → Int32 → Int32 → Hp → Option Rs) (k78 : Int32 → Int32 → Int32 → Int32 → Int32 → Hp → Option Rs) (u3 : Int32) (u4 : Int32) (u5 : Int32) (u6 : Int32) (u7 : Int32) (u8 : Int32) (u10 : Int32) (t0 : Int32) (h : Hp) : Option Rs :=
  (fX5_mend_L195 N a1 k48 k78 N u3 u4 u5 u6 u7 u8 (if (h 29 1) < u10 then (h 29 1) else u10) t0 h)
def fX5_mend_L78 (N : Nat) (a1 : Int32) (k48 : Int32 → Int32 → Int32 → Hp → Option Rs) : Nat → Int32 → Int32 → Int32 → Int32 → Int32 → Hp → Option Rs
  | 0, _, _, _, _, _, _ => none
  | n + 1, u3, u4, u5, u6, u7, h => (if (h 29 2) < u7 then (k48 u3 u4 (u5 + 1) h) else (if (fX5_plain h u5) < u4 then ((some ((((u6 - (100 * u7)) - (h 29 0)) / 10) - 1)).bind fun v3 => ((some ((((u6 - (100 * u7)) + (h 30 0)) / 10) + 1)).bind fun v4 => (fX5_mend_J165 N a1 k48 (fX5_mend_L78 N a1 k48 n) u3 u4 u5 u6 u7 (u6 - (100 * u7)) v4 (if v3 < (-(h 30 1)) then (-(h 30 1)) else v3) h))) else (k48 u3 u4 (u5 + 1) h)))
def fX5_mend_L48 (N : Nat) (a1 : Int32) : Nat → Int32 → Int32 → Int32 → Hp → Option Rs
  | 0, _, _, _, _ => none
  | n + 1, u3, u4, u5, h => (if (h 29 3) < u5 then (if u4 = 1000000 then (some ((-4), h)) else (some (u4, h))) else (fX5_mend_L78 N a1 (fX5_mend_L48 N a1 n) N u3 u4 u5 (u3 - (1000 * u5)) (-(h 30 2)) h))
def fX5_mend (N : Nat) (h : Hp) (a1 : Int32) : Option Rs :=
  (if (fX5_isGroup h a1) = 0 then (some ((-1), h)) else ((fX5_wrongBy N h a1).bind fun v1 => (if v1 = (-4) then (some ((-4), h)) else ((fX5_layRoom N h a1).bind fun z2 => (fX5_mend_L48 N a1 N (100000 - v1) 1000000 (-(z2.2 30 3)) z2.2)))))
def fX5_slip_J214 (N : Nat) (h : Hp) (a1 : Int32) (a2 : Int32) (u4 : Int32) (u5 : Int32) : Option Int32 :=
  (if a2 = 0 then (some u4) else (some u5))
def fX5_slip_J171 (N : Nat) (h : Hp) (a1 : Int32) (a2 : Int32) (k40 : Int32 → Int32 → Int32 → Int32 → Option Int32) (k101 : Int32 → Int32 → Int32 → Int32 → Int32 → Int32 → Option Int32) (k125 : Int32 → Int32 → Int32 → Int32 → Int32 → Int32 → Int32 → Option Int32) (u3 : Int32) (u4 : Int32) (u5 : Int32) (u6 : Int32) (u7 : Int32) (u8 : Int32) (u9 : Int32) (t0 : Int32) (t1 : Int32) : Option Int32 :=
  (if (t1 + t0) = 100000 then ((some (((100 * u6) + (10 * u8)) + u9)).bind fun v9 => (k125 u3 (u4 + 1) v9 u6 u7 u8 (u9 + (-1)))) else (k125 u3 u4 u5 u6 u7 u8 (u9 + (-1))))
def fX5_slip_L125 (N : Nat) (h : Hp) (a1 : Int32) (a2 : Int32) (k40 : Int32 → Int32 → Int32 → Int32 → Option Int32) (k101 : Int32 → Int32 → Int32 → Int32 → Int32 → Int32 → Option Int32) : Nat → Int32 → Int32 → Int32 → Int32 → Int32 → Int32 → Int32 → Option Int32
  | 0, _, _, _, _, _, _, _ => none
  | n + 1, u3, u4, u5, u6, u7, u8, u9 => (if u9 < 0 then (k101 u3 u4 u5 u6 u7 (u8 + (-1))) else ((fX5_knot0 h u6 u8).bind fun v6 => ((fX5_power N h u8).bind fun v7 => ((some ((u9 - (v6 - v6 / 10 * 10)) * v7)).bind fun v8 => (if v8 = 0 then (fX5_slip_L125 N h a1 a2 k40 k101 n u3 u4 u5 u6 u7 u8 (u9 + (-1))) else (fX5_slip_J171 N h a1 a2 k40 k101 (fX5_slip_L125 N h a1 a2 k40 k101 n) u3 u4 u5 u6 u7 u8 u9 (if u7 = 0 then v8 else (-v8)) u3))))))
def fX5_slip_L101 (N : Nat) (h : Hp) (a1 : Int32) (a2 : Int32) (k40 : Int32 → Int32 → Int32 → Int32 → Option Int32) : Nat → Int32 → Int32 → Int32 → Int32 → Int32 → Int32 → Option Int32
  | 0, _, _, _, _, _, _ => none
  | n + 1, u3, u4, u5, u6, u7, u8 => (if u8 < 0 then (k40 u3 u4 u5 (u6 + (-1))) else (if u7 = 0 then ((fX5_isOf h u6 a1).bind fun v5 => (if v5 = 0 then (k40 u3 u4 u5 (u6 + (-1))) else (fX5_slip_L125 N h a1 a2 k40 (fX5_slip_L101 N h a1 a2 k40 n) N u3 u4 u5 u6 u7 u8 9))) else (fX5_slip_L125 N h a1 a2 k40 (fX5_slip_L101 N h a1 a2 k40 n) N u3 u4 u5 u6 u7 u8 9)))
def fX5_slip_J85 (N : Nat) (h : Hp) (a1 : Int32) (a2 : Int32) (k40 : Int32 → Int32 → Int32 → Int32 → Option Int32) (u3 : Int32) (u4 : Int32) (u5 : Int32) (u6 : Int32) (t0 : Int32) : Option Int32 :=
  ((rdH h 23 162 (18 + u6)).bind fun v4 => (fX5_slip_L101 N h a1 a2 k40 N u3 u4 u5 u6 t0 (v4 - 1)))
def fX5_slip_L40 (N : Nat) (h : Hp) (a1 : Int32) (a2 : Int32) : Nat → Int32 → Int32 → Int32 → Int32 → Option Int32
  | 0, _, _, _, _ => none
  | n + 1, u3, u4, u5, u6 => (if u6 < 0 then (fX5_slip_J214 N h a1 a2 u4 u5) else (if u3 = (-4) then (fX5_slip_J214 N h a1 a2 u4 u5) else ((rdH h 23 162 (130 + u6)).bind fun v2 => (if v2 = 1 then ((rdH h 23 162 (114 + u6)).bind fun v3 => (fX5_slip_J85 N h a1 a2 (fX5_slip_L40 N h a1 a2 n) u3 u4 u5 u6 (if v3 = a1 then 1 else 0))) else (fX5_slip_J85 N h a1 a2 (fX5_slip_L40 N h a1 a2 n) u3 u4 u5 u6 0)))))
def fX5_slip (N : Nat) (h : Hp) (a1 : Int32) (a2 : Int32) : Option Int32 :=
  (if (fX5_isGroup h a1) = 0 then (some (-1)) else (if (fX5_isTwo h a2) = 0 then (some (-1)) else ((fX5_wrongBy N h a1).bind fun v1 => (fX5_slip_L40 N h a1 a2 N v1 0 (-4) ((h 23 0) - 1)))))
