/-! the text: write, wipe -/
theorem RR_frame {k : Nat} {h h' : Hp} (hR : RR k h) (hT : TX h') (hD : DY h') (e7 : h' 7 = h 7) (e8 : h' 8 2 = h 8 2) (e9 : h' 9 = h 9) (e10 : h' 10 2 = h 10 2) (e11 : h' 11 = h 11) (e23 : h' 23 = h 23) (e24 : h' 24 = h 24) (e25 : h' 25 = h 25) (u2 : h' 22 2 = h 22 2) (u4 : h' 22 4 = h 22 4) : RR k h' := by
  obtain ⟨-, -, h3, ⟨u, a1, a2, a3, a4⟩, ⟨v, b1, b2, b3, b4⟩⟩ := hR
  refine ⟨hT, hD, by rw [e7, e23]; exact h3, ⟨u, a1, e8.trans a2, u2.trans a3, ?_⟩, ⟨v, b1, e10.trans b2, u4.trans b3, ?_⟩⟩
  · rw [e9, e24]; exact a4
  · rw [e11, e25]; exact b4
theorem DY_frame {h h' : Hp} (hD : DY h) (e8 : h' 8 0 = h 8 0) (e10 : h' 10 0 = h 10 0) (e3 : h' 12 3 = h 12 3) (e4 : h' 12 4 = h 12 4) : DY h' := by
  unfold DY at hD ⊢
  rw [e8, e10, e3, e4]
  exact hD
theorem st_wipe (N : Nat) : SF_wipe N RR := by
  intro k h hk hR
  obtain ⟨⟨m, hm, l1, l2, l3⟩, hD, -⟩ := id hR
  refine ⟨nI m, hset h 0 1 0, hset (hset h 0 1 0) 22 6 0, by unfold fX4_wipe; rw [Option.bind_some, l1], ?_, ?_⟩
  · unfold fX5_wipe
    rw [Option.bind_some, hset_o (show (22 : Nat) ≠ 0 by decide), l2]
  · have o : ∀ q, q ≠ 0 → q ≠ 22 → hset (hset h 0 1 0) 22 6 0 q = h q := fun q h1 h2 => by rw [hset_o h2, hset_o h1]
    have p : ∀ i, i ≠ 6 → hset (hset h 0 1 0) 22 6 0 22 i = h 22 i := fun i hi => by rw [hset_so hi, hset_o (show (22 : Nat) ≠ 0 by decide)]
    refine RR_mono k _ (RR_frame hR ⟨0, by omega, ?_, hset_ss, fun i hi => absurd hi (Nat.not_lt_zero i)⟩ (DY_frame hD ?_ ?_ ?_ ?_) (o 7 (by decide) (by decide)) ?_ (o 9 (by decide) (by decide)) ?_ (o 11 (by decide) (by decide)) (o 23 (by decide) (by decide)) (o 24 (by decide) (by decide)) (o 25 (by decide) (by decide)) (p 2 (by decide)) (p 4 (by decide)))
    · rw [hset_o (show (0 : Nat) ≠ 22 by decide), hset_ss]; rfl
    all_goals rw [o _ (by decide) (by decide)]
theorem char_dec : ∀ v, v < 127 → vp_nar .char ((nI v).toUInt32 % 65536).toInt32 = nI v := by decide +kernel
theorem st_write (N : Nat) : SF_write N RR := by
  intro k h hk hR a1
  obtain ⟨⟨m, hm, l1, l2, l3⟩, hD, -⟩ := id hR
  have e0 : (32 : Int64).toInt = 32 := rfl
  have e9 : (126 : Int64).toInt = 126 := rfl
  have f0 : (32 : Int32).toInt = 32 := rfl
  have f9 : (126 : Int32).toInt = 126 := rfl
  unfold fX4_write fX5_write
  by_cases h1 : a1 < 32
  · exact ⟨-1, h, h, by rw [if_pos h1], by rw [in_no h (by rw [Int32.toInt_toInt64, e0]; rw [Int32.lt_iff_toInt_lt] at h1; omega), if_pos rfl], RR_mono k h hR⟩
  by_cases h2 : 126 < a1
  · exact ⟨-1, h, h, by rw [if_neg h1, if_pos h2], by rw [in_no h (by rw [Int32.toInt_toInt64, e9]; rw [Int32.lt_iff_toInt_lt] at h2; omega), if_pos rfl], RR_mono k h hR⟩
  have g1 : ¬ a1.toInt < 32 := fun q => h1 (by rw [Int32.lt_iff_toInt_lt]; omega)
  have g2 : ¬ 126 < a1.toInt := fun q => h2 (by rw [Int32.lt_iff_toInt_lt]; omega)
  have hin : ∀ h' : Hp, fX5_in h' a1.toInt64 32 126 = 1 := fun h' => in_yes h' (by rw [Int32.toInt_toInt64, e0]; omega) (by rw [Int32.toInt_toInt64, e9]; omega)
  obtain ⟨c, hc, rfl⟩ : ∃ c, c < 127 ∧ a1 = nI c := ⟨a1.toInt.toNat, by omega, by
    apply Int32.toInt_inj.mp
    rw [nI_toInt (by omega)]
    omega⟩
  rw [if_neg h1, if_neg h2, l1, if_neg (nI_pos (by omega))]
  by_cases hf : m = 200
  · subst hf
    exact ⟨-3, h, h, by rw [if_neg (show ¬ nI 200 < (200 : Int32) by decide)], by rw [hin, if_neg n10, l2, if_pos (show nI 200 = (200 : Int32) from rfl)], RR_mono k h hR⟩
  have hlt : m < 200 := by omega
  have hcl : (nI m).toNatClampNeg = m := nI_clamp (by omega)
  have hrg : 0 ≤ (nI m).toInt ∧ (nI m).toInt < (200 : Nat) := by rw [nI_toInt (by omega)]; omega
  obtain ⟨ha, hae⟩ : ∃ ha : Hp, ha = hset (hset h 1 m (nI c)) 0 1 (nI (m + 1)) := ⟨_, rfl⟩
  obtain ⟨hb, hbe⟩ : ∃ hb : Hp, hb = hset (hset ha 26 m (nI c)) 22 6 (nI (m + 1)) := ⟨_, rfl⟩
  refine ⟨nI (m + 1), ha, hb, ?_, ?_, ?_⟩
  · rw [if_pos (show nI m < (200 : Int32) from nI_lt (b := 200) hlt (by omega)), if_pos hrg, hcl, char_dec c hc, Option.bind_some, Option.bind_some, hset_o (show (0 : Nat) ≠ 1 by decide), l1, nI_1, hset_ss, hae]
  · have l2a : ha 22 6 = nI m := by rw [hae, hset_o (show (22 : Nat) ≠ 0 by decide), hset_o (show (22 : Nat) ≠ 1 by decide), l2]
    rw [hin, if_neg n10, l2a, if_neg (show ¬ nI m = (200 : Int32) from ne_lit (b := 200) (by omega) (by omega) hf), if_pos hrg, hcl, Option.bind_some, Option.bind_some, hset_o (show (22 : Nat) ≠ 26 by decide), l2a, nI_1, hset_ss, hbe]
  · have o : ∀ q, q ≠ 0 → q ≠ 1 → q ≠ 22 → q ≠ 26 → hb q = h q := fun q h0 h1 h2 h3 => by rw [hbe, hset_o h2, hset_o h3, hae, hset_o h0, hset_o h1]
    have p : ∀ i, i ≠ 6 → hb 22 i = h 22 i := fun i hi => by rw [hbe, hset_so hi, hset_o (show (22 : Nat) ≠ 26 by decide), hae, hset_o (show (22 : Nat) ≠ 0 by decide), hset_o (show (22 : Nat) ≠ 1 by decide)]
    have q1 : hb 1 = upd (h 1) m (nI c) := by rw [hbe, hset_o (show (1 : Nat) ≠ 22 by decide), hset_o (show (1 : Nat) ≠ 26 by decide), hae, hset_o (show (1 : Nat) ≠ 0 by decide), hset_s]
    have q26 : hb 26 = upd (h 26) m (nI c) := by rw [hbe, hset_o (show (26 : Nat) ≠ 22 by decide), hset_s, hae, hset_o (show (26 : Nat) ≠ 0 by decide), hset_o (show (26 : Nat) ≠ 1 by decide)]
    refine RR_mono k _ (RR_frame hR ⟨m + 1, by omega, ?_, by rw [hbe, hset_ss], fun i hi => ?_⟩ (DY_frame hD ?_ ?_ ?_ ?_) (o 7 (by decide) (by decide) (by decide) (by decide)) ?_ (o 9 (by decide) (by decide) (by decide) (by decide)) ?_ (o 11 (by decide) (by decide) (by decide) (by decide)) (o 23 (by decide) (by decide) (by decide) (by decide)) (o 24 (by decide) (by decide) (by decide) (by decide)) (o 25 (by decide) (by decide) (by decide) (by decide)) (p 2 (by decide)) (p 4 (by decide)))
    · rw [hbe, hset_o (show (0 : Nat) ≠ 22 by decide), hset_o (show (0 : Nat) ≠ 26 by decide), hae, hset_ss]
    · rw [q1, q26]
      by_cases hi2 : i = m
      · subst hi2; rw [pk_us, pk_us]
      · rw [pk_un hi2, pk_un hi2]; exact l3 i (by omega)
    all_goals rw [o _ (by decide) (by decide) (by decide) (by decide)]
