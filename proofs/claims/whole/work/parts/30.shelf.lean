/-! what is laid aside: a row counts by its first 179 numbers, a bundle of the reference by its first 162 -/
theorem L_nodup {k : Nat} {V : Vw} (hW : Wf k V) : (vL V).Nodup := List.Pairwise.imp (fun h e => by rw [e] at h; exact Nat.lt_irrefl _ h) hW.2.2.1
theorem L_perm {k : Nat} {V : Vw} (hW : Wf k V) : (vL V).Perm ((List.range (vN V)).filter (isPl V)) := by
  refine (List.perm_ext_iff_of_nodup (L_nodup hW) (List.nodup_range.filter _)).mpr (fun c => ?_)
  rw [hW.2.2.2.1 c, List.mem_filter, List.mem_range]
  unfold isPl
  cases vPar V c <;> cases vTop V c <;> simp
theorem L_len {k : Nat} {V : Vw} (hW : Wf k V) : (vL V).length ≤ 16 := by
  have h1 := (L_perm hW).length_eq
  have h2 := List.length_filter_le (isPl V) (List.range (vN V))
  rw [List.length_range] at h2
  have := hW.n
  omega
theorem RowV_congr {k : Nat} {row row' : Nat → Int32} {V : Vw} (hW : Wf k V) (e : ∀ i, i < 179 → row' i = row i) (h : RowV row V) : RowV row' V := by
  have hn := hW.n
  have hl := L_len hW
  obtain ⟨a1, a2, a3, a4, a5⟩ := h
  refine ⟨by rw [e _ (by omega)]; exact a1, by rw [e _ (by omega)]; exact a2, by rw [e _ (by omega)]; exact a3, fun i hi => by rw [e _ (by omega)]; exact a4 i hi, fun c hc => ?_⟩
  have hs := hW.siz hc
  obtain ⟨b1, b2, b3, b4, b5, b6, b7⟩ := a5 c hc
  exact ⟨by rw [e _ (by omega)]; exact b1, by rw [e _ (by omega)]; exact b2, by rw [e _ (by omega)]; exact b3, by rw [e _ (by omega)]; exact b4, by rw [e _ (by omega)]; exact b5, by rw [e _ (by omega)]; exact b6, fun j hj => by rw [e _ (by omega)]; exact b7 j hj⟩
theorem ModV_congr {k : Nat} {a a' : Nat → Int32} {V : Vw} (hW : Wf k V) (e : ∀ i, i < 162 → a' i = a i) (h : ModV a V) : ModV a' V := by
  have hn := hW.n
  obtain ⟨a1, a2, a5⟩ := h
  refine ⟨by rw [e _ (by omega)]; exact a1, by rw [e _ (by omega)]; exact a2, fun c hc => ?_⟩
  have hs := hW.siz hc
  obtain ⟨b1, b2, b3, b4, b5, b6, b7⟩ := a5 c hc
  exact ⟨by rw [e _ (by omega)]; exact b1, by rw [e _ (by omega)]; exact b2, by rw [e _ (by omega)]; exact b3, by rw [e _ (by omega)]; exact b4, by rw [e _ (by omega)]; exact b5, by rw [e _ (by omega)]; exact b6, fun j hj => by rw [e _ (by omega)]; exact b7 j hj⟩
theorem BR_congr {k : Nat} {row row' a a' : Nat → Int32} (e : ∀ i, i < 179 → row' i = row i) (f : ∀ i, i < 162 → a' i = a i) (h : BR k row a) : BR k row' a' := by
  obtain ⟨V, hW, h1, h2⟩ := h
  exact ⟨V, hW, RowV_congr hW e h1, ModV_congr hW f h2⟩
theorem takeInto_eq (h : Hp) {sh sl nl q1 n1 u : Nat} (hu : 0 < u) (hu2 : u ≤ 8) (e : h sh 2 = nI u) (hn : nl < 2 ^ 30) (hn1 : n1 < 2 ^ 30) (hl : u * 179 ≤ nl) (h1 : 179 ≤ n1) : fX3_takeInto h sh sl nl q1 n1 = some (0, hcpy (hset h sh 2 (nI (u - 1))) sl q1 ((u - 1) * 179) 0 179) := by
  unfold fX3_takeInto
  have e1 : nI u - 1 = nI (u - 1) := by rw [show (1 : Int32) = nI 1 from rfl, pk_sub (by omega)]
  have e2 : nI (u - 1) * 179 = nI ((u - 1) * 179) := by rw [show (179 : Int32) = nI 179 from rfl, pk_mul]
  rw [e, if_pos (show (0 : Int32) < nI u from nI_lt (a := 0) hu (by omega)), e1, Option.bind_some, hset_ss, e2, show (0 : Int32) = nI 0 from rfl, copyRow_eq _ hn hn1 (by omega) (by omega)]
  rfl
