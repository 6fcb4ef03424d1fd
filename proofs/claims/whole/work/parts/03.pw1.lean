/-! the words that all methods stand on; the abstract heap; worlds out of it -/
def TBL : List Cond := lw_tbl.filter goodWord
theorem tbl_in {w : Cond} (h : w ∈ lw_tbl) (hg : goodWord w = true) : w ∈ TBL := List.mem_filter.mpr ⟨h, hg⟩
theorem tbl_lw {w : Cond} (h : w ∈ TBL) : w ∈ lw_tbl := (List.mem_filter.mp h).1
theorem tbl_good {w : Cond} (h : w ∈ TBL) : (w.onTables && w.keeps) = true ∨ ∃ ty, w = .arrayClass ty := good_of_word (List.mem_filter.mp h).2
theorem tbl_goodIn {ws : List Cond} (h : ∀ w ∈ ws, w ∈ TBL) : GoodIn TBL ws := fun w hw => ⟨h w hw, tbl_good (h w hw)⟩
abbrev Hp : Type := Nat → Nat → Int32
abbrev Rs : Type := Int32 × Hp
abbrev Ly : Type := List (Nat × Nat × List Nat)
abbrev Wd : Type := va_G × (Nat → Nat) × Ly × (ClassId × ClassId) × Nat
def hset (h : Hp) (q i : Nat) (v : Int32) : Hp := fun p => if p = q then upd (h p) i v else h p
def hcpy (h : Hp) (a b : Nat) (sp dp n : Nat) : Hp := fun p => if p = b then va_cpy (h a) (h b) sp dp n else h p
def fv (w : Wd) (h : Hp) (q j k : Nat) : Value := if k = 0 then .int (h q j) else if k = 1 then .ref (w.2.1 (h q j).toNatClampNeg) else .ref (w.2.1 (k - 2))
def fvs (w : Wd) (h : Hp) (q : Nat) : Nat → List Nat → List Value
  | _, [] => []
  | j, k :: ks => fv w h q j k :: fvs w h q (j + 1) ks
theorem fvs_get (w : Wd) (h : Hp) (q : Nat) : ∀ (ks : List Nat) (j i : Nat), (fvs w h q j ks)[i]? = (ks[i]?).map (fun k => fv w h q (j + i) k)
  | [], j, i => by simp [fvs]
  | k :: ks, j, 0 => by simp [fvs]
  | k :: ks, j, i + 1 => by
    have := fvs_get w h q ks (j + 1) i
    simp only [fvs, List.getElem?_cons_succ, this]
    congr 1
    funext k
    rw [show j + 1 + i = j + (i + 1) by omega]
theorem fvs_len (w : Wd) (h : Hp) (q : Nat) : ∀ (ks : List Nat) (j : Nat), (fvs w h q j ks).length = ks.length
  | [], j => rfl
  | k :: ks, j => by simp [fvs, fvs_len w h q ks (j + 1)]
def pcell (w : Wd) (h : Hp) (q : Nat) (e : Nat × Nat × List Nat) : Nat × va_E := (w.2.1 q, if e.1 = 0 then .inr (e.2.1, fvs w h q 0 e.2.2) else .inl ((if e.1 = 1 then w.2.2.2.1.1 else w.2.2.2.1.2), e.2.1, .inl (h q)))
def clsA (w : Wd) (h : Hp) : Nat → Ly → va_W
  | _, [] => []
  | q, e :: es => pcell w h q e :: clsA w h (q + 1) es
def cls (w : Wd) (h : Hp) : va_W := clsA w h 0 w.2.2.1
theorem clsA_get (w : Wd) (h : Hp) : ∀ (es : Ly) (q i : Nat), (clsA w h q es)[i]? = (es[i]?).map (fun e => pcell w h (q + i) e)
  | [], q, i => by simp [clsA]
  | e :: es, q, 0 => by simp [clsA]
  | e :: es, q, i + 1 => by
    have := clsA_get w h es (q + 1) i
    simp only [clsA, List.getElem?_cons_succ, this]
    congr 1
    funext k
    rw [show q + 1 + i = q + (i + 1) by omega]
theorem cls_get (w : Wd) (h : Hp) (i : Nat) : (cls w h)[i]? = (w.2.2.1[i]?).map (fun e => pcell w h i e) := by
  have := clsA_get w h w.2.2.1 0 i
  simpa [cls] using this
theorem pcell_congr {w : Wd} {h h' : Hp} {q : Nat} (e : Nat × Nat × List Nat) (hh : h q = h' q) : pcell w h q e = pcell w h' q e := by
  have hf : ∀ (ks : List Nat) (j : Nat), fvs w h q j ks = fvs w h' q j ks := by
    intro ks
    induction ks with
    | nil => intro j; rfl
    | cons k ks ih => intro j; simp only [fvs, ih]; simp only [fv, hh]
  simp only [pcell, hf, hh]
theorem cls_set {w : Wd} {h h' : Hp} {q : Nat} {e : Nat × Nat × List Nat} (he : w.2.2.1[q]? = some e) (ho : ∀ p, p ≠ q → h' p = h p) : (cls w h).set q (pcell w h' q e) = cls w h' := by
  apply List.ext_getElem?
  intro i
  rw [List.getElem?_set, cls_get, cls_get]
  by_cases hi : q = i
  · subst hi
    have hlt : q < (cls w h).length := by
      have : (cls w h)[q]? ≠ none := by rw [cls_get, he]; simp
      exact (List.getElem?_eq_some_iff.mp (Option.ne_none_iff_exists'.mp this).choose_spec).1
    simp [hlt, he]
  · rw [if_neg hi]
    cases hq : w.2.2.1[i]? with
    | none => rfl
    | some e' => simp only [Option.map]; rw [pcell_congr e' (ho i (fun z => hi z.symm))]
theorem hset_o {h : Hp} {q i : Nat} {v : Int32} {p : Nat} (hp : p ≠ q) : hset h q i v p = h p := by simp [hset, hp]
theorem hset_s {h : Hp} {q i : Nat} {v : Int32} : hset h q i v q = upd (h q) i v := by simp [hset]
theorem hcpy_o {h : Hp} {a b s d n p : Nat} (hp : p ≠ b) : hcpy h a b s d n p = h p := by simp [hcpy, hp]
theorem cls_D {w : Wd} {A : Nat → Prop} {h h' : Hp} (hD : va_D A (cls w h)) : va_D A (cls w h') := by
  have key : ∀ (i : Nat) (p : Nat × va_E), (cls w h')[i]? = some p → ∃ p', (cls w h)[i]? = some p' ∧ p'.1 = p.1 := by
    intro i p hp
    rw [cls_get] at hp
    cases he : w.2.2.1[i]? with
    | none => rw [he] at hp; cases hp
    | some e => rw [he] at hp; cases hp; exact ⟨pcell w h i e, by rw [cls_get, he]; rfl, rfl⟩
  constructor
  · intro i j p q hp hq hpq
    obtain ⟨p', a1, a2⟩ := key i p hp
    obtain ⟨q', b1, b2⟩ := key j q hq
    exact hD.1 i j p' q' a1 b1 (by rw [a2, b2, hpq])
  · intro k q hq
    obtain ⟨p', a1, a2⟩ := key k q hq
    rw [← a2]; exact hD.2 k p' a1
theorem cls_o {w : Wd} {h : Hp} {q ci : Nat} {ks : List Nat} (he : w.2.2.1[q]? = some (0, ci, ks)) : (cls w h)[q]? = some (w.2.1 q, .inr (ci, fvs w h q 0 ks)) := by
  rw [cls_get, he]; rfl
theorem cls_i {w : Wd} {h : Hp} {q n : Nat} (he : w.2.2.1[q]? = some (1, n, [])) : (cls w h)[q]? = some (w.2.1 q, .inl (w.2.2.2.1.1, n, .inl (h q))) := by
  rw [cls_get, he]; rfl
theorem cls_c {w : Wd} {h : Hp} {q n : Nat} (he : w.2.2.1[q]? = some (2, n, [])) : (cls w h)[q]? = some (w.2.1 q, .inl (w.2.2.2.1.2, n, .inl (h q))) := by
  rw [cls_get, he]; rfl
theorem cls_seti {w : Wd} {h : Hp} {q n i : Nat} {v : Int32} (he : w.2.2.1[q]? = some (1, n, [])) : (cls w h).set q (w.2.1 q, .inl (w.2.2.2.1.1, n, .inl (upd (h q) i v))) = cls w (hset h q i v) := by
  rw [← cls_set he (h' := hset h q i v) (fun p hp => hset_o hp)]
  simp [pcell, hset_s]
theorem cls_setc {w : Wd} {h : Hp} {q n i : Nat} {v : Int32} (he : w.2.2.1[q]? = some (2, n, [])) : (cls w h).set q (w.2.1 q, .inl (w.2.2.2.1.2, n, .inl (upd (h q) i v))) = cls w (hset h q i v) := by
  rw [← cls_set he (h' := hset h q i v) (fun p hp => hset_o hp)]
  simp [pcell, hset_s]
theorem cls_setcp {w : Wd} {h : Hp} {q a n sp dp m : Nat} (he : w.2.2.1[q]? = some (1, n, [])) : (cls w h).set q (w.2.1 q, .inl (w.2.2.2.1.1, n, .inl (va_cpy (h a) (h q) sp dp m))) = cls w (hcpy h a q sp dp m) := by
  rw [← cls_set he (h' := hcpy h a q sp dp m) (fun p hp => hcpy_o hp)]
  simp [pcell, hcpy]
theorem fv_o {w : Wd} {h h' : Hp} {q j : Nat} (hh : h' q j = h q j) (k : Nat) : fv w h' q j k = fv w h q j k := by
  unfold fv
  rw [hh]
theorem hset_ss {h : Hp} {q k : Nat} {x : Int32} : hset h q k x q k = x := by rw [hset_s]; exact pk_us
theorem hset_so {h : Hp} {q k i : Nat} {x : Int32} (hi : i ≠ k) : hset h q k x q i = h q i := by rw [hset_s]; exact pk_un hi
theorem fvs_setE {w : Wd} {h : Hp} {q k kd : Nat} {ks : List Nat} {v : Value} {h2 : Hp} (hk : ks[k]? = some kd) (hv : fv w h2 q k kd = v) (ho : ∀ i, i ≠ k → h2 q i = h q i) (i : Nat) : (fvs w h2 q 0 ks)[i]? = ((fvs w h q 0 ks).set k v)[i]? := by
  rw [List.getElem?_set, fvs_get, fvs_get, Nat.zero_add]
  by_cases hi : k = i
  · subst hi
    have hlt : k < (fvs w h q 0 ks).length := by rw [fvs_len]; exact (List.getElem?_eq_some_iff.mp hk).1
    rw [if_pos rfl, if_pos hlt, hk, Option.map_some, hv]
  · rw [if_neg hi]
    cases hq : ks[i]? with
    | none => rw [Option.map_none, Option.map_none]
    | some e' => rw [Option.map_some, Option.map_some, fv_o (ho i (fun z => hi z.symm)) e']
theorem fvs_set {w : Wd} {h : Hp} {q k kd : Nat} {ks : List Nat} {v : Value} {x : Int32} (hk : ks[k]? = some kd) (hv : fv w (hset h q k x) q k kd = v) : fvs w (hset h q k x) q 0 ks = (fvs w h q 0 ks).set k v :=
  List.ext_getElem? (fvs_setE hk hv (fun _ hi => hset_so hi))
theorem cls_seto {w : Wd} {h : Hp} {q ci k kd : Nat} {ks : List Nat} {v : Value} {x : Int32} (he : w.2.2.1[q]? = some (0, ci, ks)) (hk : ks[k]? = some kd) (hv : fv w (hset h q k x) q k kd = v) : (cls w h).set q (w.2.1 q, .inr (ci, (fvs w h q 0 ks).set k v)) = cls w (hset h q k x) := by
  have e := cls_set he (h := h) (h' := hset h q k x) (fun p hp => hset_o hp)
  have e2 : pcell w (hset h q k x) q (0, ci, ks) = (w.2.1 q, .inr (ci, (fvs w h q 0 ks).set k v)) := by
    rw [← fvs_set hk hv]
    rfl
  rw [e2] at e
  exact e
/-! locals -/
def asc : Nat → List (Option Value) → List (Nat × Value)
  | _, [] => []
  | i, none :: l => asc (i + 1) l
  | i, some v :: l => (i, v) :: asc (i + 1) l
theorem asc_mem : ∀ (l : List (Option Value)) (j : Nat) (q : Nat × Value), q ∈ asc j l ↔ j ≤ q.1 ∧ l[q.1 - j]? = some (some q.2)
  | [], j, q => by simp [asc]
  | none :: l, j, q => by
    rw [asc, asc_mem l (j + 1) q]
    by_cases h : j ≤ q.1
    · by_cases h2 : j + 1 ≤ q.1
      · rw [show q.1 - j = (q.1 - (j + 1)) + 1 by omega, List.getElem?_cons_succ]
        simp [h, h2]
      · rw [show q.1 - j = 0 by omega]
        simp [h2]
    · have : ¬ j + 1 ≤ q.1 := by omega
      simp [h, this]
  | some v :: l, j, q => by
    rw [asc, List.mem_cons, asc_mem l (j + 1) q]
    by_cases h : j ≤ q.1
    · by_cases h2 : j + 1 ≤ q.1
      · rw [show q.1 - j = (q.1 - (j + 1)) + 1 by omega, List.getElem?_cons_succ]
        have hne : q ≠ (j, v) := fun e => by rw [e] at h2; simp at h2; omega
        simp [h, h2, hne]
      · have h3 : q.1 = j := by omega
        rw [show q.1 - j = 0 by omega]
        obtain ⟨a, b⟩ := q
        simp at h3
        subst h3
        simp only [List.getElem?_cons_zero, Prod.mk.injEq, true_and, Option.some.injEq, Nat.le_refl]
        constructor
        · rintro (e | ⟨e, -⟩)
          · exact e.symm
          · omega
        · intro e; exact Or.inl e.symm
    · have h1 : ¬ j + 1 ≤ q.1 := by omega
      have hne : q ≠ (j, v) := fun e => by rw [e] at h; simp at h
      simp [h, h1, hne]
theorem asc_at {ls : Array Slot} {nL i : Nat} {lv : List (Option Value)} {v : Value} (h : lv_has ls nL (asc 0 lv)) (hi : lv[i]? = some (some v)) : ls[i]? = some (.val v) :=
  h.2.2 (i, v) ((asc_mem lv 0 (i, v)).mpr ⟨Nat.zero_le _, by simpa using hi⟩)
def okst (lv : List (Option Value)) (i : Nat) : Bool := match i with
  | 0 => true
  | k + 1 => match lv[k]? with
    | some (some (.long _)) => false
    | some (some (.double _)) => false
    | _ => true
theorem okst_cat {lv : List (Option Value)} {i : Nat} (h : okst lv i = true) {q : Nat × Value} (hq : lv[q.1]? = some (some q.2)) (hi : q.1 + 1 = i) : ¬ q.2.category = 2 := by
  subst hi
  simp only [okst, hq] at h
  intro hc
  obtain ⟨a, v⟩ := q
  cases v <;> simp_all [Value.category]
theorem has_mono {ls : Array Slot} {nL : Nat} {l l' : List (Nat × Value)} (h : lv_has ls nL l) (hs : ∀ q ∈ l', q ∈ l) : lv_has ls nL l' := ⟨h.1, h.2.1, fun q hq => h.2.2 q (hs q hq)⟩
theorem asc_set1 {ls' : Array Slot} {nL i : Nat} {lv : List (Option Value)} {v : Value} (hok : okst lv i = true) (h : lv_has ls' nL ((i, v) :: (asc 0 lv).filter (fun q => !(q.1 == i) && !(q.1 + 1 == i && q.2.category == 2)))) : lv_has ls' nL (asc 0 (lv.set i (some v))) := by
  refine has_mono h (fun q hq => ?_)
  obtain ⟨-, h2⟩ := (asc_mem _ 0 q).mp hq
  simp only [Nat.sub_zero, List.getElem?_set] at h2
  by_cases hi : i = q.1
  · rw [if_pos hi] at h2
    split at h2
    · injection h2 with h2; injection h2 with h2
      obtain ⟨a, b⟩ := q
      simp at hi h2
      subst hi; subst h2
      exact List.mem_cons_self
    · cases h2
  · rw [if_neg hi] at h2
    refine List.mem_cons_of_mem _ (List.mem_filter.mpr ⟨(asc_mem lv 0 q).mpr ⟨Nat.zero_le _, by simpa using h2⟩, ?_⟩)
    have h3 : ¬ q.1 = i := fun e => hi e.symm
    by_cases h4 : q.1 + 1 = i
    · have := okst_cat hok h2 h4
      simp [h3, this]
    · simp [h3, h4]
theorem asc_set2 {ls' : Array Slot} {nL i : Nat} {lv : List (Option Value)} {v : Value} (hok : okst lv i = true) (h : lv_has ls' nL ((i, v) :: (asc 0 lv).filter (fun q => !(q.1 == i) && (!(q.1 == i + 1) && !(q.1 + 1 == i && q.2.category == 2))))) : lv_has ls' nL (asc 0 ((lv.set i (some v)).set (i + 1) none)) := by
  refine has_mono h (fun q hq => ?_)
  obtain ⟨-, h2⟩ := (asc_mem _ 0 q).mp hq
  simp only [Nat.sub_zero, List.getElem?_set] at h2
  by_cases h0 : i + 1 = q.1
  · rw [if_pos h0] at h2
    split at h2
    · injection h2 with h2; cases h2
    · cases h2
  rw [if_neg h0] at h2
  by_cases hi : i = q.1
  · rw [if_pos hi] at h2
    split at h2
    · injection h2 with h2; injection h2 with h2
      obtain ⟨a, b⟩ := q
      simp at hi h2
      subst hi; subst h2
      exact List.mem_cons_self
    · cases h2
  · rw [if_neg hi] at h2
    refine List.mem_cons_of_mem _ (List.mem_filter.mpr ⟨(asc_mem lv 0 q).mpr ⟨Nat.zero_le _, by simpa using h2⟩, ?_⟩)
    have h3 : ¬ q.1 = i := fun e => hi e.symm
    have h5 : ¬ q.1 = i + 1 := fun e => h0 e.symm
    by_cases h4 : q.1 + 1 = i
    · have := okst_cat hok h2 h4
      simp [h3, h5, this]
    · simp [h3, h4, h5]
/-! nest mates' words: they are carried, not kept -/
def nestM : List (String × Nat × MethodName × String) := [("ToldInKnots", 15, ⟨"ToldInKnots$Reader", "<init>", "()V"⟩, "ToldInKnots"), ("ToldInKnots$Reader", 11, ⟨"ToldInKnots$Bundle", "<init>", "()V"⟩, "ToldInKnots"), ("ToldInKnots", 22, ⟨"ToldInKnots$Bundle", "<init>", "()V"⟩, "ToldInKnots"), ("ToldInKnots", 41, ⟨"ToldInKnots$Sets", "<init>", "()V"⟩, "ToldInKnots"), ("ToldInKnots$Bundle", 25, ⟨"ToldInKnots", "at", "([II)I"⟩, "ToldInKnots"), ("ToldInKnots$Bundle", 44, ⟨"ToldInKnots", "put", "([III)V"⟩, "ToldInKnots"), ("ToldInKnots$Reader", 67, ⟨"ToldInKnots", "isColour", "(I)Z"⟩, "ToldInKnots"), ("ToldInKnots$Reader", 74, ⟨"ToldInKnots", "put", "([III)V"⟩, "ToldInKnots"), ("ToldInKnots$Reader", 78, ⟨"ToldInKnots", "at", "([II)I"⟩, "ToldInKnots"), ("ToldInKnots$Reader", 90, ⟨"ToldInKnots", "canCount", "(II)Z"⟩, "ToldInKnots"), ("ToldInKnots$Bundle", 15, ⟨"ToldInKnots", "copyRow", "([II[II)V"⟩, "ToldInKnots"), ("ToldInKnots$Bundle", 52, ⟨"ToldInKnots", "isWellPlaced", "(II)Z"⟩, "ToldInKnots"), ("ToldInKnots$Bundle", 56, ⟨"ToldInKnots", "countOf", "(I)I"⟩, "ToldInKnots"), ("ToldInKnots$Bundle", 59, ⟨"ToldInKnots", "tens", "(I)I"⟩, "ToldInKnots"), ("ToldInKnots$Bundle", 70, ⟨"ToldInKnots", "knotsIn", "(I)I"⟩, "ToldInKnots"), ("ToldInKnots$Bundle", 73, ⟨"ToldInKnots", "codeToTell", "(II)I"⟩, "ToldInKnots"), ("ToldInKnots$Shelf", 28, ⟨"ToldInKnots", "copyRow", "([II[II)V"⟩, "ToldInKnots"), ("ToldInKnots$Sets", 31, ⟨"ToldInKnots", "put", "([III)V"⟩, "ToldInKnots"), ("ToldInKnots$Sets", 43, ⟨"ToldInKnots", "at", "([II)I"⟩, "ToldInKnots")]
def NW (U : State) : Prop := ∀ q ∈ nestM, va_Nw (.methodLinkNest q.1 q.2.1 q.2.2.1 q.2.2.2) U
theorem NW.warm {s U : State} (hW : s.WarmedH U.vm) (h : NW s) : NW U := fun q hq => va_Nw.warmM hW (h q hq)
theorem NW.same {s U : State} (hv : s.vm = U.vm) (h : NW s) : NW U := fun q hq => va_Nw.same rfl hv (h q hq)
def nestF : List (String × Nat × String × String × String × String) := [("ToldInKnots", 78, "ToldInKnots$Bundle", "row", "[I", "ToldInKnots"), ("ToldInKnots", 75, "ToldInKnots$Reader", "draft", "LToldInKnots$Bundle;", "ToldInKnots"), ("ToldInKnots", 193, "ToldInKnots$Shelf", "used", "I", "ToldInKnots"), ("ToldInKnots", 248, "ToldInKnots$Sets", "found", "I", "ToldInKnots"), ("ToldInKnots", 251, "ToldInKnots$Sets", "unlike", "I", "ToldInKnots")]
def NF (U : State) : Prop := ∀ q ∈ nestF, va_Nw (.fieldLinkNest q.1 q.2.1 q.2.2.1 q.2.2.2.1 q.2.2.2.2.1 q.2.2.2.2.2) U
theorem NF.warm {s U : State} (hW : s.WarmedH U.vm) (h : NF s) : NF U := fun q hq => va_Nw.warmF hW (h q hq)
theorem NF.same {s U : State} (hv : s.vm = U.vm) (h : NF s) : NF U := fun q hq => va_Nw.same rfl hv (h q hq)
/-! the context of a walk -/
abbrev Cz : Type := Program × Launch × Env × Room × State × MethodId × Array Value × List Frame × Method × Code × (Nat → Prop) × Nat × Nat × Nat × (Rs → State → Prop)
abbrev xp (x : Cz) : Program := x.1
abbrev xl (x : Cz) : Launch := x.2.1
abbrev xe (x : Cz) : Env := x.2.2.1
abbrev xR (x : Cz) : Room := x.2.2.2.1
abbrev xs (x : Cz) : State := x.2.2.2.2.1
abbrev xm (x : Cz) : MethodId := x.2.2.2.2.2.1
abbrev xa (x : Cz) : Array Value := x.2.2.2.2.2.2.1
abbrev xb (x : Cz) : List Frame := x.2.2.2.2.2.2.2.1
abbrev xk (x : Cz) : Method := x.2.2.2.2.2.2.2.2.1
abbrev xc (x : Cz) : Code := x.2.2.2.2.2.2.2.2.2.1
abbrev xA (x : Cz) : Nat → Prop := x.2.2.2.2.2.2.2.2.2.2.1
abbrev xN (x : Cz) : Nat := x.2.2.2.2.2.2.2.2.2.2.2.1
abbrev xu (x : Cz) : Nat := x.2.2.2.2.2.2.2.2.2.2.2.2.1
abbrev xv (x : Cz) : Nat := x.2.2.2.2.2.2.2.2.2.2.2.2.2.1
abbrev xQ (x : Cz) : Rs → State → Prop := x.2.2.2.2.2.2.2.2.2.2.2.2.2.2
abbrev tysw (w : Wd) : List (ClassId × FieldType) := [(w.2.2.2.1.1, .int), (w.2.2.2.1.2, .char)]
def tensF : Nat → Value := fun i => .int (10 ^ i)
/-- a walk that stands at pc with these locals and this stack, over the abstract heap h, comes to the end that res tells, if it tells one -/
def PW (w : Wd) (x : Cz) (pc : Nat) (lv : List (Option Value)) (st : List Value) (h : Hp) (res : Option Rs) : Prop :=
  ∀ r, res = some r → ∀ (H : Heap) (locs : List Loc) (ls : Array Slot), va_P w.1 vwCl (cls w h) H → va_S (xA x) (xs x).heap H locs → lv_has ls (xN x) (asc 0 lv) → W (xp x) (xl x) (xe x) (xR x) (xs x) (xm x) (xa x) (xb x) (xk x) (xc x) H locs (xu x) (xv x) (xQ x r) (F0 (xm x) pc ls st)
def StF (w : Wd) (A : Nat → Prop) (U : State) : Prop := va_K w.1 vwCl (tysw w) U ∧ (∀ h, va_D A (cls w h)) ∧ va_Z "ToldInKnots" "TENS" "[I" (.ref w.2.2.2.2) A U U.heap ∧ va_T .int w.2.2.2.2 5 tensF A U U.heap ∧ NW U ∧ NF U
def Ok (w : Wd) (x : Cz) (cc : ByteArray) (own : String) (d : Nat) : Prop :=
  (xp x).tables.exec = Jvm.exec ∧ (xc x).code = cc ∧ (xc x).maxLocals = xN x ∧ (xs x).vm.findClass own = some (xm x).cls ∧ (∀ w ∈ TBL, w.before (xa x) (xs x) = true) ∧ (xk x).locks = false ∧ (d ≤ (xR x).frames ∧ 40 * d ≤ (xR x).locals ∧ xu x ≤ (xR x).cells ∧ xv x ≤ (xR x).slots) ∧ StF w (xA x) (xs x)
theorem Ok.x {w : Wd} {x : Cz} {cc : ByteArray} {own : String} {d : Nat} (C : Ok w x cc own d) : (xp x).tables.exec = Jvm.exec := C.1
theorem Ok.b {w : Wd} {x : Cz} {cc : ByteArray} {own : String} {d : Nat} (C : Ok w x cc own d) : (xc x).code = cc := C.2.1
theorem Ok.ml {w : Wd} {x : Cz} {cc : ByteArray} {own : String} {d : Nat} (C : Ok w x cc own d) : (xc x).maxLocals = xN x := C.2.2.1
theorem Ok.own {w : Wd} {x : Cz} {cc : ByteArray} {own : String} {d : Nat} (C : Ok w x cc own d) : (xs x).vm.findClass own = some (xm x).cls := C.2.2.2.1
theorem Ok.ts {w : Wd} {x : Cz} {cc : ByteArray} {own : String} {d : Nat} (C : Ok w x cc own d) : ∀ w ∈ TBL, w.before (xa x) (xs x) = true := C.2.2.2.2.1
theorem Ok.lk {w : Wd} {x : Cz} {cc : ByteArray} {own : String} {d : Nat} (C : Ok w x cc own d) : (xk x).locks = false := C.2.2.2.2.2.1
theorem Ok.rm {w : Wd} {x : Cz} {cc : ByteArray} {own : String} {d : Nat} (C : Ok w x cc own d) : d ≤ (xR x).frames ∧ 40 * d ≤ (xR x).locals ∧ xu x ≤ (xR x).cells ∧ xv x ≤ (xR x).slots := C.2.2.2.2.2.2.1
theorem Ok.st {w : Wd} {x : Cz} {cc : ByteArray} {own : String} {d : Nat} (C : Ok w x cc own d) : StF w (xA x) (xs x) := C.2.2.2.2.2.2.2
theorem Ok.K {w : Wd} {x : Cz} {cc : ByteArray} {own : String} {d : Nat} (C : Ok w x cc own d) : va_K w.1 vwCl (tysw w) (xs x) := C.st.1
theorem Ok.D {w : Wd} {x : Cz} {cc : ByteArray} {own : String} {d : Nat} (C : Ok w x cc own d) (h : Hp) : va_D (xA x) (cls w h) := C.st.2.1 h
def rmd (d : Nat) : Room := { frames := d, cells := 0, slots := 0, locals := 40 * d }
/-- what a method's start needs of the state -/
def PreW (w : Wd) (A : Nat → Prop) (h : Hp) (U : State) : Prop := va_P w.1 vwCl (cls w h) U.heap ∧ StF w A U
def ConI (l : Launch) (y : MethodName) (b : ByteArray) (n : Nat) (rt : FieldType) (d : Nat) (w : Wd) (A : Nat → Prop) (as : List Value) (h : Hp) (res : Option Rs) : Prop :=
  ∀ r, res = some r → Met l y (.code y b n (some rt) :: TBL) (rmd d) (va_Pc as (PreW w A h)) (va_Qi (fun v (_ : Unit) => v = r.1) (fun _ t => va_P w.1 vwCl (cls w r.2) t.heap) A) 0 0 A
def ConV (l : Launch) (y : MethodName) (b : ByteArray) (n : Nat) (d : Nat) (w : Wd) (A : Nat → Prop) (as : List Value) (h : Hp) (res : Option Rs) : Prop :=
  ∀ r, res = some r → Met l y (.code y b n none :: TBL) (rmd d) (va_Pc as (PreW w A h)) (va_Qv (fun (_ : Unit) => True) (fun _ t => va_P w.1 vwCl (cls w r.2) t.heap) A) 0 0 A
def OkI (w : Wd) (x : Cz) (rt : FieldType) : Prop := (xk x).sig.returnType = some rt ∧ xQ x = fun r => MQ (xb x) (va_Qi (fun v (_ : Unit) => v = r.1) (fun _ t => va_P w.1 vwCl (cls w r.2) t.heap) (xA x)) (xa x) (xs x) (xu x) (xv x) (xA x)
def OkV (w : Wd) (x : Cz) : Prop := (xk x).sig.returnType = none ∧ xQ x = fun r => MQ (xb x) (va_Qv (fun (_ : Unit) => True) (fun _ t => va_P w.1 vwCl (cls w r.2) t.heap) (xA x)) (xa x) (xs x) (xu x) (xv x) (xA x)
theorem StF.call {w : Wd} {A : Nat → Prop} {U : State} (h : StF w A U) (a : Array Value) (g : JFrame) (mk : MethodId) : StF w A (U.calling g mk a) :=
  ⟨va_K.moved (u := U) (U := U.calling g mk a) (Vm.Alike.refl U.vm) h.1, h.2.1, va_Z.moved (u := U) (U := U.calling g mk a) (Vm.Alike.refl U.vm) h.2.2.1, va_T.moved (u := U) (U := U.calling g mk a) (Vm.Alike.refl U.vm) h.2.2.2.1, h.2.2.2.2.1.same (U := U.calling g mk a) rfl, h.2.2.2.2.2.same (U := U.calling g mk a) rfl⟩
theorem PreW.blind {w : Wd} {A : Nat → Prop} {as : List Value} {h : Hp} : FrameBlind (va_Pc as (PreW w A h)) := fun a U g mk q => ⟨q.1, q.2.1, q.2.2.call a g mk⟩
theorem StF.at {w : Wd} {A : Nat → Prop} {s U : State} {H : Heap} {locs : List Loc} (h : StF w A s) (hS : va_S A s.heap H locs) (hU : U.heap = H) (hW : s.WarmedH U.vm) : StF w A U := by
  obtain ⟨hK, hD, hZ, hT, hN, hF⟩ := h
  have kp : ∀ a : Nat, a < s.heap.size → ¬ A a → U.heap[a]? = s.heap[a]? := fun a h1 h2 => by rw [hU]; exact hS.2.1 a h1 h2
  exact ⟨va_K.moved hW.alike hK, hD, va_Z.moved hW.alike (hZ.kept kp), va_T.moved hW.alike (hT.kept kp), hN.warm hW, hF.warm hW⟩

theorem pw_iconst {w : Wd} {x : Cz} {cc : ByteArray} {own : String} {d pc : Nat} {lv : List (Option Value)} {rest : List Value} {h : Hp} {X : Option Rs} {n : Int} {v : Int32} (C : Ok w x cc own d) (hdg : decode cc pc = .ok (.iconst n, 1)) (hv : Int32.ofInt n = v) (k : PW w x (pc + 1) lv (.int v :: rest) h X) : PW w x pc lv (rest) h X := fun r hr H locs ls hP hS hl => lv_iconst C.x C.b hdg hv (k r hr H locs ls hP hS hl)
theorem pw_bipush {w : Wd} {x : Cz} {cc : ByteArray} {own : String} {d pc : Nat} {lv : List (Option Value)} {rest : List Value} {h : Hp} {X : Option Rs} {n : Int} {v : Int32} (C : Ok w x cc own d) (hdg : decode cc pc = .ok (.bipush n, 2)) (hv : (Int8.ofInt n).toInt32 = v) (k : PW w x (pc + 2) lv (.int v :: rest) h X) : PW w x pc lv (rest) h X := fun r hr H locs ls hP hS hl => lv_bipush C.x C.b hdg hv (k r hr H locs ls hP hS hl)
theorem pw_sipush {w : Wd} {x : Cz} {cc : ByteArray} {own : String} {d pc : Nat} {lv : List (Option Value)} {rest : List Value} {h : Hp} {X : Option Rs} {n : Int} {v : Int32} (C : Ok w x cc own d) (hdg : decode cc pc = .ok (.sipush n, 3)) (hv : (Int16.ofInt n).toInt32 = v) (k : PW w x (pc + 3) lv (.int v :: rest) h X) : PW w x pc lv (rest) h X := fun r hr H locs ls hP hS hl => lv_sipush C.x C.b hdg hv (k r hr H locs ls hP hS hl)
theorem pw_lconst {w : Wd} {x : Cz} {cc : ByteArray} {own : String} {d pc : Nat} {lv : List (Option Value)} {rest : List Value} {h : Hp} {X : Option Rs} {n : Fin 2} {v : Int64} (C : Ok w x cc own d) (hdg : decode cc pc = .ok (.lconst n, 1)) (hv : Int64.ofNat (n : Nat) = v) (k : PW w x (pc + 1) lv (.long v :: rest) h X) : PW w x pc lv (rest) h X := fun r hr H locs ls hP hS hl => lv_lconst C.x C.b hdg hv (k r hr H locs ls hP hS hl)
theorem pw_iadd {w : Wd} {x : Cz} {cc : ByteArray} {own : String} {d pc : Nat} {lv : List (Option Value)} {rest : List Value} {h : Hp} {X : Option Rs} {a b : Int32} (C : Ok w x cc own d) (hdg : decode cc pc = .ok (.iadd, 1))  (k : PW w x (pc + 1) lv (.int (a + b) :: rest) h X) : PW w x pc lv (.int b :: .int a :: rest) h X := fun r hr H locs ls hP hS hl => lv_iadd C.x C.b hdg  (k r hr H locs ls hP hS hl)
theorem pw_isub {w : Wd} {x : Cz} {cc : ByteArray} {own : String} {d pc : Nat} {lv : List (Option Value)} {rest : List Value} {h : Hp} {X : Option Rs} {a b : Int32} (C : Ok w x cc own d) (hdg : decode cc pc = .ok (.isub, 1))  (k : PW w x (pc + 1) lv (.int (a - b) :: rest) h X) : PW w x pc lv (.int b :: .int a :: rest) h X := fun r hr H locs ls hP hS hl => lv_isub C.x C.b hdg  (k r hr H locs ls hP hS hl)
theorem pw_imul {w : Wd} {x : Cz} {cc : ByteArray} {own : String} {d pc : Nat} {lv : List (Option Value)} {rest : List Value} {h : Hp} {X : Option Rs} {a b : Int32} (C : Ok w x cc own d) (hdg : decode cc pc = .ok (.imul, 1))  (k : PW w x (pc + 1) lv (.int (a * b) :: rest) h X) : PW w x pc lv (.int b :: .int a :: rest) h X := fun r hr H locs ls hP hS hl => lv_imul C.x C.b hdg  (k r hr H locs ls hP hS hl)
theorem pw_iand {w : Wd} {x : Cz} {cc : ByteArray} {own : String} {d pc : Nat} {lv : List (Option Value)} {rest : List Value} {h : Hp} {X : Option Rs} {a b : Int32} (C : Ok w x cc own d) (hdg : decode cc pc = .ok (.iand, 1))  (k : PW w x (pc + 1) lv (.int (a &&& b) :: rest) h X) : PW w x pc lv (.int b :: .int a :: rest) h X := fun r hr H locs ls hP hS hl => lv_iand C.x C.b hdg  (k r hr H locs ls hP hS hl)
theorem pw_ior {w : Wd} {x : Cz} {cc : ByteArray} {own : String} {d pc : Nat} {lv : List (Option Value)} {rest : List Value} {h : Hp} {X : Option Rs} {a b : Int32} (C : Ok w x cc own d) (hdg : decode cc pc = .ok (.ior, 1))  (k : PW w x (pc + 1) lv (.int (a ||| b) :: rest) h X) : PW w x pc lv (.int b :: .int a :: rest) h X := fun r hr H locs ls hP hS hl => lv_ior C.x C.b hdg  (k r hr H locs ls hP hS hl)
theorem pw_ixor {w : Wd} {x : Cz} {cc : ByteArray} {own : String} {d pc : Nat} {lv : List (Option Value)} {rest : List Value} {h : Hp} {X : Option Rs} {a b : Int32} (C : Ok w x cc own d) (hdg : decode cc pc = .ok (.ixor, 1))  (k : PW w x (pc + 1) lv (.int (a ^^^ b) :: rest) h X) : PW w x pc lv (.int b :: .int a :: rest) h X := fun r hr H locs ls hP hS hl => lv_ixor C.x C.b hdg  (k r hr H locs ls hP hS hl)
theorem pw_ishl {w : Wd} {x : Cz} {cc : ByteArray} {own : String} {d pc : Nat} {lv : List (Option Value)} {rest : List Value} {h : Hp} {X : Option Rs} {a b : Int32} (C : Ok w x cc own d) (hdg : decode cc pc = .ok (.ishl, 1))  (k : PW w x (pc + 1) lv (.int (a <<< (b &&& 31)) :: rest) h X) : PW w x pc lv (.int b :: .int a :: rest) h X := fun r hr H locs ls hP hS hl => lv_ishl C.x C.b hdg  (k r hr H locs ls hP hS hl)
theorem pw_ishr {w : Wd} {x : Cz} {cc : ByteArray} {own : String} {d pc : Nat} {lv : List (Option Value)} {rest : List Value} {h : Hp} {X : Option Rs} {a b : Int32} (C : Ok w x cc own d) (hdg : decode cc pc = .ok (.ishr, 1))  (k : PW w x (pc + 1) lv (.int (a >>> (b &&& 31)) :: rest) h X) : PW w x pc lv (.int b :: .int a :: rest) h X := fun r hr H locs ls hP hS hl => lv_ishr C.x C.b hdg  (k r hr H locs ls hP hS hl)
theorem pw_idiv {w : Wd} {x : Cz} {cc : ByteArray} {own : String} {d pc : Nat} {lv : List (Option Value)} {rest : List Value} {h : Hp} {X : Option Rs} {a b : Int32} (C : Ok w x cc own d) (hdg : decode cc pc = .ok (.idiv, 1)) (hne : ¬ b = 0) (k : PW w x (pc + 1) lv (.int (a / b) :: rest) h X) : PW w x pc lv (.int b :: .int a :: rest) h X := fun r hr H locs ls hP hS hl => lv_idiv C.x C.b hdg hne (k r hr H locs ls hP hS hl)
theorem pw_irem {w : Wd} {x : Cz} {cc : ByteArray} {own : String} {d pc : Nat} {lv : List (Option Value)} {rest : List Value} {h : Hp} {X : Option Rs} {a b : Int32} (C : Ok w x cc own d) (hdg : decode cc pc = .ok (.irem, 1)) (hne : ¬ b = 0) (k : PW w x (pc + 1) lv (.int (a - a / b * b) :: rest) h X) : PW w x pc lv (.int b :: .int a :: rest) h X := fun r hr H locs ls hP hS hl => lv_irem C.x C.b hdg hne (k r hr H locs ls hP hS hl)
theorem pw_ineg {w : Wd} {x : Cz} {cc : ByteArray} {own : String} {d pc : Nat} {lv : List (Option Value)} {rest : List Value} {h : Hp} {X : Option Rs} {a : Int32} (C : Ok w x cc own d) (hdg : decode cc pc = .ok (.ineg, 1))  (k : PW w x (pc + 1) lv (.int (-a) :: rest) h X) : PW w x pc lv (.int a :: rest) h X := fun r hr H locs ls hP hS hl => lv_ineg C.x C.b hdg  (k r hr H locs ls hP hS hl)
theorem pw_ladd {w : Wd} {x : Cz} {cc : ByteArray} {own : String} {d pc : Nat} {lv : List (Option Value)} {rest : List Value} {h : Hp} {X : Option Rs} {a b : Int64} (C : Ok w x cc own d) (hdg : decode cc pc = .ok (.ladd, 1))  (k : PW w x (pc + 1) lv (.long (a + b) :: rest) h X) : PW w x pc lv (.long b :: .long a :: rest) h X := fun r hr H locs ls hP hS hl => lv_ladd C.x C.b hdg  (k r hr H locs ls hP hS hl)
theorem pw_lmul {w : Wd} {x : Cz} {cc : ByteArray} {own : String} {d pc : Nat} {lv : List (Option Value)} {rest : List Value} {h : Hp} {X : Option Rs} {a b : Int64} (C : Ok w x cc own d) (hdg : decode cc pc = .ok (.lmul, 1))  (k : PW w x (pc + 1) lv (.long (a * b) :: rest) h X) : PW w x pc lv (.long b :: .long a :: rest) h X := fun r hr H locs ls hP hS hl => lv_lmul C.x C.b hdg  (k r hr H locs ls hP hS hl)
theorem pw_ldiv {w : Wd} {x : Cz} {cc : ByteArray} {own : String} {d pc : Nat} {lv : List (Option Value)} {rest : List Value} {h : Hp} {X : Option Rs} {a b : Int64} (C : Ok w x cc own d) (hdg : decode cc pc = .ok (.ldiv, 1)) (hne : ¬ b = 0) (k : PW w x (pc + 1) lv (.long (a / b) :: rest) h X) : PW w x pc lv (.long b :: .long a :: rest) h X := fun r hr H locs ls hP hS hl => lv_ldiv C.x C.b hdg hne (k r hr H locs ls hP hS hl)
theorem pw_lrem {w : Wd} {x : Cz} {cc : ByteArray} {own : String} {d pc : Nat} {lv : List (Option Value)} {rest : List Value} {h : Hp} {X : Option Rs} {a b : Int64} (C : Ok w x cc own d) (hdg : decode cc pc = .ok (.lrem, 1)) (hne : ¬ b = 0) (k : PW w x (pc + 1) lv (.long (a - a / b * b) :: rest) h X) : PW w x pc lv (.long b :: .long a :: rest) h X := fun r hr H locs ls hP hS hl => lv_lrem C.x C.b hdg hne (k r hr H locs ls hP hS hl)
theorem pw_i2l {w : Wd} {x : Cz} {cc : ByteArray} {own : String} {d pc : Nat} {lv : List (Option Value)} {rest : List Value} {h : Hp} {X : Option Rs} {a : Int32} (C : Ok w x cc own d) (hdg : decode cc pc = .ok (.i2l, 1))  (k : PW w x (pc + 1) lv (.long a.toInt64 :: rest) h X) : PW w x pc lv (.int a :: rest) h X := fun r hr H locs ls hP hS hl => lv_i2l C.x C.b hdg rfl (k r hr H locs ls hP hS hl)
theorem pw_l2i {w : Wd} {x : Cz} {cc : ByteArray} {own : String} {d pc : Nat} {lv : List (Option Value)} {rest : List Value} {h : Hp} {X : Option Rs} {a : Int64} (C : Ok w x cc own d) (hdg : decode cc pc = .ok (.l2i, 1))  (k : PW w x (pc + 1) lv (.int a.toInt32 :: rest) h X) : PW w x pc lv (.long a :: rest) h X := fun r hr H locs ls hP hS hl => lv_l2i C.x C.b hdg rfl (k r hr H locs ls hP hS hl)
theorem pw_i2c {w : Wd} {x : Cz} {cc : ByteArray} {own : String} {d pc : Nat} {lv : List (Option Value)} {rest : List Value} {h : Hp} {X : Option Rs} {a : Int32} (C : Ok w x cc own d) (hdg : decode cc pc = .ok (.i2c, 1))  (k : PW w x (pc + 1) lv (.int (a.toUInt32 % 65536).toInt32 :: rest) h X) : PW w x pc lv (.int a :: rest) h X := fun r hr H locs ls hP hS hl => lv_i2c C.x C.b hdg rfl (k r hr H locs ls hP hS hl)
theorem pw_iushr {w : Wd} {x : Cz} {cc : ByteArray} {own : String} {d pc : Nat} {lv : List (Option Value)} {rest : List Value} {h : Hp} {X : Option Rs} {a b : Int32} (C : Ok w x cc own d) (hdg : decode cc pc = .ok (.iushr, 1))  (k : PW w x (pc + 1) lv (.int (a.toUInt32 >>> (b.toUInt32 &&& Int32.toUInt32 31)).toInt32 :: rest) h X) : PW w x pc lv (.int b :: .int a :: rest) h X := fun r hr H locs ls hP hS hl => lv_iushr C.x C.b hdg rfl (k r hr H locs ls hP hS hl)
theorem pw_dup {w : Wd} {x : Cz} {cc : ByteArray} {own : String} {d pc : Nat} {lv : List (Option Value)} {rest : List Value} {h : Hp} {X : Option Rs} {v : Value} (C : Ok w x cc own d) (hdg : decode cc pc = .ok (.dup, 1)) (hv : v.category = 1) (k : PW w x (pc + 1) lv (v :: v :: rest) h X) : PW w x pc lv (v :: rest) h X := fun r hr H locs ls hP hS hl => lv_dup C.x C.b hdg hv (k r hr H locs ls hP hS hl)
theorem pw_pop {w : Wd} {x : Cz} {cc : ByteArray} {own : String} {d pc : Nat} {lv : List (Option Value)} {rest : List Value} {h : Hp} {X : Option Rs} {v : Value} (C : Ok w x cc own d) (hdg : decode cc pc = .ok (.pop, 1)) (hv : v.category = 1) (k : PW w x (pc + 1) lv (rest) h X) : PW w x pc lv (v :: rest) h X := fun r hr H locs ls hP hS hl => lv_pop C.x C.b hdg hv (k r hr H locs ls hP hS hl)
theorem pw_dup2_11 {w : Wd} {x : Cz} {cc : ByteArray} {own : String} {d pc : Nat} {lv : List (Option Value)} {rest : List Value} {h : Hp} {X : Option Rs} {v u : Value} (C : Ok w x cc own d) (hdg : decode cc pc = .ok (.dup2, 1)) (hv : v.category = 1) (hu : u.category = 1) (k : PW w x (pc + 1) lv (v :: u :: v :: u :: rest) h X) : PW w x pc lv (v :: u :: rest) h X := fun r hr H locs ls hP hS hl => lv_dup2_11 C.x C.b hdg hv hu (k r hr H locs ls hP hS hl)
theorem pw_dup2_2 {w : Wd} {x : Cz} {cc : ByteArray} {own : String} {d pc : Nat} {lv : List (Option Value)} {rest : List Value} {h : Hp} {X : Option Rs} {v : Value} (C : Ok w x cc own d) (hdg : decode cc pc = .ok (.dup2, 1)) (hv : v.category = 2) (k : PW w x (pc + 1) lv (v :: v :: rest) h X) : PW w x pc lv (v :: rest) h X := fun r hr H locs ls hP hS hl => lv_dup2_2 C.x C.b hdg hv (k r hr H locs ls hP hS hl)
theorem pw_lcmp {w : Wd} {x : Cz} {cc : ByteArray} {own : String} {d pc : Nat} {lv : List (Option Value)} {rest : List Value} {h : Hp} {X : Option Rs} {a b : Int64} (C : Ok w x cc own d) (hdg : decode cc pc = .ok (.lcmp, 1)) (k : PW w x (pc + 1) lv (.int (lg_cmp a b) :: rest) h X) : PW w x pc lv (.long b :: .long a :: rest) h X := fun r hr H locs ls hP hS hl => W.lcmp C.x C.b hdg (k r hr H locs ls hP hS hl)
theorem pw_iload_n {w : Wd} {x : Cz} {cc : ByteArray} {own : String} {d pc : Nat} {lv : List (Option Value)} {rest : List Value} {h : Hp} {X : Option Rs} {k4 : Fin 4} {i : Nat} {a : Int32} (C : Ok w x cc own d) (hdg : decode cc pc = .ok (.iload_n k4, 1)) (hi : (k4 : Nat) = i) (hv : lv[i]? = some (some (.int a))) (k : PW w x (pc + 1) lv (.int a :: rest) h X) : PW w x pc lv rest h X := fun r hr H locs ls hP hS hl => lv_iload_n C.x C.b hdg hi (asc_at hl hv) (k r hr H locs ls hP hS hl)
theorem pw_iload {w : Wd} {x : Cz} {cc : ByteArray} {own : String} {d pc : Nat} {lv : List (Option Value)} {rest : List Value} {h : Hp} {X : Option Rs} {i : Nat} {a : Int32} (C : Ok w x cc own d) (hdg : decode cc pc = .ok (.iload i, 2)) (hv : lv[i]? = some (some (.int a))) (k : PW w x (pc + 2) lv (.int a :: rest) h X) : PW w x pc lv rest h X := fun r hr H locs ls hP hS hl => lv_iload C.x C.b hdg (asc_at hl hv) (k r hr H locs ls hP hS hl)
theorem pw_lload_n {w : Wd} {x : Cz} {cc : ByteArray} {own : String} {d pc : Nat} {lv : List (Option Value)} {rest : List Value} {h : Hp} {X : Option Rs} {k4 : Fin 4} {i : Nat} {a : Int64} (C : Ok w x cc own d) (hdg : decode cc pc = .ok (.lload_n k4, 1)) (hi : (k4 : Nat) = i) (hv : lv[i]? = some (some (.long a))) (k : PW w x (pc + 1) lv (.long a :: rest) h X) : PW w x pc lv rest h X := fun r hr H locs ls hP hS hl => lv_lload_n C.x C.b hdg hi (asc_at hl hv) (k r hr H locs ls hP hS hl)
theorem pw_lload {w : Wd} {x : Cz} {cc : ByteArray} {own : String} {d pc : Nat} {lv : List (Option Value)} {rest : List Value} {h : Hp} {X : Option Rs} {i : Nat} {a : Int64} (C : Ok w x cc own d) (hdg : decode cc pc = .ok (.lload i, 2)) (hv : lv[i]? = some (some (.long a))) (k : PW w x (pc + 2) lv (.long a :: rest) h X) : PW w x pc lv rest h X := fun r hr H locs ls hP hS hl => lv_lload C.x C.b hdg (asc_at hl hv) (k r hr H locs ls hP hS hl)
theorem pw_aload_n {w : Wd} {x : Cz} {cc : ByteArray} {own : String} {d pc : Nat} {lv : List (Option Value)} {rest : List Value} {h : Hp} {X : Option Rs} {k4 : Fin 4} {i : Nat} {a : Nat} (C : Ok w x cc own d) (hdg : decode cc pc = .ok (.aload_n k4, 1)) (hi : (k4 : Nat) = i) (hv : lv[i]? = some (some (.ref a))) (k : PW w x (pc + 1) lv (.ref a :: rest) h X) : PW w x pc lv rest h X := fun r hr H locs ls hP hS hl => lv_aload_n C.x C.b hdg hi (asc_at hl hv) (k r hr H locs ls hP hS hl)
theorem pw_aload {w : Wd} {x : Cz} {cc : ByteArray} {own : String} {d pc : Nat} {lv : List (Option Value)} {rest : List Value} {h : Hp} {X : Option Rs} {i : Nat} {a : Nat} (C : Ok w x cc own d) (hdg : decode cc pc = .ok (.aload i, 2)) (hv : lv[i]? = some (some (.ref a))) (k : PW w x (pc + 2) lv (.ref a :: rest) h X) : PW w x pc lv rest h X := fun r hr H locs ls hP hS hl => lv_aload C.x C.b hdg (asc_at hl hv) (k r hr H locs ls hP hS hl)
theorem pw_istore_n {w : Wd} {x : Cz} {cc : ByteArray} {own : String} {d pc : Nat} {lv : List (Option Value)} {rest : List Value} {h : Hp} {X : Option Rs} {lv2 : List (Option Value)} {k4 : Fin 4} {i : Nat} {a : Int32} (C : Ok w x cc own d) (hdg : decode cc pc = .ok (.istore_n k4, 1)) (hi : (k4 : Nat) = i) {nN : Nat} (hN : xN x = nN) (hn : i < nN) (hok : okst lv i = true) (hs : lv.set i (some (.int a)) = lv2) (k : PW w x (pc + 1) lv2 rest h X) : PW w x pc lv (.int a :: rest) h X := fun r hr H locs ls hP hS hl => lv_istore_n C.x C.b hdg hi hl (hN ▸ hn) rfl (fun ls2 hl2 => k r hr H locs ls2 hP hS (by rw [← hs]; exact asc_set1 hok hl2))
theorem pw_istore {w : Wd} {x : Cz} {cc : ByteArray} {own : String} {d pc : Nat} {lv : List (Option Value)} {rest : List Value} {h : Hp} {X : Option Rs} {lv2 : List (Option Value)} {i : Nat} {a : Int32} (C : Ok w x cc own d) (hdg : decode cc pc = .ok (.istore i, 2)) {nN : Nat} (hN : xN x = nN) (hn : i < nN) (hok : okst lv i = true) (hs : lv.set i (some (.int a)) = lv2) (k : PW w x (pc + 2) lv2 rest h X) : PW w x pc lv (.int a :: rest) h X := fun r hr H locs ls hP hS hl => lv_istore C.x C.b hdg hl (hN ▸ hn) rfl (fun ls2 hl2 => k r hr H locs ls2 hP hS (by rw [← hs]; exact asc_set1 hok hl2))
theorem pw_astore_n {w : Wd} {x : Cz} {cc : ByteArray} {own : String} {d pc : Nat} {lv : List (Option Value)} {rest : List Value} {h : Hp} {X : Option Rs} {lv2 : List (Option Value)} {k4 : Fin 4} {i : Nat} {a : Nat} (C : Ok w x cc own d) (hdg : decode cc pc = .ok (.astore_n k4, 1)) (hi : (k4 : Nat) = i) {nN : Nat} (hN : xN x = nN) (hn : i < nN) (hok : okst lv i = true) (hs : lv.set i (some (.ref a)) = lv2) (k : PW w x (pc + 1) lv2 rest h X) : PW w x pc lv (.ref a :: rest) h X := fun r hr H locs ls hP hS hl => lv_astore_n C.x C.b hdg hi hl (hN ▸ hn) rfl (fun ls2 hl2 => k r hr H locs ls2 hP hS (by rw [← hs]; exact asc_set1 hok hl2))
theorem pw_astore {w : Wd} {x : Cz} {cc : ByteArray} {own : String} {d pc : Nat} {lv : List (Option Value)} {rest : List Value} {h : Hp} {X : Option Rs} {lv2 : List (Option Value)} {i : Nat} {a : Nat} (C : Ok w x cc own d) (hdg : decode cc pc = .ok (.astore i, 2)) {nN : Nat} (hN : xN x = nN) (hn : i < nN) (hok : okst lv i = true) (hs : lv.set i (some (.ref a)) = lv2) (k : PW w x (pc + 2) lv2 rest h X) : PW w x pc lv (.ref a :: rest) h X := fun r hr H locs ls hP hS hl => lv_astore C.x C.b hdg hl (hN ▸ hn) rfl (fun ls2 hl2 => k r hr H locs ls2 hP hS (by rw [← hs]; exact asc_set1 hok hl2))
theorem pw_lstore_n {w : Wd} {x : Cz} {cc : ByteArray} {own : String} {d pc : Nat} {lv : List (Option Value)} {rest : List Value} {h : Hp} {X : Option Rs} {lv2 : List (Option Value)} {k4 : Fin 4} {i : Nat} {a : Int64} (C : Ok w x cc own d) (hdg : decode cc pc = .ok (.lstore_n k4, 1)) (hi : (k4 : Nat) = i) {nN : Nat} (hN : xN x = nN) (hn : i + 1 < nN) (hok : okst lv i = true) (hs : (lv.set i (some (.long a))).set (i + 1) none = lv2) (k : PW w x (pc + 1) lv2 rest h X) : PW w x pc lv (.long a :: rest) h X := fun r hr H locs ls hP hS hl => lv_lstore_n C.x C.b hdg hi hl (hN ▸ hn) rfl (fun ls2 hl2 => k r hr H locs ls2 hP hS (by rw [← hs]; exact asc_set2 hok hl2))
theorem pw_lstore {w : Wd} {x : Cz} {cc : ByteArray} {own : String} {d pc : Nat} {lv : List (Option Value)} {rest : List Value} {h : Hp} {X : Option Rs} {lv2 : List (Option Value)} {i : Nat} {a : Int64} (C : Ok w x cc own d) (hdg : decode cc pc = .ok (.lstore i, 2)) {nN : Nat} (hN : xN x = nN) (hn : i + 1 < nN) (hok : okst lv i = true) (hs : (lv.set i (some (.long a))).set (i + 1) none = lv2) (k : PW w x (pc + 2) lv2 rest h X) : PW w x pc lv (.long a :: rest) h X := fun r hr H locs ls hP hS hl => lv_lstore C.x C.b hdg hl (hN ▸ hn) rfl (fun ls2 hl2 => k r hr H locs ls2 hP hS (by rw [← hs]; exact asc_set2 hok hl2))
theorem pw_iinc {w : Wd} {x : Cz} {cc : ByteArray} {own : String} {d pc : Nat} {lv : List (Option Value)} {rest : List Value} {h : Hp} {X : Option Rs} {lv2 : List (Option Value)} {i : Nat} {n : Int} {a v : Int32} (C : Ok w x cc own d) (hdg : decode cc pc = .ok (.iinc i n, 3)) (hv : lv[i]? = some (some (.int a))) (hw : a + Int32.ofInt n = v) {nN : Nat} (hN : xN x = nN) (hn : i < nN) (hok : okst lv i = true) (hs : lv.set i (some (.int v)) = lv2) (k : PW w x (pc + 3) lv2 rest h X) : PW w x pc lv rest h X := fun r hr H locs ls hP hS hl => by
  obtain ⟨j, hj⟩ := List.getElem?_of_mem ((asc_mem lv 0 (i, .int a)).mpr ⟨Nat.zero_le _, by simpa using hv⟩)
  exact lv_iinc C.x C.b hdg hl hj hw (hN ▸ hn) rfl (fun ls2 hl2 => k r hr H locs ls2 hP hS (by rw [← hs]; exact asc_set1 hok hl2))
theorem i_nlt {a b : Int32} (h : b ≤ a) : ¬ a < b := by rw [Int32.lt_iff_toInt_lt]; rw [Int32.le_iff_toInt_le] at h; omega
theorem i_nle {a b : Int32} (h : ¬ b ≤ a) : a < b := by rw [Int32.lt_iff_toInt_lt]; rw [Int32.le_iff_toInt_le] at h; omega
theorem pw_if_eq {w : Wd} {x : Cz} {cc : ByteArray} {own : String} {d pc : Nat} {lv : List (Option Value)} {rest : List Value} {h : Hp} {X Y : Option Rs} {a : Int32} {off : Int} {tgt : Nat} (C : Ok w x cc own d) (hdg : decode cc pc = .ok (.ifCond .eq off, 3)) (ht : (pc : Int) + off = (tgt : Int)) (kt : a = 0 → PW w x tgt lv rest h X) (kf : ¬ (a = 0) → PW w x (pc + 3) lv rest h Y) : PW w x pc lv (.int a :: rest) h (if a = 0 then X else Y) := fun r hr H locs ls hP hS hl => lv_if_eq C.x C.b hdg ht (fun hc => kt (hc) r (by rw [if_pos (hc)] at hr; exact hr) H locs ls hP hS hl) (fun hc => kf (hc) r (by rw [if_neg (hc)] at hr; exact hr) H locs ls hP hS hl)
theorem pw_if_ne {w : Wd} {x : Cz} {cc : ByteArray} {own : String} {d pc : Nat} {lv : List (Option Value)} {rest : List Value} {h : Hp} {X Y : Option Rs} {a : Int32} {off : Int} {tgt : Nat} (C : Ok w x cc own d) (hdg : decode cc pc = .ok (.ifCond .ne off, 3)) (ht : (pc : Int) + off = (tgt : Int)) (kf : a = 0 → PW w x (pc + 3) lv rest h X) (kt : ¬ (a = 0) → PW w x tgt lv rest h Y) : PW w x pc lv (.int a :: rest) h (if a = 0 then X else Y) := fun r hr H locs ls hP hS hl => lv_if_ne C.x C.b hdg ht (fun hc => kt (hc) r (by rw [if_neg (hc)] at hr; exact hr) H locs ls hP hS hl) (fun hc => kf (hc) r (by rw [if_pos (hc)] at hr; exact hr) H locs ls hP hS hl)
theorem pw_if_lt {w : Wd} {x : Cz} {cc : ByteArray} {own : String} {d pc : Nat} {lv : List (Option Value)} {rest : List Value} {h : Hp} {X Y : Option Rs} {a : Int32} {off : Int} {tgt : Nat} (C : Ok w x cc own d) (hdg : decode cc pc = .ok (.ifCond .lt off, 3)) (ht : (pc : Int) + off = (tgt : Int)) (kt : a < 0 → PW w x tgt lv rest h X) (kf : ¬ (a < 0) → PW w x (pc + 3) lv rest h Y) : PW w x pc lv (.int a :: rest) h (if a < 0 then X else Y) := fun r hr H locs ls hP hS hl => lv_if_lt C.x C.b hdg ht (fun hc => kt (hc) r (by rw [if_pos (hc)] at hr; exact hr) H locs ls hP hS hl) (fun hc => kf (hc) r (by rw [if_neg (hc)] at hr; exact hr) H locs ls hP hS hl)
theorem pw_if_ge {w : Wd} {x : Cz} {cc : ByteArray} {own : String} {d pc : Nat} {lv : List (Option Value)} {rest : List Value} {h : Hp} {X Y : Option Rs} {a : Int32} {off : Int} {tgt : Nat} (C : Ok w x cc own d) (hdg : decode cc pc = .ok (.ifCond .ge off, 3)) (ht : (pc : Int) + off = (tgt : Int)) (kf : a < 0 → PW w x (pc + 3) lv rest h X) (kt : ¬ (a < 0) → PW w x tgt lv rest h Y) : PW w x pc lv (.int a :: rest) h (if a < 0 then X else Y) := fun r hr H locs ls hP hS hl => lv_if_ge C.x C.b hdg ht (fun hc => kt (i_nlt hc) r (by rw [if_neg (i_nlt hc)] at hr; exact hr) H locs ls hP hS hl) (fun hc => kf (i_nle hc) r (by rw [if_pos (i_nle hc)] at hr; exact hr) H locs ls hP hS hl)
theorem pw_if_gt {w : Wd} {x : Cz} {cc : ByteArray} {own : String} {d pc : Nat} {lv : List (Option Value)} {rest : List Value} {h : Hp} {X Y : Option Rs} {a : Int32} {off : Int} {tgt : Nat} (C : Ok w x cc own d) (hdg : decode cc pc = .ok (.ifCond .gt off, 3)) (ht : (pc : Int) + off = (tgt : Int)) (kt : 0 < a → PW w x tgt lv rest h X) (kf : ¬ (0 < a) → PW w x (pc + 3) lv rest h Y) : PW w x pc lv (.int a :: rest) h (if 0 < a then X else Y) := fun r hr H locs ls hP hS hl => lv_if_gt C.x C.b hdg ht (fun hc => kt (hc) r (by rw [if_pos (hc)] at hr; exact hr) H locs ls hP hS hl) (fun hc => kf (hc) r (by rw [if_neg (hc)] at hr; exact hr) H locs ls hP hS hl)
theorem pw_if_le {w : Wd} {x : Cz} {cc : ByteArray} {own : String} {d pc : Nat} {lv : List (Option Value)} {rest : List Value} {h : Hp} {X Y : Option Rs} {a : Int32} {off : Int} {tgt : Nat} (C : Ok w x cc own d) (hdg : decode cc pc = .ok (.ifCond .le off, 3)) (ht : (pc : Int) + off = (tgt : Int)) (kf : 0 < a → PW w x (pc + 3) lv rest h X) (kt : ¬ (0 < a) → PW w x tgt lv rest h Y) : PW w x pc lv (.int a :: rest) h (if 0 < a then X else Y) := fun r hr H locs ls hP hS hl => lv_if_le C.x C.b hdg ht (fun hc => kt (i_nlt hc) r (by rw [if_neg (i_nlt hc)] at hr; exact hr) H locs ls hP hS hl) (fun hc => kf (i_nle hc) r (by rw [if_pos (i_nle hc)] at hr; exact hr) H locs ls hP hS hl)
theorem pw_icmp_eq {w : Wd} {x : Cz} {cc : ByteArray} {own : String} {d pc : Nat} {lv : List (Option Value)} {rest : List Value} {h : Hp} {X Y : Option Rs} {a b : Int32} {off : Int} {tgt : Nat} (C : Ok w x cc own d) (hdg : decode cc pc = .ok (.if_icmp .eq off, 3)) (ht : (pc : Int) + off = (tgt : Int)) (kt : a = b → PW w x tgt lv rest h X) (kf : ¬ (a = b) → PW w x (pc + 3) lv rest h Y) : PW w x pc lv (.int b :: .int a :: rest) h (if a = b then X else Y) := fun r hr H locs ls hP hS hl => lv_icmp_eq C.x C.b hdg ht (fun hc => kt (hc) r (by rw [if_pos (hc)] at hr; exact hr) H locs ls hP hS hl) (fun hc => kf (hc) r (by rw [if_neg (hc)] at hr; exact hr) H locs ls hP hS hl)
theorem pw_icmp_ne {w : Wd} {x : Cz} {cc : ByteArray} {own : String} {d pc : Nat} {lv : List (Option Value)} {rest : List Value} {h : Hp} {X Y : Option Rs} {a b : Int32} {off : Int} {tgt : Nat} (C : Ok w x cc own d) (hdg : decode cc pc = .ok (.if_icmp .ne off, 3)) (ht : (pc : Int) + off = (tgt : Int)) (kf : a = b → PW w x (pc + 3) lv rest h X) (kt : ¬ (a = b) → PW w x tgt lv rest h Y) : PW w x pc lv (.int b :: .int a :: rest) h (if a = b then X else Y) := fun r hr H locs ls hP hS hl => lv_icmp_ne C.x C.b hdg ht (fun hc => kt (hc) r (by rw [if_neg (hc)] at hr; exact hr) H locs ls hP hS hl) (fun hc => kf (hc) r (by rw [if_pos (hc)] at hr; exact hr) H locs ls hP hS hl)
theorem pw_icmp_lt {w : Wd} {x : Cz} {cc : ByteArray} {own : String} {d pc : Nat} {lv : List (Option Value)} {rest : List Value} {h : Hp} {X Y : Option Rs} {a b : Int32} {off : Int} {tgt : Nat} (C : Ok w x cc own d) (hdg : decode cc pc = .ok (.if_icmp .lt off, 3)) (ht : (pc : Int) + off = (tgt : Int)) (kt : a < b → PW w x tgt lv rest h X) (kf : ¬ (a < b) → PW w x (pc + 3) lv rest h Y) : PW w x pc lv (.int b :: .int a :: rest) h (if a < b then X else Y) := fun r hr H locs ls hP hS hl => lv_icmp_lt C.x C.b hdg ht (fun hc => kt (hc) r (by rw [if_pos (hc)] at hr; exact hr) H locs ls hP hS hl) (fun hc => kf (hc) r (by rw [if_neg (hc)] at hr; exact hr) H locs ls hP hS hl)
theorem pw_icmp_ge {w : Wd} {x : Cz} {cc : ByteArray} {own : String} {d pc : Nat} {lv : List (Option Value)} {rest : List Value} {h : Hp} {X Y : Option Rs} {a b : Int32} {off : Int} {tgt : Nat} (C : Ok w x cc own d) (hdg : decode cc pc = .ok (.if_icmp .ge off, 3)) (ht : (pc : Int) + off = (tgt : Int)) (kf : a < b → PW w x (pc + 3) lv rest h X) (kt : ¬ (a < b) → PW w x tgt lv rest h Y) : PW w x pc lv (.int b :: .int a :: rest) h (if a < b then X else Y) := fun r hr H locs ls hP hS hl => lv_icmp_ge C.x C.b hdg ht (fun hc => kt (i_nlt hc) r (by rw [if_neg (i_nlt hc)] at hr; exact hr) H locs ls hP hS hl) (fun hc => kf (i_nle hc) r (by rw [if_pos (i_nle hc)] at hr; exact hr) H locs ls hP hS hl)
theorem pw_icmp_gt {w : Wd} {x : Cz} {cc : ByteArray} {own : String} {d pc : Nat} {lv : List (Option Value)} {rest : List Value} {h : Hp} {X Y : Option Rs} {a b : Int32} {off : Int} {tgt : Nat} (C : Ok w x cc own d) (hdg : decode cc pc = .ok (.if_icmp .gt off, 3)) (ht : (pc : Int) + off = (tgt : Int)) (kt : b < a → PW w x tgt lv rest h X) (kf : ¬ (b < a) → PW w x (pc + 3) lv rest h Y) : PW w x pc lv (.int b :: .int a :: rest) h (if b < a then X else Y) := fun r hr H locs ls hP hS hl => lv_icmp_gt C.x C.b hdg ht (fun hc => kt (hc) r (by rw [if_pos (hc)] at hr; exact hr) H locs ls hP hS hl) (fun hc => kf (hc) r (by rw [if_neg (hc)] at hr; exact hr) H locs ls hP hS hl)
theorem pw_icmp_le {w : Wd} {x : Cz} {cc : ByteArray} {own : String} {d pc : Nat} {lv : List (Option Value)} {rest : List Value} {h : Hp} {X Y : Option Rs} {a b : Int32} {off : Int} {tgt : Nat} (C : Ok w x cc own d) (hdg : decode cc pc = .ok (.if_icmp .le off, 3)) (ht : (pc : Int) + off = (tgt : Int)) (kf : b < a → PW w x (pc + 3) lv rest h X) (kt : ¬ (b < a) → PW w x tgt lv rest h Y) : PW w x pc lv (.int b :: .int a :: rest) h (if b < a then X else Y) := fun r hr H locs ls hP hS hl => lv_icmp_le C.x C.b hdg ht (fun hc => kt (i_nlt hc) r (by rw [if_neg (i_nlt hc)] at hr; exact hr) H locs ls hP hS hl) (fun hc => kf (i_nle hc) r (by rw [if_pos (i_nle hc)] at hr; exact hr) H locs ls hP hS hl)
theorem pw_goto {w : Wd} {x : Cz} {cc : ByteArray} {own : String} {d pc : Nat} {lv : List (Option Value)} {rest : List Value} {h : Hp} {X : Option Rs} {off : Int} {tgt : Nat} (C : Ok w x cc own d) (hdg : decode cc pc = .ok (.goto off, 3)) (ht : (pc : Int) + off = (tgt : Int)) (k : PW w x tgt lv rest h X) : PW w x pc lv rest h X := fun r hr H locs ls hP hS hl => lv_goto C.x C.b hdg ht (k r hr H locs ls hP hS hl)
theorem pw_ite {w : Wd} {x : Cz} {pc : Nat} {lv : List (Option Value)} {h : Hp} {X Y : Option Rs} {st : List Value} {c : Prop} {dc : Decidable c} (kt : c → PW w x pc lv st h X) (kf : ¬ c → PW w x pc lv st h Y) : PW w x pc lv st h (if c then X else Y) := fun r hr => by
  by_cases hc : c
  · rw [if_pos hc] at hr; exact kt hc r hr
  · rw [if_neg hc] at hr; exact kf hc r hr
theorem pw_none {w : Wd} {x : Cz} {pc : Nat} {lv : List (Option Value)} {st : List Value} {h : Hp} : PW w x pc lv st h none := fun r hr => by cases hr
theorem pw_tsIn {w : Wd} {x : Cz} {cc : ByteArray} {own : String} {d pc : Nat} {lv : List (Option Value)} {rest : List Value} {h : Hp} {X : Option Rs} {a : Int32} {dflt lo hi : Int} {offs : Array Int} {len : Nat} {off : Int} {tgt : Nat} (C : Ok w x cc own d) (hdg : decode cc pc = .ok (.tableswitch dflt lo hi offs, len)) (h1 : ¬ a.toInt < lo) (h2 : ¬ hi < a.toInt) (ho : offs[(a.toInt - lo).toNat]? = some off) (ht : (pc : Int) + off = (tgt : Int)) (k : PW w x tgt lv rest h X) : PW w x pc lv (.int a :: rest) h X := fun r hr H locs ls hP hS hl => lv_tableIn C.x C.b hdg h1 h2 ho ht (k r hr H locs ls hP hS hl)
theorem pw_tsOut {w : Wd} {x : Cz} {cc : ByteArray} {own : String} {d pc : Nat} {lv : List (Option Value)} {rest : List Value} {h : Hp} {X : Option Rs} {a : Int32} {dflt lo hi : Int} {offs : Array Int} {len : Nat} {tgt : Nat} (C : Ok w x cc own d) (hdg : decode cc pc = .ok (.tableswitch dflt lo hi offs, len)) (ho : a.toInt < lo ∨ hi < a.toInt) (ht : (pc : Int) + dflt = (tgt : Int)) (k : PW w x tgt lv rest h X) : PW w x pc lv (.int a :: rest) h X := fun r hr H locs ls hP hS hl => lv_tableOut C.x C.b hdg ho ht (k r hr H locs ls hP hS hl)
theorem pw_lks {w : Wd} {x : Cz} {cc : ByteArray} {own : String} {d pc : Nat} {lv : List (Option Value)} {rest : List Value} {h : Hp} {X : Option Rs} {a : Int32} {dflt : Int} {ps : Array (Int × Int)} {len : Nat} {off : Int} {tgt : Nat} (C : Ok w x cc own d) (hdg : decode cc pc = .ok (.lookupswitch dflt ps, len)) (hp : (ps.toList.zip (ps.toList.drop 1)).all (fun (a, next) => a.1 < next.1) = true) (ho : Op.lookupswitch.offset ps.toList dflt a.toInt = off) (ht : (pc : Int) + off = (tgt : Int)) (k : PW w x tgt lv rest h X) : PW w x pc lv (.int a :: rest) h X := fun r hr H locs ls hP hS hl => lv_lookup C.x C.b hdg hp ho ht (k r hr H locs ls hP hS hl)
theorem pw_ldc {w : Wd} {x : Cz} {cc : ByteArray} {own : String} {d pc : Nat} {lv : List (Option Value)} {rest : List Value} {h : Hp} {X : Option Rs} {index : Nat} {v : Int32} (C : Ok w x cc own d) (hconst : Cond.constant own index v ∈ TBL) (hdg : decode cc pc = .ok (.ldc index, 2)) (k : PW w x (pc + 2) lv (.int v :: rest) h X) : PW w x pc lv rest h X := fun r hr H locs ls hP hS hl => lv_ldc C.x C.b C.own (C.ts _ hconst) hdg (k r hr H locs ls hP hS hl)
theorem pw_ldcw {w : Wd} {x : Cz} {cc : ByteArray} {own : String} {d pc : Nat} {lv : List (Option Value)} {rest : List Value} {h : Hp} {X : Option Rs} {index : Nat} {v : Int32} (C : Ok w x cc own d) (hconst : Cond.constant own index v ∈ TBL) (hdg : decode cc pc = .ok (.ldc_w index, 3)) (k : PW w x (pc + 3) lv (.int v :: rest) h X) : PW w x pc lv rest h X := fun r hr H locs ls hP hS hl => lv_ldcw C.x C.b C.own (C.ts _ hconst) hdg (k r hr H locs ls hP hS hl)
theorem pw_ldc2 {w : Wd} {x : Cz} {cc : ByteArray} {own : String} {d pc : Nat} {lv : List (Option Value)} {rest : List Value} {h : Hp} {X : Option Rs} {index : Nat} {v : Int64} (C : Ok w x cc own d) (hconst : Cond.constantLong own index v ∈ TBL) (hdg : decode cc pc = .ok (.ldc2_w index, 3)) (k : PW w x (pc + 3) lv (.long v :: rest) h X) : PW w x pc lv rest h X := fun r hr H locs ls hP hS hl => lv_ldc2 C.x C.b C.own (C.ts _ hconst) hdg (k r hr H locs ls hP hS hl)
