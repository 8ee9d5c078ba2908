/-! ===== a small machine over whole numbers: values, heap, shape ===== -/
abbrev zV : Type := Int ⊕ (Int64 ⊕ Option Nat)
abbrev sI (x : Int) : zV := .inl x
abbrev sL (x : Int64) : zV := .inr (.inl x)
abbrev sR (a : Nat) : zV := .inr (.inr (some a))
abbrev zH : Type := (Nat → Nat → Int) × (Nat → Nat → Int64)
def i32 (x : Int) : Int32 := Int32.ofInt x
abbrev inR (x : Int) : Prop := -2147483648 ≤ x ∧ x ≤ 2147483647
theorem i32_toInt {x : Int} (h : inR x) : (i32 x).toInt = x := Int32.toInt_ofInt_of_le (by have := h.1; omega) (by have := h.2; omega)
theorem i32_in (x : Int32) : inR x.toInt := ⟨by have := x.le_toInt; omega, by have := x.toInt_lt; omega⟩
theorem i32_of (x : Int32) : i32 x.toInt = x := Int32.ofInt_toInt x
theorem i32_add (x y : Int) : i32 (x + y) = i32 x + i32 y := Int32.ofInt_add x y
theorem i32_sub (x y : Int) : i32 (x - y) = i32 x - i32 y := Int32.ofInt_sub x y
theorem i32_mul (x y : Int) : i32 (x * y) = i32 x * i32 y := Int32.ofInt_mul x y
theorem i32_neg (x : Int) : i32 (-x) = -i32 x := Int32.ofInt_neg x
theorem i32_lt {x y : Int} (hx : inR x) (hy : inR y) : i32 x < i32 y ↔ x < y := by rw [Int32.lt_iff_toInt_lt, i32_toInt hx, i32_toInt hy]
theorem i32_le {x y : Int} (hx : inR x) (hy : inR y) : i32 x ≤ i32 y ↔ x ≤ y := by rw [Int32.le_iff_toInt_le, i32_toInt hx, i32_toInt hy]
theorem i32_eq {x y : Int} (hx : inR x) (hy : inR y) : i32 x = i32 y ↔ x = y := by rw [← Int32.toInt_inj, i32_toInt hx, i32_toInt hy]
theorem i32_0 : (0 : Int32) = i32 0 := rfl
theorem inR_0 : inR 0 := by decide
theorem i32_in' {j : Int} {n : Nat} (h0 : 0 ≤ j) (h1 : j < n) (hn : n < 2147483648) : vp_in (i32 j) n := by
  rw [vp_in_iff, i32_toInt ⟨by omega, by omega⟩]
  exact ⟨h0, h1⟩
theorem i32_nat {j : Int} (h0 : 0 ≤ j) (h1 : j < 2147483648) : (i32 j).toNatClampNeg = j.toNat := by
  show (i32 j).toInt.toNat = j.toNat
  rw [i32_toInt ⟨by omega, by omega⟩]
theorem i32_div {x y : Int} (hx : 0 ≤ x ∧ x ≤ 2147483647) (hy : 0 < y ∧ y ≤ 2147483647) : i32 x / i32 y = i32 (x / y) := by
  have h := Int32.ofInt_tdiv (a := x) (b := y) (by have h1 := hx.1; rw [show Int32.minValue.toInt = -2147483648 from rfl]; omega) (by have h1 := hx.2; rw [show Int32.maxValue.toInt = 2147483647 from rfl]; omega) (by have h1 := hy.1; rw [show Int32.minValue.toInt = -2147483648 from rfl]; omega) (by have h1 := hy.2; rw [show Int32.maxValue.toInt = 2147483647 from rfl]; omega)
  rw [Int.tdiv_eq_ediv_of_nonneg hx.1] at h
  exact h.symm
theorem i32_rem {x y : Int} (hx : 0 ≤ x ∧ x ≤ 2147483647) (hy : 0 < y ∧ y ≤ 2147483647) : i32 x - i32 x / i32 y * i32 y = i32 (x % y) := by
  rw [i32_div hx hy, ← i32_mul, ← i32_sub, Int.emod_def, Int.mul_comm]
def cvV (A : Nat → Nat) : zV → Value
  | .inl x => .int (i32 x)
  | .inr (.inl y) => .long y
  | .inr (.inr none) => .null
  | .inr (.inr (some a)) => .ref (A a)
abbrev zSh : Type := Nat × Nat × List (Nat × Nat)
def SHL : List zSh := [
  (0, 8, [(2, 1), (2, 2), (2, 3), (2, 4), (2, 5), (2, 6), (2, 7), (2, 14), (2, 15), (0, 0)]),
  (0, 7, [(2, 16), (0, 0), (2, 17), (2, 18), (0, 0), (0, 0)]),
  (0, 2, [(0, 0), (2, 19), (2, 20), (2, 21), (0, 0), (2, 22), (2, 23), (2, 24), (0, 0), (2, 25), (0, 0), (2, 26), (2, 27), (2, 28), (2, 29), (2, 30), (2, 31), (2, 32), (0, 0), (0, 0)]),
  (0, 4, [(2, 2), (2, 33), (2, 34), (0, 0), (0, 0)]),
  (0, 5, [(2, 2), (2, 3), (2, 35), (2, 36), (2, 37), (2, 38), (1, 0)]),
  (0, 3, [(2, 2), (2, 3), (2, 39), (0, 0), (0, 0), (0, 0), (0, 0)]),
  (0, 1, [(2, 2), (2, 40), (2, 41), (2, 42), (2, 43), (0, 0), (0, 0)]),
  (0, 0, [(2, 44), (0, 0), (2, 45), (0, 0), (0, 0)]),
  (0, 6, [(0, 0), (0, 0), (2, 46), (0, 0)]),
  (0, 6, [(0, 0), (0, 0), (2, 47), (0, 0)]),
  (0, 6, [(0, 0), (0, 0), (2, 48), (0, 0)]),
  (0, 6, [(0, 0), (0, 0), (2, 49), (0, 0)]),
  (0, 6, [(0, 0), (0, 0), (2, 50), (0, 0)]),
  (0, 6, [(0, 0), (0, 0), (2, 51), (0, 0)]),
  (4, 6, [(2, 8), (2, 9), (2, 10), (2, 11), (2, 12), (2, 13)]),
  (1, 6, []),
  (1, 120, []),
  (1, 12, []),
  (1, 12, []),
  (1, 10, []),
  (1, 120, []),
  (1, 120, []),
  (1, 5, []),
  (1, 5, []),
  (1, 5, []),
  (1, 12, []),
  (1, 24, []),
  (1, 24, []),
  (1, 24, []),
  (1, 24, []),
  (1, 24, []),
  (1, 24, []),
  (1, 4, []),
  (1, 1440, []),
  (1, 1440, []),
  (2, 1440, []),
  (2, 1440, []),
  (1, 96, []),
  (1, 24, []),
  (1, 12, []),
  (1, 40, []),
  (1, 40, []),
  (1, 40, []),
  (1, 40, []),
  (1, 50, []),
  (1, 24, []),
  (2, 60, []),
  (2, 60, []),
  (2, 60, []),
  (2, 60, []),
  (2, 60, []),
  (2, 60, []),
  (0, 9, [(2, 53), (2, 54), (2, 55), (2, 56), (0, 0), (0, 0), (2, 57), (0, 0), (0, 0), (2, 58), (2, 59), (2, 60), (2, 61), (2, 62), (0, 0), (0, 0), (0, 0), (2, 63), (2, 64), (2, 65), (0, 0), (0, 0), (2, 66), (2, 67), (2, 68), (0, 0), (0, 0), (0, 0), (2, 69), (2, 70), (2, 71), (0, 0), (0, 0), (0, 0), (0, 0), (2, 72), (2, 73), (0, 0), (2, 74), (0, 0), (0, 0), (0, 0), (0, 0), (2, 75), (0, 0), (2, 76), (2, 77), (0, 0), (0, 0), (0, 0), (2, 78), (2, 79), (2, 80), (2, 81)]),
  (1, 88, []),
  (1, 40, []),
  (1, 40, []),
  (1, 40, []),
  (1, 120, []),
  (1, 10, []),
  (1, 120, []),
  (1, 120, []),
  (1, 12, []),
  (1, 12, []),
  (1, 5, []),
  (1, 5, []),
  (1, 5, []),
  (1, 24, []),
  (1, 24, []),
  (1, 24, []),
  (1, 1440, []),
  (1, 34584, []),
  (3, 17280, []),
  (3, 69120, []),
  (3, 17280, []),
  (1, 12, []),
  (1, 6, []),
  (1, 50, []),
  (1, 24, []),
  (1, 6, []),
  (1, 6, []),
  (2, 360, []),
  (2, 60, [])]
def SHP (c : Nat) : zSh := SHL.getD c (9, 0, [])
def NC : Nat := 82
theorem SHL_len : SHL.length = NC := by decide
theorem SHP_lt {c : Nat} (h : (SHP c).1 ≠ 9) : c < NC := by
  rcases Nat.lt_or_ge c NC with g | g
  · exact g
  · exact absurd (by unfold SHP; rw [List.getD_eq_getElem?_getD, List.getElem?_eq_none (by rw [SHL_len]; exact g)]; rfl) h
theorem SHP_len (c : Nat) : (SHP c).2.1 < 2147483648 := by
  have h : SHL.all (fun q => decide (q.2.1 < 2147483648)) = true := by decide
  unfold SHP
  rw [List.getD_eq_getElem?_getD]
  cases hq : SHL[c]? with
  | none => decide
  | some q => exact of_decide_eq_true (List.all_eq_true.mp h q (List.mem_of_getElem? hq))
def ztbl (a : Nat) : List Int := if a = 90 then [-1, 0, 0, 2, 0, 1, 0] else [1, 10, 11, 2, 20, 0, 0, 0, 0, 30, 0, 0, 0, 41, 40, 0, 0, 0, 0, 50, 60, 0, 61, 0, 0, 70, 0, 0]
def kV (A : Nat → Nat) (h : zH) (c i : Nat) (k : Nat × Nat) : Value := match k.1 with
  | 0 => .int (i32 (h.1 c i))
  | 1 => .long (h.2 c i)
  | _ => .ref (A k.2)
def cellE (T : Nat → ClassId) (A : Nat → Nat) (h : zH) (c : Nat) (s : zSh) : va_E := match s.1 with
  | 0 => .inr (s.2.1, s.2.2.mapIdx (fun i k => kV A h c i k))
  | 1 => .inl (T 0, s.2.1, .inl (fun j => i32 (h.1 c j)))
  | 2 => .inl (T 1, s.2.1, .inr (.inl (h.2 c)))
  | 3 => .inl (T 2, s.2.1, .inl (fun j => i32 (h.1 c j)))
  | _ => .inl (T 3, s.2.1, .inr (.inr (.inr (.inr (fun j => some (A (s.2.2.getD j (2, 0)).2))))))
def tysT (T : Nat → ClassId) : List (ClassId × FieldType) := [(T 0, .int), (T 1, .long), (T 2, .boolean), (T 3, .object RX6)]
def wld (T : Nat → ClassId) (A : Nat → Nat) (h : zH) : va_W := (List.range NC).map (fun c => (A c, cellE T A h c (SHP c)))
theorem wld_at {T : Nat → ClassId} {A : Nat → Nat} {h : zH} {c : Nat} (hc : c < NC) : (wld T A h)[c]? = some (A c, cellE T A h c (SHP c)) := by
  unfold wld
  rw [List.getElem?_map, List.getElem?_range hc]
  rfl
def setI (h : zH) (c i : Nat) (v : Int) : zH := (fun c' i' => if c' = c ∧ i' = i then v else h.1 c' i', h.2)
def setL (h : zH) (c i : Nat) (v : Int64) : zH := (h.1, fun c' i' => if c' = c ∧ i' = i then v else h.2 c' i')
def cpI (h : zH) (a sp b dp n : Nat) : zH := (fun c' i' => if c' = b then va_cpy (h.1 a) (h.1 b) sp dp n i' else h.1 c' i', h.2)
def cpL (h : zH) (a sp b dp n : Nat) : zH := (h.1, fun c' i' => if c' = b then va_cpy (h.2 a) (h.2 b) sp dp n i' else h.2 c' i')
/-- one cell of the world changed, the others as they were -/
theorem wld_set {T : Nat → ClassId} {A : Nat → Nat} {h h' : zH} {c : Nat} (ho : ∀ c', c' ≠ c → h'.1 c' = h.1 c' ∧ h'.2 c' = h.2 c') : (wld T A h).set c (A c, cellE T A h' c (SHP c)) = wld T A h' := by
  apply List.ext_getElem?
  intro i
  rw [List.getElem?_set]
  by_cases hi : c = i
  · subst hi
    rw [if_pos rfl]
    by_cases hc : c < NC
    · rw [if_pos (by unfold wld; rw [List.length_map, List.length_range]; exact hc), wld_at hc]
    · rw [if_neg (by unfold wld; rw [List.length_map, List.length_range]; exact hc), List.getElem?_eq_none (by unfold wld; rw [List.length_map, List.length_range]; omega)]
  · rw [if_neg hi]
    by_cases hc : i < NC
    · rw [wld_at hc, wld_at hc]
      obtain ⟨e1, e2⟩ := ho i (fun e => hi e.symm)
      have : cellE T A h i (SHP i) = cellE T A h' i (SHP i) := by
        unfold cellE
        have ek : ∀ j k, kV A h i j k = kV A h' i j k := by
          intro j k
          unfold kV
          rw [e1, e2]
        simp only [e1, e2, ek]
      rw [this]
    · rw [List.getElem?_eq_none (by unfold wld; rw [List.length_map, List.length_range]; omega), List.getElem?_eq_none (by unfold wld; rw [List.length_map, List.length_range]; omega)]
theorem mapIdx_set {α β : Type} (f g : Nat → α → β) (l : List α) (i : Nat) (v : β) (h1 : ∀ j a, j ≠ i → f j a = g j a) (h2 : ∀ a, l[i]? = some a → g i a = v) : (l.mapIdx f).set i v = l.mapIdx g := by
  apply List.ext_getElem?
  intro j
  rw [List.getElem?_set, List.getElem?_mapIdx, List.getElem?_mapIdx]
  by_cases hj : i = j
  · subst hj
    rw [if_pos rfl, List.length_mapIdx]
    cases hq : l[i]? with
    | none => rw [if_neg (by have := List.getElem?_eq_none_iff.mp hq; omega)]; rfl
    | some a => rw [if_pos (List.getElem?_eq_some_iff.mp hq).1]; simp [h2 a hq]
  · rw [if_neg hj]
    cases hq : l[j]? with
    | none => rfl
    | some a => simp [h1 j a (fun e => hj e.symm)]
/-! ===== locals by their places ===== -/
def lset : List (Option zV) → Nat → Option zV → List (Option zV)
  | [], 0, x => [x]
  | [], n + 1, x => none :: lset [] n x
  | _ :: r, 0, x => x :: r
  | a :: r, n + 1, x => a :: lset r n x
def lkill (lv : List (Option zV)) (i : Nat) : List (Option zV) := match i with
  | 0 => lv
  | j + 1 => match lv[j]? with
    | some (some (.inr (.inl _))) => lset lv j none
    | _ => lv
def st1 (lv : List (Option zV)) (i : Nat) (v : zV) : List (Option zV) := lset (lkill lv i) i (some v)
def st2 (lv : List (Option zV)) (i : Nat) (v : zV) : List (Option zV) := lset (lset (lkill lv i) (i + 1) none) i (some v)
theorem lset_get : ∀ (l : List (Option zV)) (i : Nat) (x : Option zV) (j : Nat) (w : zV), (lset l i x)[j]? = some (some w) → (j = i ∧ x = some w) ∨ (j ≠ i ∧ l[j]? = some (some w))
  | [], 0, x, j, w, h => by
    cases j with
    | zero => exact Or.inl ⟨rfl, by simpa [lset] using h⟩
    | succ j => simp [lset] at h
  | [], n + 1, x, j, w, h => by
    cases j with
    | zero => simp [lset] at h
    | succ j =>
      rcases lset_get [] n x j w (by simpa [lset] using h) with ⟨g1, g2⟩ | ⟨g1, g2⟩
      · exact Or.inl ⟨by omega, g2⟩
      · simp at g2
  | a :: r, 0, x, j, w, h => by
    cases j with
    | zero => exact Or.inl ⟨rfl, by simpa [lset] using h⟩
    | succ j => exact Or.inr ⟨by omega, by simpa [lset] using h⟩
  | a :: r, n + 1, x, j, w, h => by
    cases j with
    | zero => exact Or.inr ⟨by omega, by simpa [lset] using h⟩
    | succ j =>
      rcases lset_get r n x j w (by simpa [lset] using h) with ⟨g1, g2⟩ | ⟨g1, g2⟩
      · exact Or.inl ⟨by omega, g2⟩
      · exact Or.inr ⟨by omega, by simpa using g2⟩
theorem lkill_get (lv : List (Option zV)) (i j : Nat) (w : zV) (h : (lkill lv i)[j]? = some (some w)) : lv[j]? = some (some w) ∧ ¬ (j + 1 = i ∧ ∃ y, w = sL y) := by
  unfold lkill at h
  cases i with
  | zero => exact ⟨h, fun q => by omega⟩
  | succ i =>
    simp only at h
    split at h
    · rcases lset_get _ _ _ _ _ h with ⟨g1, g2⟩ | ⟨g1, g2⟩
      · cases g2
      · exact ⟨g2, fun q => g1 (by omega)⟩
    · rename_i hne
      refine ⟨h, ?_⟩
      rintro ⟨q1, y, rfl⟩
      have : j = i := by omega
      subst this
      exact hne y h
def lvx (n : Nat) (A : Nat → Nat) (ls : Array Slot) (lv : List (Option zV)) : Prop := ls.size = n ∧ lv_wf ls ∧ ∀ (i : Nat) (v : zV), lv[i]? = some (some v) → ls[i]? = some (.val (cvV A v))
def lvL (A : Nat → Nat) (lv : List (Option zV)) : List (Nat × Value) := (List.range lv.length).filterMap (fun j => match lv[j]? with
  | some (some v) => some (j, cvV A v)
  | _ => none)
theorem lvL_mem {A : Nat → Nat} {lv : List (Option zV)} {j : Nat} {v : zV} (h : lv[j]? = some (some v)) : (j, cvV A v) ∈ lvL A lv := by
  unfold lvL
  exact List.mem_filterMap.mpr ⟨j, List.mem_range.mpr (List.getElem?_eq_some_iff.mp h).1, by rw [h]⟩
theorem lvL_of {A : Nat → Nat} {lv : List (Option zV)} {q : Nat × Value} (h : q ∈ lvL A lv) : ∃ v, lv[q.1]? = some (some v) ∧ q.2 = cvV A v := by
  unfold lvL at h
  obtain ⟨j, -, hj⟩ := List.mem_filterMap.mp h
  split at hj
  · rename_i v hv
    cases hj
    exact ⟨v, hv, rfl⟩
  · cases hj
theorem lvx_has {n : Nat} {A : Nat → Nat} {ls : Array Slot} {lv : List (Option zV)} (h : lvx n A ls lv) : lv_has ls n (lvL A lv) := ⟨h.1, h.2.1, fun q hq => by
  obtain ⟨v, h1, h2⟩ := lvL_of hq
  rw [h2]
  exact h.2.2 q.1 v h1⟩
theorem cv_cat (A : Nat → Nat) (v : zV) : (cvV A v).category = 2 ↔ ∃ y, v = sL y := by
  match v with
  | .inl x => exact ⟨fun h => (by cases h), fun ⟨y, h⟩ => (by cases h)⟩
  | .inr (.inl y) => exact ⟨fun _ => ⟨y, rfl⟩, fun _ => rfl⟩
  | .inr (.inr none) => exact ⟨fun h => (by cases h), fun ⟨y, h⟩ => (by cases h)⟩
  | .inr (.inr (some a)) => exact ⟨fun h => (by cases h), fun ⟨y, h⟩ => (by cases h)⟩
theorem lvx_st1 {n : Nat} {A : Nat → Nat} {ls : Array Slot} {lv : List (Option zV)} {i : Nat} {v : zV} (h : lv_has ls n ((i, cvV A v) :: (lvL A lv).filter (fun q => !(q.1 == i) && !(q.1 + 1 == i && q.2.category == 2)))) : lvx n A ls (st1 lv i v) := by
  refine ⟨h.1, h.2.1, fun j w hw => ?_⟩
  rcases lset_get _ _ _ _ _ hw with ⟨rfl, g⟩ | ⟨g1, g2⟩
  · cases g
    exact h.2.2 (j, cvV A v) List.mem_cons_self
  · obtain ⟨g3, g4⟩ := lkill_get _ _ _ _ g2
    refine h.2.2 (j, cvV A w) (List.mem_cons_of_mem _ (List.mem_filter.mpr ⟨lvL_mem g3, ?_⟩))
    by_cases hc : (cvV A w).category = 2
    · have : ¬ j + 1 = i := fun e => g4 ⟨e, (cv_cat A w).mp hc⟩
      simp [g1, this]
    · simp [g1, hc]
theorem lvx_st2 {n : Nat} {A : Nat → Nat} {ls : Array Slot} {lv : List (Option zV)} {i : Nat} {v : zV} (h : lv_has ls n ((i, cvV A v) :: (lvL A lv).filter (fun q => !(q.1 == i) && (!(q.1 == i + 1) && !(q.1 + 1 == i && q.2.category == 2))))) : lvx n A ls (st2 lv i v) := by
  refine ⟨h.1, h.2.1, fun j w hw => ?_⟩
  rcases lset_get _ _ _ _ _ hw with ⟨rfl, g⟩ | ⟨g1, g2⟩
  · cases g
    exact h.2.2 (j, cvV A v) List.mem_cons_self
  · rcases lset_get _ _ _ _ _ g2 with ⟨_, g⟩ | ⟨g5, g6⟩
    · cases g
    · obtain ⟨g3, g4⟩ := lkill_get _ _ _ _ g6
      refine h.2.2 (j, cvV A w) (List.mem_cons_of_mem _ (List.mem_filter.mpr ⟨lvL_mem g3, ?_⟩))
      by_cases hc : (cvV A w).category = 2
      · have : ¬ j + 1 = i := fun e => g4 ⟨e, (cv_cat A w).mp hc⟩
        simp [g1, g5, this]
      · simp [g1, g5, hc]
def entL : List zV → List (Option zV)
  | [] => []
  | .inr (.inl y) :: r => some (.inr (.inl y)) :: none :: entL r
  | v :: r => some v :: entL r
def wsz : List zV → Nat
  | [] => 0
  | .inr (.inl _) :: r => wsz r + 2
  | _ :: r => wsz r + 1
theorem wsz_sl (A : Nat → Nat) : ∀ vs : List zV, (lg_sl (vs.map (cvV A))).length = wsz vs
  | [] => rfl
  | .inl x :: r => by
    show (lg_sl (Value.int (i32 x) :: r.map (cvV A))).length = wsz r + 1
    rw [← wsz_sl A r]
    simp [lg_sl, Value.category]
  | .inr (.inl y) :: r => by
    show (lg_sl (Value.long y :: r.map (cvV A))).length = wsz r + 2
    rw [← wsz_sl A r]
    simp [lg_sl, Value.category]
  | .inr (.inr none) :: r => by
    show (lg_sl (Value.null :: r.map (cvV A))).length = wsz r + 1
    rw [← wsz_sl A r]
    simp [lg_sl, Value.category]
  | .inr (.inr (some a)) :: r => by
    show (lg_sl (Value.ref (A a) :: r.map (cvV A))).length = wsz r + 1
    rw [← wsz_sl A r]
    simp [lg_sl, Value.category]
theorem entL_args (A : Nat → Nat) : ∀ (vs : List zV) (o j : Nat) (w : zV), (entL vs)[j]? = some (some w) → (o + j, cvV A w) ∈ lv_args o (vs.map (cvV A))
  | [], o, j, w, h => by simp [entL] at h
  | .inl x :: r, o, j, w, h => by
    show (o + j, cvV A w) ∈ (o, Value.int (i32 x)) :: lv_args (o + 1) (r.map (cvV A))
    cases j with
    | zero => cases (show some (some (Sum.inl x : zV)) = some (some w) from h); exact List.mem_cons_self
    | succ j => exact List.mem_cons_of_mem _ (by have := entL_args A r (o + 1) j w (by simpa [entL] using h); rwa [show o + 1 + j = o + (j + 1) by omega] at this)
  | .inr (.inl y) :: r, o, j, w, h => by
    show (o + j, cvV A w) ∈ (o, Value.long y) :: lv_args (o + 2) (r.map (cvV A))
    cases j with
    | zero => cases (show some (some (Sum.inr (Sum.inl y) : zV)) = some (some w) from h); exact List.mem_cons_self
    | succ j =>
      cases j with
      | zero => simp [entL] at h
      | succ j => exact List.mem_cons_of_mem _ (by have := entL_args A r (o + 2) j w (by simpa [entL] using h); rwa [show o + 2 + j = o + (j + 1 + 1) by omega] at this)
  | .inr (.inr none) :: r, o, j, w, h => by
    show (o + j, cvV A w) ∈ (o, Value.null) :: lv_args (o + 1) (r.map (cvV A))
    cases j with
    | zero => cases (show some (some (Sum.inr (Sum.inr none) : zV)) = some (some w) from h); exact List.mem_cons_self
    | succ j => exact List.mem_cons_of_mem _ (by have := entL_args A r (o + 1) j w (by simpa [entL] using h); rwa [show o + 1 + j = o + (j + 1) by omega] at this)
  | .inr (.inr (some a)) :: r, o, j, w, h => by
    show (o + j, cvV A w) ∈ (o, Value.ref (A a)) :: lv_args (o + 1) (r.map (cvV A))
    cases j with
    | zero => cases (show some (some (Sum.inr (Sum.inr (some a)) : zV)) = some (some w) from h); exact List.mem_cons_self
    | succ j => exact List.mem_cons_of_mem _ (by have := entL_args A r (o + 1) j w (by simpa [entL] using h); rwa [show o + 1 + j = o + (j + 1) by omega] at this)
