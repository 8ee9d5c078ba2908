/-! ===== a told number changes in both sides ===== -/
def rowOK (w : Int) (rc o j : Nat) : Prop := (w = 0 ∧ rc = 29 ∧ o = 12 ∧ j < 24) ∨ (w = 1 ∧ rc = 30 ∧ o = 36 ∧ j < 24) ∨ (w = 2 ∧ rc = 31 ∧ o = 60 ∧ j < 24) ∨ (w = 3 ∧ rc = 25 ∧ o = 0 ∧ j < 12) ∨ (w = 4 ∧ rc = 32 ∧ o = 84 ∧ j < 4)
theorem rowOK_of {w j : Int} (hw : 0 ≤ w ∧ w ≤ 4) (hj : 0 ≤ j ∧ j < numW w) : ∃ rc o : Nat, rowOK w rc o j.toNat ∧ offW w = o := by
  unfold numW at hj
  unfold offW rowOK
  rcases (by omega : w = 0 ∨ w = 1 ∨ w = 2 ∨ w = 3 ∨ w = 4) with rfl | rfl | rfl | rfl | rfl
  · rw [if_neg (by decide), if_neg (by decide)] at hj
    exact ⟨29, 12, Or.inl ⟨rfl, rfl, rfl, by omega⟩, by decide⟩
  · rw [if_neg (by decide), if_neg (by decide)] at hj
    exact ⟨30, 36, Or.inr (Or.inl ⟨rfl, rfl, rfl, by omega⟩), by decide⟩
  · rw [if_neg (by decide), if_neg (by decide)] at hj
    exact ⟨31, 60, Or.inr (Or.inr (Or.inl ⟨rfl, rfl, rfl, by omega⟩)), by decide⟩
  · rw [if_pos rfl] at hj
    exact ⟨25, 0, Or.inr (Or.inr (Or.inr (Or.inl ⟨rfl, rfl, rfl, by omega⟩))), by decide⟩
  · rw [if_neg (by decide), if_pos rfl] at hj
    exact ⟨32, 84, Or.inr (Or.inr (Or.inr (Or.inr ⟨rfl, rfl, rfl, by omega⟩))), by decide⟩
theorem inW_of {w v : Int} (hv : inW w v) : (w = 0 ∨ w = 3 → 0 ≤ v ∧ v ≤ 999) ∧ (w = 1 ∨ w = 2 → 0 ≤ v ∧ v ≤ 1439) ∧ (w = 4 → 50 ≤ v ∧ v ≤ 400) := by
  unfold inW at hv
  refine ⟨fun q => ?_, fun q => ?_, fun q => ?_⟩
  · rw [if_neg (by omega), if_neg (by omega)] at hv
    exact hv
  · rw [if_pos q] at hv
    exact hv
  · rw [if_neg (by omega), if_pos q] at hv
    exact hv
def chgB : Nat → Bool := fun c => c == 6 || c == 40 || c == 41 || c == 42 || c == 43 || c == 52 || c == 53 || c == 54 || c == 55 || c == 56 || c == 25 || c == 29 || c == 30 || c == 31 || c == 32
theorem Inv_row {h g : zH} {w v : Int} {rc o j : Nat} (hI : Inv2 h) (hr : rowOK w rc o j) (hv : inW w v) (e : ∀ c, chgB c = false → g.1 c = h.1 c) (eL : g.2 = h.2) (e52 : ∀ i, i ≠ 4 → i ≠ 5 → g.1 52 i = h.1 52 i)
    (eg : ∀ c i, c = 25 ∨ c = 29 ∨ c = 30 ∨ c = 31 ∨ c = 32 → g.1 c i = if c = rc ∧ i = j then v else h.1 c i) (e53 : ∀ i, g.1 53 i = if i = o + j then v else h.1 53 i) (hc : Ichg g) : Inv2 g := by
  obtain ⟨⟨⟨⟨hv1, hv2, hv3, hv4, hv5⟩, v2, v3, v4, v5, v6, v7⟩, ⟨⟨x1, x2, x3, x4, x5, x6⟩, f1, f2, f3, f4, f5, f6⟩, i3, i4, i5, -, i7, i8, i9, i10⟩, i11⟩ := hI
  obtain ⟨w1, w2, w3⟩ := inW_of hv
  unfold rowOK at hr
  have k2 := e 2 rfl
  have rowE : ∀ c i x : Nat, c = 25 ∨ c = 29 ∨ c = 30 ∨ c = 31 ∨ c = 32 → ((c = rc ∧ i = j) ↔ x = o + j) → h.1 53 x = h.1 c i → g.1 53 x = g.1 c i := by
    intro c i x hcc hq hh
    rw [eg c i hcc, e53 x]
    by_cases q : c = rc ∧ i = j
    · rw [if_pos q, if_pos (hq.mp q)]
    · rw [if_neg q, if_neg (fun z => q (hq.mpr z)), hh]
  have rowB : ∀ (c i : Nat) (lo hi : Int), c = 25 ∨ c = 29 ∨ c = 30 ∨ c = 31 ∨ c = 32 → (c = rc → lo ≤ v ∧ v ≤ hi) → lo ≤ h.1 c i ∧ h.1 c i ≤ hi → lo ≤ g.1 c i ∧ g.1 c i ≤ hi := by
    intro c i lo hi hcc hq hh
    rw [eg c i hcc]
    by_cases q : c = rc ∧ i = j
    · rw [if_pos q]
      exact hq q.1
    · rw [if_neg q]
      exact hh
  refine ⟨⟨⟨⟨?_, ?_, ?_, ?_, ?_⟩, ?_, ?_, fun p hp => ?_, ?_, fun y hy => ⟨?_, ?_, ?_⟩, fun s hs => ?_⟩, ⟨⟨?_, ?_, ?_, ?_, ?_, ?_⟩, ?_, ?_, ?_, fun i hi => ?_, fun i hi => ⟨?_, ?_, ?_, ?_, ?_, ?_⟩, fun i hi => ?_⟩, ?_, ?_, ?_, hc, ?_, ?_, ?_, ?_⟩, ?_⟩
  · rw [k2]; exact hv1
  · rw [k2]; exact hv2
  · rw [k2]; exact hv3
  · rw [k2]; exact hv4
  · rw [k2]; exact hv5
  · unfold Vt at *
    rw [k2, e 19 rfl, e 20 rfl, e 21 rfl]; exact v2
  · unfold Vw at *
    rw [k2, e 22 rfl, e 23 rfl, e 24 rfl]; exact v3
  · exact rowB 25 p 0 999 (by omega) (fun q => w1 (by omega)) (v4 p hp)
  · unfold Vy at *
    rw [k2, e 26 rfl, e 27 rfl, e 28 rfl]; exact v5
  · exact rowB 29 y 0 999 (by omega) (fun q => w1 (by omega)) (v6 y hy).1
  · exact rowB 30 y 0 1439 (by omega) (fun q => w2 (by omega)) (v6 y hy).2.1
  · exact rowB 31 y 0 1439 (by omega) (fun q => w2 (by omega)) (v6 y hy).2.2
  · exact rowB 32 s 50 400 (by omega) (fun q => w3 (by omega)) (v7 s hs)
  · rw [k2, e52 8 (by omega) (by omega)]; exact x1
  · rw [k2, e52 16 (by omega) (by omega)]; exact x2
  · rw [k2, e52 20 (by omega) (by omega)]; exact x3
  · rw [k2, e52 21 (by omega) (by omega)]; exact x4
  · rw [k2, e52 25 (by omega) (by omega)]; exact x5
  · rw [k2, e52 26 (by omega) (by omega)]; exact x6
  · rw [e 58 rfl, e 19 rfl]; exact f1
  · rw [e 59 rfl, e 60 rfl, e 20 rfl, e 21 rfl]; exact f2
  · rw [e 63 rfl, e 64 rfl, e 65 rfl, e 22 rfl, e 23 rfl, e 24 rfl]; exact f3
  · exact rowE 25 i i (by omega) (by omega) (f4 i hi)
  · rw [e 66 rfl, e 26 rfl]; exact (f5 i hi).1
  · rw [e 67 rfl, e 27 rfl]; exact (f5 i hi).2.1
  · rw [e 68 rfl, e 28 rfl]; exact (f5 i hi).2.2.1
  · exact rowE 29 i (12 + i) (by omega) (by omega) (f5 i hi).2.2.2.1
  · exact rowE 30 i (36 + i) (by omega) (by omega) (f5 i hi).2.2.2.2.1
  · exact rowE 31 i (60 + i) (by omega) (by omega) (f5 i hi).2.2.2.2.2
  · exact rowE 32 i (84 + i) (by omega) (by omega) (f6 i hi)
  · exact Isea_c i3 (fun c a b => e c (by simp [chgB]; omega)) k2 ⟨by rw [e 3 rfl], by rw [e 3 rfl]⟩ (e 33 rfl) (e 34 rfl)
  · unfold Itape at *
    rw [e 1 rfl, e 16 rfl, e 57 rfl, e52 7 (by omega) (by omega)]; exact i4
  · unfold Iplan at *
    rw [k2, e 5 rfl, e 39 rfl, e 74 rfl, e52 37 (by omega) (by omega)]; exact i5
  · unfold Imark at *
    rw [k2, e 0 rfl, e 15 rfl, e 75 rfl, e52 42 (by omega) (by omega)]; exact i7
  · unfold Ibod at *
    rw [e 7 rfl, e 44 rfl, e 45 rfl, e 76 rfl, e 77 rfl, e52 44 (by omega) (by omega), e52 47 (by omega) (by omega)]; exact i8
  · exact Ishf_c i9 (fun k hk => ⟨e _ (by simp [chgB]; omega), by rw [eL]⟩) (by rw [e 7 rfl]) (e 78 rfl) (e 79 rfl) (by rw [eL])
  · unfold Imisc at *
    rw [e52 31 (by omega) (by omega), e52 32 (by omega) (by omega), e52 34 (by omega) (by omega)]; exact i10
  · rw [e52 33 (by omega) (by omega)]; exact i11
theorem c_X2_rowOf {d : Nat} (h : zH) (w : Int) (rc o j : Nat) (hr : rowOK w rc o j) : zC d k_X2_rowOf [sR 2, sI w] h (fun x g => h = g ∧ x = some (sR rc)) := by
  refine zC_of (by decide +kernel) (Nat.le_of_ble_eq_true rfl) (fun X C E => zrun_sound t_X2_rowOf C E [] 60 _ _ _ _ ?_)
  unfold rowOK at hr
  refine And.intro (by omega) (And.intro (fun c => ?_) ⟨fun c => ?_, fun c => ?_, fun c => ?_, fun c => ?_, trivial⟩)
  · have : rc = 32 := by omega
    subst this
    exact And.intro rfl rfl
  · have : rc = 29 := by omega
    subst this
    exact And.intro rfl rfl
  · have : rc = 30 := by omega
    subst this
    exact And.intro rfl rfl
  · have : rc = 31 := by omega
    subst this
    exact And.intro rfl rfl
  · have : rc = 25 := by omega
    subst this
    exact And.intro rfl rfl
