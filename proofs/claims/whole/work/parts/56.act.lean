/-! ===== acts ===== -/
def ntG (ca cc ci : Nat) (h : zH) (b : Int) : zH := setI (if h.1 cc ci < 24 then setI h ca (h.1 cc ci).toNat b else h) cc ci (h.1 cc ci + 1)
def ntL (ca cc ci : Nat) (h : zH) (l : List Int) : zH := l.foldl (ntG ca cc ci) h
theorem ntG_ne {ca cc ci c : Nat} {h : zH} {b : Int} (h1 : c ≠ ca) (h2 : c ≠ cc) : (ntG ca cc ci h b).1 c = h.1 c := by
  unfold ntG
  rw [setI_ne h2]
  split
  · rw [setI_ne h1]
  · rfl
theorem ntG_cc {ca cc ci i : Nat} {h : zH} {b : Int} (h1 : cc ≠ ca) (h2 : i ≠ ci) : (ntG ca cc ci h b).1 cc i = h.1 cc i := by
  unfold ntG
  rw [setI_n2 h2]
  split
  · rw [setI_ne h1]
  · rfl
theorem ntG_ran {ca cc ci : Nat} {h : zH} {b : Int} : (ntG ca cc ci h b).1 cc ci = h.1 cc ci + 1 := by
  unfold ntG
  rw [setI_eq]
theorem ntG_2 {ca cc ci : Nat} {h : zH} {b : Int} : (ntG ca cc ci h b).2 = h.2 := by
  unfold ntG
  split <;> rfl
theorem ntG_ca {ca cc ci i : Nat} {h : zH} {b : Int} (h1 : ca ≠ cc) (hr : 0 ≤ h.1 cc ci) (hi : i < 24) : (ntG ca cc ci h b).1 ca i = if (i : Int) = h.1 cc ci then b else h.1 ca i := by
  unfold ntG
  rw [setI_ne h1]
  by_cases q : h.1 cc ci < 24
  · rw [if_pos q, setI_at]
    by_cases e : (i : Int) = h.1 cc ci
    · rw [if_pos ⟨rfl, by omega⟩, if_pos e]
    · rw [if_neg (by omega), if_neg e]
  · rw [if_neg q, if_neg (by omega)]
theorem ntL_ne {ca cc ci c : Nat} (h1 : c ≠ ca) (h2 : c ≠ cc) : ∀ (l : List Int) (h : zH), (ntL ca cc ci h l).1 c = h.1 c
  | [], _ => rfl
  | b :: l, h => (ntL_ne h1 h2 l (ntG ca cc ci h b)).trans (ntG_ne h1 h2)
theorem ntL_cc {ca cc ci i : Nat} (h1 : cc ≠ ca) (h2 : i ≠ ci) : ∀ (l : List Int) (h : zH), (ntL ca cc ci h l).1 cc i = h.1 cc i
  | [], _ => rfl
  | b :: l, h => (ntL_cc h1 h2 l (ntG ca cc ci h b)).trans (ntG_cc h1 h2)
theorem ntL_ran {ca cc ci : Nat} : ∀ (l : List Int) (h : zH), (ntL ca cc ci h l).1 cc ci = h.1 cc ci + (l.length : Int)
  | [], _ => (Int.add_zero _).symm
  | b :: l, h => by
    have := ntL_ran (ca := ca) (cc := cc) (ci := ci) l (ntG ca cc ci h b)
    rw [ntG_ran] at this
    refine this.trans ?_
    rw [List.length_cons]
    omega
theorem ntL_2 {ca cc ci : Nat} : ∀ (l : List Int) (h : zH), (ntL ca cc ci h l).2 = h.2
  | [], _ => rfl
  | b :: l, h => (ntL_2 l (ntG ca cc ci h b)).trans ntG_2
theorem ntL_app {ca cc ci : Nat} (l l' : List Int) (h : zH) : ntL ca cc ci (ntL ca cc ci h l) l' = ntL ca cc ci h (l ++ l') := by
  unfold ntL
  rw [List.foldl_append]
theorem ntL_at {ca cc ci : Nat} (h1 : ca ≠ cc) : ∀ (l : List Int) (h : zH) (r i : Nat), h.1 cc ci = r → i < 24 → (ntL ca cc ci h l).1 ca i = if r ≤ i ∧ i < r + l.length then l.getD (i - r) 0 else h.1 ca i
  | [], h, r, i, _, _ => by
    rw [if_neg (by rw [List.length_nil]; omega)]
    rfl
  | b :: l, h, r, i, hr, hi => by
    have := ntL_at h1 l (ntG ca cc ci h b) (r + 1) i (by rw [ntG_ran, hr]; rfl) hi
    refine this.trans ?_
    rw [ntG_ca h1 (by omega) hi, hr, List.length_cons]
    by_cases e : i = r
    · subst e
      rw [if_neg (by omega), if_pos rfl, if_pos (by omega), Nat.sub_self]
      rfl
    · rw [if_neg (by omega : ¬ (i : Int) = (r : Int))]
      by_cases q : r + 1 ≤ i ∧ i < r + 1 + l.length
      · rw [if_pos q, if_pos (by omega), show i - r = (i - (r + 1)) + 1 by omega]
        rfl
      · rw [if_neg q, if_neg (by omega)]
abbrev nC : zH → Int → zH := ntG 45 7 3
abbrev nCL : zH → List Int → zH := ntL 45 7 3
abbrev nM : zH → Int → zH := ntG 77 52 47
abbrev nML : zH → List Int → zH := ntL 77 52 47
def lGo (K : Int) : List Int := if K = 5 then [60, 20, 1] else if K = 1 then [20, 1] else [1]
def vGo (K N x : Int) : Int := if K = 5 then (x + N + 3) * 2 else if K = 1 then x + N + 3 else x + N
def lWe (K : Int) : List Int := if K = 3 then [40, 11] else if K = 5 then 61 :: 11 :: lGo K else [11]
def vWe (K N x : Int) : Int := if K = 3 then xor32 x N * 3 else if K = 5 then xor32 x N + vGo K N 2 else xor32 x N
def lWa (K : Int) : List Int := if K = 3 then 41 :: 30 :: 10 :: lGo K else if K = 2 then 30 :: 10 :: lGo K else if K = 6 then 70 :: (10 :: lGo K ++ lWe K) else 10 :: lGo K
def vWa (K N x : Int) : Int := if K = 3 then -(vGo K N (x + 1) * 2) else if K = 2 then -(vGo K N x * 2) else if K = 6 then vGo K N x * 2 - vWe K N 2 else vGo K N x * 2
def lTe (K : Int) : List Int := if K = 4 then 50 :: 2 :: (lWa K ++ lWe K) else 2 :: (lWa K ++ lWe K)
def vTe (K N x : Int) : Int := if K = 4 then xor32 (vWa K N x - vWe K N 1) 5 else vWa K N x - vWe K N 1
/-! the class -/
def bodOK (h : zH) (K N : Int) : Prop := h.1 7 4 = N ∧ (0 ≤ N ∧ N < 50) ∧ h.1 44 N.toNat = K ∧ (0 ≤ K ∧ K ≤ 6) ∧ 0 ≤ h.1 7 3
theorem bodOK_L {h : zH} {K N : Int} {l : List Int} (hb : bodOK h K N) : bodOK (nCL h l) K N := by
  obtain ⟨a, b, c, e, f⟩ := hb
  refine ⟨(ntL_cc (by decide) (by decide) l h).trans a, b, ?_, e, ?_⟩
  · rw [ntL_ne (by decide) (by decide) l h]
    exact c
  · rw [ntL_ran]
    omega
theorem c_note {d : Nat} (h : zH) (b : Int) (hr : 0 ≤ h.1 7 3 ∧ h.1 7 3 ≤ 1000) : zC d k_X0_note [sR 7, sI b] h (fun o g => o = none ∧ g = nC h b) := by
  refine zC_of (by decide +kernel) (Nat.le_of_ble_eq_true rfl) (fun X C E => zrun_sound t_X0_note C E [] 60 _ _ _ _ ?_)
  unfold nC ntG
  refine And.intro (by omega) (And.intro (by omega) (And.intro (fun c => ?_) (fun c => ?_)))
  · rw [if_neg (Int.not_lt.mpr c)]
    exact And.intro rfl rfl
  · rw [if_pos (Int.not_le.mp c)]
    exact And.intro hr.1 (And.intro (Int.not_le.mp c) (And.intro rfl rfl))
def rcC (K N c : Int) (D : Nat) (b : Int) (l : List Int) (V : Int → Int) : Prop := ∀ (d : Nat) (h : zH) (x dep : Int), D ≤ d → bodOK h K N → h.1 7 3 + (l.length : Int) ≤ 1000 → 0 ≤ dep → dep + c ≤ 20 → zC d k_X0_run [sR 7, sI b, sI x, sI dep] h (fun o g => g = nCL h l ∧ o = some (sI (V x)))
def fcC (K N c : Int) (D : Nat) (k a : Int) (l : List Int) (V : Int → Int) : Prop := ∀ (d : Nat) (h : zH) (x dep : Int), D ≤ d → bodOK h K N → h.1 7 3 + (l.length : Int) ≤ 1000 → 0 ≤ dep → dep + c ≤ 20 → zC d k_X0_from [sR 7, sI k, sI a, sI x, sI dep] h (fun o g => g = nCL h l ∧ o = some (sI (V x)))
def ocC (K N c : Int) (D : Nat) (a : Int) (l : List Int) (V : Int → Int) : Prop := ∀ (d : Nat) (h : zH) (x dep : Int), D ≤ d → bodOK h K N → h.1 7 3 + (l.length : Int) ≤ 1000 → 0 ≤ dep → dep + c ≤ 20 → zC d k_X0_own [sR 7, sI a, sI x, sI dep] h (fun o g => g = nCL h l ∧ o = some (sI (V x)))
def ownB (k a b : Int) : Prop := (k = 0 ∧ a = 0 ∧ b = 1) ∨ (k = 0 ∧ a = 1 ∧ b = 10) ∨ (k = 0 ∧ a = 2 ∧ b = 11) ∨ (k = 0 ∧ a = 3 ∧ b = 2) ∨ (k = 1 ∧ a = 0 ∧ b = 20) ∨ (k = 1 ∧ a = 1 ∧ b = 10) ∨ (k = 1 ∧ a = 2 ∧ b = 11) ∨ (k = 1 ∧ a = 3 ∧ b = 2) ∨ (k = 2 ∧ a = 0 ∧ b = 1) ∨ (k = 2 ∧ a = 1 ∧ b = 30) ∨ (k = 2 ∧ a = 2 ∧ b = 11) ∨ (k = 2 ∧ a = 3 ∧ b = 2) ∨ (k = 3 ∧ a = 0 ∧ b = 1) ∨ (k = 3 ∧ a = 1 ∧ b = 41) ∨ (k = 3 ∧ a = 2 ∧ b = 40) ∨ (k = 3 ∧ a = 3 ∧ b = 2) ∨ (k = 4 ∧ a = 0 ∧ b = 1) ∨ (k = 4 ∧ a = 1 ∧ b = 10) ∨ (k = 4 ∧ a = 2 ∧ b = 11) ∨ (k = 4 ∧ a = 3 ∧ b = 50) ∨ (k = 5 ∧ a = 0 ∧ b = 60) ∨ (k = 5 ∧ a = 1 ∧ b = 10) ∨ (k = 5 ∧ a = 2 ∧ b = 61) ∨ (k = 5 ∧ a = 3 ∧ b = 2) ∨ (k = 6 ∧ a = 0 ∧ b = 1) ∨ (k = 6 ∧ a = 1 ∧ b = 70) ∨ (k = 6 ∧ a = 2 ∧ b = 11) ∨ (k = 6 ∧ a = 3 ∧ b = 2)
set_option maxHeartbeats 4000000 in
theorem c_from {K N c : Int} {D : Nat} {k a b : Int} {l : List Int} {V : Int → Int} (hb : ownB k a b) (hc : 0 ≤ c) (hr : rcC K N c D b l V) : fcC K N (c + 1) (D + 1) k a l V := by
  intro d h x dep hD hbo hran h0 hdep
  refine zC_of (by decide +kernel) (Nat.le_of_ble_eq_true rfl) (fun X C E => ?_)
  have stop : ∀ t i : Int, 0 ≤ a → a ≤ 3 → 0 ≤ t → t ≤ 6 → 0 ≤ i → i < 7 → (ztbl 91).getD (4 * t + a).toNat 0 = b → 1 ≤ b → b ≤ 70 → zJ X 6 [some (sR 7), some (sI k), some (sI a), some (sI x), some (sI dep), some (sI t), some (sI i)] [] h := by
    intro t i a0 a1 t0 t1 i0 i1 et b1 b2
    have h45 : zJ X 45 [some (sR 7), some (sI k), some (sI a), some (sI x), some (sI dep), some (sI t), some (sI i)] [] h := by
      refine zrun_sound t_X0_from C E [] 60 _ _ _ _ ?_
      refine And.intro (by omega) (And.intro (fun z => absurd z (by omega)) (fun _ => ?_))
      refine And.intro (by omega) (And.intro (by omega) (And.intro (fun _ => ?_) (fun z => absurd (by omega) z)))
      refine Or.inr (And.intro rfl (And.intro (by omega) (And.intro (by omega) ?_)))
      rw [et]
      refine zcall_i (d' := d - 1) (by omega) (hr (d - 1) h x (dep + 1) (by omega) hbo hran (by omega) (by omega)) ?_
      rintro _ _ ⟨rfl, rfl⟩
      exact And.intro rfl rfl
    refine zrun_sound t_X0_from C E [45] 60 _ _ _ _ ?_
    refine And.intro (by omega) (And.intro (by omega) (And.intro (fun z => absurd z (by omega)) (fun _ => ?_)))
    refine And.intro (by omega) (And.intro (fun _ => h45) (fun _ => ?_))
    refine Or.inr (And.intro rfl (And.intro (by omega) (And.intro (by omega) ?_)))
    rw [et]
    exact And.intro (by omega) (And.intro (fun _ => h45) (fun z => absurd z (by omega)))
  have step : ∀ t i nx : Int, 0 ≤ a → a ≤ 3 → 0 < t → t ≤ 6 → 0 ≤ i → i < 7 → (ztbl 91).getD (4 * t + a).toNat 0 = 0 → (ztbl 90).getD t.toNat 0 = nx → zJ X 6 [some (sR 7), some (sI k), some (sI a), some (sI x), some (sI dep), some (sI nx), some (sI (i + 1))] [] h → zJ X 6 [some (sR 7), some (sI k), some (sI a), some (sI x), some (sI dep), some (sI t), some (sI i)] [] h := by
    intro t i nx a0 a1 t0 t1 i0 i1 et en hj
    refine zrun_sound t_X0_from C E [6, 45] 60 _ _ _ _ ?_
    refine And.intro (by omega) (And.intro (by omega) (And.intro (fun z => absurd z (by omega)) (fun _ => ?_)))
    refine And.intro (by omega) (And.intro (fun z => absurd z (by omega)) (fun _ => ?_))
    refine Or.inr (And.intro rfl (And.intro (by omega) (And.intro (by omega) ?_)))
    rw [et]
    refine And.intro (by decide) (And.intro (fun z => absurd rfl z) (fun _ => ?_))
    refine Or.inl (And.intro rfl (And.intro (by omega) (And.intro (by omega) ?_)))
    rw [en]
    exact hj
  refine zrun_sound t_X0_from C E [6] 60 _ _ _ _ ?_
  clear hr E C hran hbo
  unfold ownB at hb
  rcases hb with ⟨rfl, rfl, rfl⟩ | ⟨rfl, rfl, rfl⟩ | ⟨rfl, rfl, rfl⟩ | ⟨rfl, rfl, rfl⟩ | ⟨rfl, rfl, rfl⟩ | ⟨rfl, rfl, rfl⟩ | ⟨rfl, rfl, rfl⟩ | ⟨rfl, rfl, rfl⟩ | ⟨rfl, rfl, rfl⟩ | ⟨rfl, rfl, rfl⟩ | ⟨rfl, rfl, rfl⟩ | ⟨rfl, rfl, rfl⟩ | ⟨rfl, rfl, rfl⟩ | ⟨rfl, rfl, rfl⟩ | ⟨rfl, rfl, rfl⟩ | ⟨rfl, rfl, rfl⟩ | ⟨rfl, rfl, rfl⟩ | ⟨rfl, rfl, rfl⟩ | ⟨rfl, rfl, rfl⟩ | ⟨rfl, rfl, rfl⟩ | ⟨rfl, rfl, rfl⟩ | ⟨rfl, rfl, rfl⟩ | ⟨rfl, rfl, rfl⟩ | ⟨rfl, rfl, rfl⟩ | ⟨rfl, rfl, rfl⟩ | ⟨rfl, rfl, rfl⟩ | ⟨rfl, rfl, rfl⟩ | ⟨rfl, rfl, rfl⟩
  · exact stop 0 0 (by decide) (by decide) (by decide) (by decide) (by decide) (by decide) rfl (by decide) (by decide)
  · exact stop 0 0 (by decide) (by decide) (by decide) (by decide) (by decide) (by decide) rfl (by decide) (by decide)
  · exact stop 0 0 (by decide) (by decide) (by decide) (by decide) (by decide) (by decide) rfl (by decide) (by decide)
  · exact stop 0 0 (by decide) (by decide) (by decide) (by decide) (by decide) (by decide) rfl (by decide) (by decide)
  · exact stop 1 0 (by decide) (by decide) (by decide) (by decide) (by decide) (by decide) rfl (by decide) (by decide)
  · exact step 1 0 0 (by decide) (by decide) (by decide) (by decide) (by decide) (by decide) rfl rfl <| stop 0 1 (by decide) (by decide) (by decide) (by decide) (by decide) (by decide) rfl (by decide) (by decide)
  · exact step 1 0 0 (by decide) (by decide) (by decide) (by decide) (by decide) (by decide) rfl rfl <| stop 0 1 (by decide) (by decide) (by decide) (by decide) (by decide) (by decide) rfl (by decide) (by decide)
  · exact step 1 0 0 (by decide) (by decide) (by decide) (by decide) (by decide) (by decide) rfl rfl <| stop 0 1 (by decide) (by decide) (by decide) (by decide) (by decide) (by decide) rfl (by decide) (by decide)
  · exact step 2 0 0 (by decide) (by decide) (by decide) (by decide) (by decide) (by decide) rfl rfl <| stop 0 1 (by decide) (by decide) (by decide) (by decide) (by decide) (by decide) rfl (by decide) (by decide)
  · exact stop 2 0 (by decide) (by decide) (by decide) (by decide) (by decide) (by decide) rfl (by decide) (by decide)
  · exact step 2 0 0 (by decide) (by decide) (by decide) (by decide) (by decide) (by decide) rfl rfl <| stop 0 1 (by decide) (by decide) (by decide) (by decide) (by decide) (by decide) rfl (by decide) (by decide)
  · exact step 2 0 0 (by decide) (by decide) (by decide) (by decide) (by decide) (by decide) rfl rfl <| stop 0 1 (by decide) (by decide) (by decide) (by decide) (by decide) (by decide) rfl (by decide) (by decide)
  · exact step 3 0 2 (by decide) (by decide) (by decide) (by decide) (by decide) (by decide) rfl rfl <| step 2 1 0 (by decide) (by decide) (by decide) (by decide) (by decide) (by decide) rfl rfl <| stop 0 2 (by decide) (by decide) (by decide) (by decide) (by decide) (by decide) rfl (by decide) (by decide)
  · exact stop 3 0 (by decide) (by decide) (by decide) (by decide) (by decide) (by decide) rfl (by decide) (by decide)
  · exact stop 3 0 (by decide) (by decide) (by decide) (by decide) (by decide) (by decide) rfl (by decide) (by decide)
  · exact step 3 0 2 (by decide) (by decide) (by decide) (by decide) (by decide) (by decide) rfl rfl <| step 2 1 0 (by decide) (by decide) (by decide) (by decide) (by decide) (by decide) rfl rfl <| stop 0 2 (by decide) (by decide) (by decide) (by decide) (by decide) (by decide) rfl (by decide) (by decide)
  · exact step 4 0 0 (by decide) (by decide) (by decide) (by decide) (by decide) (by decide) rfl rfl <| stop 0 1 (by decide) (by decide) (by decide) (by decide) (by decide) (by decide) rfl (by decide) (by decide)
  · exact step 4 0 0 (by decide) (by decide) (by decide) (by decide) (by decide) (by decide) rfl rfl <| stop 0 1 (by decide) (by decide) (by decide) (by decide) (by decide) (by decide) rfl (by decide) (by decide)
  · exact step 4 0 0 (by decide) (by decide) (by decide) (by decide) (by decide) (by decide) rfl rfl <| stop 0 1 (by decide) (by decide) (by decide) (by decide) (by decide) (by decide) rfl (by decide) (by decide)
  · exact stop 4 0 (by decide) (by decide) (by decide) (by decide) (by decide) (by decide) rfl (by decide) (by decide)
  · exact stop 5 0 (by decide) (by decide) (by decide) (by decide) (by decide) (by decide) rfl (by decide) (by decide)
  · exact step 5 0 1 (by decide) (by decide) (by decide) (by decide) (by decide) (by decide) rfl rfl <| step 1 1 0 (by decide) (by decide) (by decide) (by decide) (by decide) (by decide) rfl rfl <| stop 0 2 (by decide) (by decide) (by decide) (by decide) (by decide) (by decide) rfl (by decide) (by decide)
  · exact stop 5 0 (by decide) (by decide) (by decide) (by decide) (by decide) (by decide) rfl (by decide) (by decide)
  · exact step 5 0 1 (by decide) (by decide) (by decide) (by decide) (by decide) (by decide) rfl rfl <| step 1 1 0 (by decide) (by decide) (by decide) (by decide) (by decide) (by decide) rfl rfl <| stop 0 2 (by decide) (by decide) (by decide) (by decide) (by decide) (by decide) rfl (by decide) (by decide)
  · exact step 6 0 0 (by decide) (by decide) (by decide) (by decide) (by decide) (by decide) rfl rfl <| stop 0 1 (by decide) (by decide) (by decide) (by decide) (by decide) (by decide) rfl (by decide) (by decide)
  · exact stop 6 0 (by decide) (by decide) (by decide) (by decide) (by decide) (by decide) rfl (by decide) (by decide)
  · exact step 6 0 0 (by decide) (by decide) (by decide) (by decide) (by decide) (by decide) rfl rfl <| stop 0 1 (by decide) (by decide) (by decide) (by decide) (by decide) (by decide) rfl (by decide) (by decide)
  · exact step 6 0 0 (by decide) (by decide) (by decide) (by decide) (by decide) (by decide) rfl rfl <| stop 0 1 (by decide) (by decide) (by decide) (by decide) (by decide) (by decide) rfl (by decide) (by decide)
theorem c_own {K N c : Int} {D : Nat} {a : Int} {l : List Int} {V : Int → Int} (hf : fcC K N c D K a l V) : ocC K N c (D + 1) a l V := by
  intro d h x dep hD hbo hran h0 hdep
  have hb2 := hbo
  obtain ⟨e1, e2, e3, e4, e5⟩ := hb2
  have k0 : 0 ≤ h.1 7 4 := by omega
  have k1 : h.1 7 4 < 50 := by omega
  have hc := hf (d - 1) h x dep (by omega) hbo hran h0 hdep
  rw [← e3, ← e1] at hc
  refine zC_of (by decide +kernel) (Nat.le_of_ble_eq_true rfl) (fun X C E => zrun_sound t_X0_own C E [] 60 _ _ _ _ ?_)
  refine And.intro k0 (And.intro k1 ?_)
  refine zcall_i (d' := d - 1) (by omega) hc ?_
  rintro _ _ ⟨rfl, rfl⟩
  exact And.intro rfl rfl
theorem rcC_w {K N c c' : Int} {D D' : Nat} {b : Int} {l : List Int} {V : Int → Int} (h : rcC K N c D b l V) (hc : c ≤ c') (hD : D ≤ D') : rcC K N c' D' b l V := fun d g x dep a1 a2 a3 a4 a5 => h d g x dep (by omega) a2 a3 a4 (by omega)
theorem ocC_w {K N c c' : Int} {D D' : Nat} {b : Int} {l : List Int} {V : Int → Int} (h : ocC K N c D b l V) (hc : c ≤ c') (hD : D ≤ D') : ocC K N c' D' b l V := fun d g x dep a1 a2 a3 a4 a5 => h d g x dep (by omega) a2 a3 a4 (by omega)
theorem ran1 {h : zH} {b : Int} {K N : Int} (hb : bodOK h K N) : bodOK (nC h b) K N := bodOK_L (l := [b]) hb
theorem rc1 {K N : Int} : rcC K N 0 2 1 ([1]) (fun x => x + N) := by
  intro d h x dep hD hbo hran h0 hdep
  have hb1 := ran1 (b := 1) hbo
  have hr0 := hbo.2.2.2.2
  have hr1 : (nC h 1).1 7 3 = h.1 7 3 + 1 := ntG_ran
  simp only [List.length_cons, List.length_append, List.length_nil] at hran
  refine zC_of (by decide +kernel) (Nat.le_of_ble_eq_true rfl) (fun X C E => zrun_sound t_X0_run C E [] 60 _ _ _ _ ?_)
  refine zcall_i (d' := d - 1) (by omega) (c_note h 1 (by omega)) ?_
  rintro _ _ ⟨rfl, rfl⟩
  refine And.intro (by decide) (And.intro (fun _ => ?_) (fun z => absurd rfl z))
  refine And.intro rfl ?_
  show some (sI (x + (nC h 1).1 7 4)) = _
  rw [hb1.1]
theorem rc11 {K N : Int} : rcC K N 0 2 11 ([11]) (fun x => xor32 x N) := by
  intro d h x dep hD hbo hran h0 hdep
  have hb1 := ran1 (b := 11) hbo
  have hr0 := hbo.2.2.2.2
  have hr1 : (nC h 11).1 7 3 = h.1 7 3 + 1 := ntG_ran
  simp only [List.length_cons, List.length_append, List.length_nil] at hran
  refine zC_of (by decide +kernel) (Nat.le_of_ble_eq_true rfl) (fun X C E => zrun_sound t_X0_run C E [] 60 _ _ _ _ ?_)
  refine zcall_i (d' := d - 1) (by omega) (c_note h 11 (by omega)) ?_
  rintro _ _ ⟨rfl, rfl⟩
  refine And.intro (by decide) (And.intro (fun z => absurd z (by decide)) (fun _ => And.intro (fun z => absurd z (by decide)) (fun _ => And.intro (fun z => absurd z (by decide)) (fun _ => And.intro (fun _ => ?_) (fun z => absurd rfl z)))))
  refine And.intro rfl ?_
  show some (sI (xor32 x ((nC h 11).1 7 4))) = _
  rw [hb1.1]
theorem rc20 {K N : Int} : rcC K N 1 4 20 ([20, 1]) (fun x => x + N + 3) := by
  intro d h x dep hD hbo hran h0 hdep
  have hb1 := ran1 (b := 20) hbo
  have hr0 := hbo.2.2.2.2
  have hr1 : (nC h 20).1 7 3 = h.1 7 3 + 1 := ntG_ran
  simp only [List.length_cons, List.length_append, List.length_nil] at hran
  refine zC_of (by decide +kernel) (Nat.le_of_ble_eq_true rfl) (fun X C E => zrun_sound t_X0_run C E [] 60 _ _ _ _ ?_)
  refine zcall_i (d' := d - 1) (by omega) (c_note h 20 (by omega)) ?_
  rintro _ _ ⟨rfl, rfl⟩
  refine And.intro (by decide) (And.intro (fun z => absurd z (by decide)) (fun _ => And.intro (fun z => absurd z (by decide)) (fun _ => And.intro (fun z => absurd z (by decide)) (fun _ => And.intro (fun z => absurd z (by decide)) (fun _ => And.intro (fun _ => ?_) (fun z => absurd rfl z))))))
  refine zcall_i (d' := d - 1) (by omega) ((c_from (k := 0) (a := 0) (Or.inl ⟨rfl, rfl, rfl⟩) (by decide) rc1) (d - 1) _ x dep (by omega) hb1 (by rw [hr1]; (try simp only [List.length_cons, List.length_append, List.length_nil]); omega) h0 (by omega)) ?_
  rintro _ _ ⟨rfl, rfl⟩
  exact And.intro rfl rfl
theorem rc60 {K N : Int} : rcC K N 2 6 60 ([60, 20, 1]) (fun x => (x + N + 3) * 2) := by
  intro d h x dep hD hbo hran h0 hdep
  have hb1 := ran1 (b := 60) hbo
  have hr0 := hbo.2.2.2.2
  have hr1 : (nC h 60).1 7 3 = h.1 7 3 + 1 := ntG_ran
  simp only [List.length_cons, List.length_append, List.length_nil] at hran
  refine zC_of (by decide +kernel) (Nat.le_of_ble_eq_true rfl) (fun X C E => zrun_sound t_X0_run C E [] 60 _ _ _ _ ?_)
  refine zcall_i (d' := d - 1) (by omega) (c_note h 60 (by omega)) ?_
  rintro _ _ ⟨rfl, rfl⟩
  refine And.intro (by decide) (And.intro (fun z => absurd z (by decide)) (fun _ => And.intro (fun z => absurd z (by decide)) (fun _ => And.intro (fun z => absurd z (by decide)) (fun _ => And.intro (fun z => absurd z (by decide)) (fun _ => And.intro (fun z => absurd z (by decide)) (fun _ => And.intro (fun z => absurd z (by decide)) (fun _ => And.intro (fun z => absurd z (by decide)) (fun _ => And.intro (fun z => absurd z (by decide)) (fun _ => And.intro (fun z => absurd z (by decide)) (fun _ => And.intro (fun _ => ?_) (fun z => absurd rfl z)))))))))))
  refine zcall_i (d' := d - 1) (by omega) ((c_from (k := 1) (a := 0) (Or.inr (Or.inr (Or.inr (Or.inr (Or.inl ⟨rfl, rfl, rfl⟩))))) (by decide) rc20) (d - 1) _ x dep (by omega) hb1 (by rw [hr1]; (try simp only [List.length_cons, List.length_append, List.length_nil]); omega) h0 (by omega)) ?_
  rintro _ _ ⟨rfl, rfl⟩
  exact And.intro rfl rfl
theorem K_of {K : Int} (hK : 0 ≤ K ∧ K ≤ 6) : K = 0 ∨ K = 1 ∨ K = 2 ∨ K = 3 ∨ K = 4 ∨ K = 5 ∨ K = 6 := by omega
theorem oGo {K N : Int} (hK : 0 ≤ K ∧ K ≤ 6) : ocC K N 3 9 0 (lGo K) (fun x => vGo K N x) := by
  rcases K_of hK with rfl | rfl | rfl | rfl | rfl | rfl | rfl
  · exact ocC_w (c_own (c_from (k := 0) (a := 0) (Or.inl ⟨rfl, rfl, rfl⟩) (by decide) rc1)) (by decide) (by decide)
  · exact ocC_w (c_own (c_from (k := 1) (a := 0) (Or.inr (Or.inr (Or.inr (Or.inr (Or.inl ⟨rfl, rfl, rfl⟩))))) (by decide) rc20)) (by decide) (by decide)
  · exact ocC_w (c_own (c_from (k := 2) (a := 0) (Or.inr (Or.inr (Or.inr (Or.inr (Or.inr (Or.inr (Or.inr (Or.inr (Or.inl ⟨rfl, rfl, rfl⟩))))))))) (by decide) rc1)) (by decide) (by decide)
  · exact ocC_w (c_own (c_from (k := 3) (a := 0) (Or.inr (Or.inr (Or.inr (Or.inr (Or.inr (Or.inr (Or.inr (Or.inr (Or.inr (Or.inr (Or.inr (Or.inr (Or.inl ⟨rfl, rfl, rfl⟩))))))))))))) (by decide) rc1)) (by decide) (by decide)
  · exact ocC_w (c_own (c_from (k := 4) (a := 0) (Or.inr (Or.inr (Or.inr (Or.inr (Or.inr (Or.inr (Or.inr (Or.inr (Or.inr (Or.inr (Or.inr (Or.inr (Or.inr (Or.inr (Or.inr (Or.inr (Or.inl ⟨rfl, rfl, rfl⟩))))))))))))))))) (by decide) rc1)) (by decide) (by decide)
  · exact ocC_w (c_own (c_from (k := 5) (a := 0) (Or.inr (Or.inr (Or.inr (Or.inr (Or.inr (Or.inr (Or.inr (Or.inr (Or.inr (Or.inr (Or.inr (Or.inr (Or.inr (Or.inr (Or.inr (Or.inr (Or.inr (Or.inr (Or.inr (Or.inr (Or.inl ⟨rfl, rfl, rfl⟩))))))))))))))))))))) (by decide) rc60)) (by decide) (by decide)
  · exact ocC_w (c_own (c_from (k := 6) (a := 0) (Or.inr (Or.inr (Or.inr (Or.inr (Or.inr (Or.inr (Or.inr (Or.inr (Or.inr (Or.inr (Or.inr (Or.inr (Or.inr (Or.inr (Or.inr (Or.inr (Or.inr (Or.inr (Or.inr (Or.inr (Or.inr (Or.inr (Or.inr (Or.inr (Or.inl ⟨rfl, rfl, rfl⟩))))))))))))))))))))))))) (by decide) rc1)) (by decide) (by decide)
theorem rc10 {K N : Int} (hK : 0 ≤ K ∧ K ≤ 6) : rcC K N 3 11 10 (10 :: lGo K) (fun x => vGo K N x * 2) := by
  intro d h x dep hD hbo hran h0 hdep
  have hb1 := ran1 (b := 10) hbo
  have hr0 := hbo.2.2.2.2
  have hr1 : (nC h 10).1 7 3 = h.1 7 3 + 1 := ntG_ran
  simp only [List.length_cons, List.length_append, List.length_nil] at hran
  refine zC_of (by decide +kernel) (Nat.le_of_ble_eq_true rfl) (fun X C E => zrun_sound t_X0_run C E [] 60 _ _ _ _ ?_)
  refine zcall_i (d' := d - 1) (by omega) (c_note h 10 (by omega)) ?_
  rintro _ _ ⟨rfl, rfl⟩
  refine And.intro (by decide) (And.intro (fun z => absurd z (by decide)) (fun _ => And.intro (fun z => absurd z (by decide)) (fun _ => And.intro (fun _ => ?_) (fun z => absurd rfl z))))
  refine zcall_i (d' := d - 1) (by omega) ((oGo hK) (d - 1) _ x dep (by omega) hb1 (by rw [hr1]; (try simp only [List.length_cons, List.length_append, List.length_nil]); omega) h0 (by omega)) ?_
  rintro _ _ ⟨rfl, rfl⟩
  exact And.intro rfl rfl
theorem rc30 {K N : Int} (hK : 0 ≤ K ∧ K ≤ 6) : rcC K N 4 13 30 (30 :: 10 :: lGo K) (fun x => -(vGo K N x * 2)) := by
  intro d h x dep hD hbo hran h0 hdep
  have hb1 := ran1 (b := 30) hbo
  have hr0 := hbo.2.2.2.2
  have hr1 : (nC h 30).1 7 3 = h.1 7 3 + 1 := ntG_ran
  simp only [List.length_cons, List.length_append, List.length_nil] at hran
  refine zC_of (by decide +kernel) (Nat.le_of_ble_eq_true rfl) (fun X C E => zrun_sound t_X0_run C E [] 60 _ _ _ _ ?_)
  refine zcall_i (d' := d - 1) (by omega) (c_note h 30 (by omega)) ?_
  rintro _ _ ⟨rfl, rfl⟩
  refine And.intro (by decide) (And.intro (fun z => absurd z (by decide)) (fun _ => And.intro (fun z => absurd z (by decide)) (fun _ => And.intro (fun z => absurd z (by decide)) (fun _ => And.intro (fun z => absurd z (by decide)) (fun _ => And.intro (fun z => absurd z (by decide)) (fun _ => And.intro (fun _ => ?_) (fun z => absurd rfl z)))))))
  refine zcall_i (d' := d - 1) (by omega) ((c_from (k := 0) (a := 1) (Or.inr (Or.inl ⟨rfl, rfl, rfl⟩)) (by decide) (rc10 hK)) (d - 1) _ x dep (by omega) hb1 (by rw [hr1]; (try simp only [List.length_cons, List.length_append, List.length_nil]); omega) h0 (by omega)) ?_
  rintro _ _ ⟨rfl, rfl⟩
  exact And.intro rfl rfl
theorem rc41 {K N : Int} (hK : 0 ≤ K ∧ K ≤ 6) : rcC K N 5 15 41 (41 :: 30 :: 10 :: lGo K) (fun x => -(vGo K N (x + 1) * 2)) := by
  intro d h x dep hD hbo hran h0 hdep
  have hb1 := ran1 (b := 41) hbo
  have hr0 := hbo.2.2.2.2
  have hr1 : (nC h 41).1 7 3 = h.1 7 3 + 1 := ntG_ran
  simp only [List.length_cons, List.length_append, List.length_nil] at hran
  refine zC_of (by decide +kernel) (Nat.le_of_ble_eq_true rfl) (fun X C E => zrun_sound t_X0_run C E [] 60 _ _ _ _ ?_)
  refine zcall_i (d' := d - 1) (by omega) (c_note h 41 (by omega)) ?_
  rintro _ _ ⟨rfl, rfl⟩
  refine And.intro (by decide) (And.intro (fun z => absurd z (by decide)) (fun _ => And.intro (fun z => absurd z (by decide)) (fun _ => And.intro (fun z => absurd z (by decide)) (fun _ => And.intro (fun z => absurd z (by decide)) (fun _ => And.intro (fun z => absurd z (by decide)) (fun _ => And.intro (fun z => absurd z (by decide)) (fun _ => And.intro (fun z => absurd z (by decide)) (fun _ => And.intro (fun _ => ?_) (fun z => absurd rfl z)))))))))
  refine zcall_i (d' := d - 1) (by omega) ((c_from (k := 2) (a := 1) (Or.inr (Or.inr (Or.inr (Or.inr (Or.inr (Or.inr (Or.inr (Or.inr (Or.inr (Or.inl ⟨rfl, rfl, rfl⟩)))))))))) (by decide) (rc30 hK)) (d - 1) _ (x + 1) dep (by omega) hb1 (by rw [hr1]; (try simp only [List.length_cons, List.length_append, List.length_nil]); omega) h0 (by omega)) ?_
  rintro _ _ ⟨rfl, rfl⟩
  exact And.intro rfl rfl
theorem rc40 {K N : Int} : rcC K N 1 4 40 ([40, 11]) (fun x => xor32 x N * 3) := by
  intro d h x dep hD hbo hran h0 hdep
  have hb1 := ran1 (b := 40) hbo
  have hr0 := hbo.2.2.2.2
  have hr1 : (nC h 40).1 7 3 = h.1 7 3 + 1 := ntG_ran
  simp only [List.length_cons, List.length_append, List.length_nil] at hran
  refine zC_of (by decide +kernel) (Nat.le_of_ble_eq_true rfl) (fun X C E => zrun_sound t_X0_run C E [] 60 _ _ _ _ ?_)
  refine zcall_i (d' := d - 1) (by omega) (c_note h 40 (by omega)) ?_
  rintro _ _ ⟨rfl, rfl⟩
  refine And.intro (by decide) (And.intro (fun z => absurd z (by decide)) (fun _ => And.intro (fun z => absurd z (by decide)) (fun _ => And.intro (fun z => absurd z (by decide)) (fun _ => And.intro (fun z => absurd z (by decide)) (fun _ => And.intro (fun z => absurd z (by decide)) (fun _ => And.intro (fun z => absurd z (by decide)) (fun _ => And.intro (fun _ => ?_) (fun z => absurd rfl z))))))))
  refine zcall_i (d' := d - 1) (by omega) ((c_from (k := 2) (a := 2) (Or.inr (Or.inr (Or.inr (Or.inr (Or.inr (Or.inr (Or.inr (Or.inr (Or.inr (Or.inr (Or.inl ⟨rfl, rfl, rfl⟩))))))))))) (by decide) rc11) (d - 1) _ x dep (by omega) hb1 (by rw [hr1]; (try simp only [List.length_cons, List.length_append, List.length_nil]); omega) h0 (by omega)) ?_
  rintro _ _ ⟨rfl, rfl⟩
  exact And.intro rfl rfl
theorem rc61 {K N : Int} (hK : 0 ≤ K ∧ K ≤ 6) : rcC K N 4 11 61 (61 :: 11 :: lGo K) (fun x => xor32 x N + vGo K N 2) := by
  intro d h x dep hD hbo hran h0 hdep
  have hb1 := ran1 (b := 61) hbo
  have hr0 := hbo.2.2.2.2
  have hr1 : (nC h 61).1 7 3 = h.1 7 3 + 1 := ntG_ran
  simp only [List.length_cons, List.length_append, List.length_nil] at hran
  refine zC_of (by decide +kernel) (Nat.le_of_ble_eq_true rfl) (fun X C E => zrun_sound t_X0_run C E [] 60 _ _ _ _ ?_)
  refine zcall_i (d' := d - 1) (by omega) (c_note h 61 (by omega)) ?_
  rintro _ _ ⟨rfl, rfl⟩
  refine And.intro (by decide) (And.intro (fun z => absurd z (by decide)) (fun _ => And.intro (fun z => absurd z (by decide)) (fun _ => And.intro (fun z => absurd z (by decide)) (fun _ => And.intro (fun z => absurd z (by decide)) (fun _ => And.intro (fun z => absurd z (by decide)) (fun _ => And.intro (fun z => absurd z (by decide)) (fun _ => And.intro (fun z => absurd z (by decide)) (fun _ => And.intro (fun z => absurd z (by decide)) (fun _ => And.intro (fun z => absurd z (by decide)) (fun _ => And.intro (fun z => absurd z (by decide)) (fun _ => And.intro (fun _ => ?_) (fun z => absurd rfl z))))))))))))
  refine zcall_i (d' := d - 1) (by omega) ((c_from (k := 1) (a := 2) (Or.inr (Or.inr (Or.inr (Or.inr (Or.inr (Or.inr (Or.inl ⟨rfl, rfl, rfl⟩))))))) (by decide) rc11) (d - 1) _ x dep (by omega) hb1 (by rw [hr1]; (try simp only [List.length_cons, List.length_append, List.length_nil]); omega) h0 (by omega)) ?_
  rintro _ _ ⟨rfl, rfl⟩
  refine zcall_i (d' := d - 1) (by omega) ((oGo hK) (d - 1) _ 2 dep (by omega) (bodOK_L hb1) (by rw [ntL_ran, hr1]; (try simp only [List.length_cons, List.length_append, List.length_nil]); omega) h0 (by omega)) ?_
  rintro _ _ ⟨rfl, rfl⟩
  exact And.intro (ntL_app _ _ _) rfl
theorem oWe {K N : Int} (hK : 0 ≤ K ∧ K ≤ 6) : ocC K N 5 14 2 (lWe K) (fun x => vWe K N x) := by
  rcases K_of hK with rfl | rfl | rfl | rfl | rfl | rfl | rfl
  · exact ocC_w (c_own (c_from (k := 0) (a := 2) (Or.inr (Or.inr (Or.inl ⟨rfl, rfl, rfl⟩))) (by decide) rc11)) (by decide) (by decide)
  · exact ocC_w (c_own (c_from (k := 1) (a := 2) (Or.inr (Or.inr (Or.inr (Or.inr (Or.inr (Or.inr (Or.inl ⟨rfl, rfl, rfl⟩))))))) (by decide) rc11)) (by decide) (by decide)
  · exact ocC_w (c_own (c_from (k := 2) (a := 2) (Or.inr (Or.inr (Or.inr (Or.inr (Or.inr (Or.inr (Or.inr (Or.inr (Or.inr (Or.inr (Or.inl ⟨rfl, rfl, rfl⟩))))))))))) (by decide) rc11)) (by decide) (by decide)
  · exact ocC_w (c_own (c_from (k := 3) (a := 2) (Or.inr (Or.inr (Or.inr (Or.inr (Or.inr (Or.inr (Or.inr (Or.inr (Or.inr (Or.inr (Or.inr (Or.inr (Or.inr (Or.inr (Or.inl ⟨rfl, rfl, rfl⟩))))))))))))))) (by decide) rc40)) (by decide) (by decide)
  · exact ocC_w (c_own (c_from (k := 4) (a := 2) (Or.inr (Or.inr (Or.inr (Or.inr (Or.inr (Or.inr (Or.inr (Or.inr (Or.inr (Or.inr (Or.inr (Or.inr (Or.inr (Or.inr (Or.inr (Or.inr (Or.inr (Or.inr (Or.inl ⟨rfl, rfl, rfl⟩))))))))))))))))))) (by decide) rc11)) (by decide) (by decide)
  · exact ocC_w (c_own (c_from (k := 5) (a := 2) (Or.inr (Or.inr (Or.inr (Or.inr (Or.inr (Or.inr (Or.inr (Or.inr (Or.inr (Or.inr (Or.inr (Or.inr (Or.inr (Or.inr (Or.inr (Or.inr (Or.inr (Or.inr (Or.inr (Or.inr (Or.inr (Or.inr (Or.inl ⟨rfl, rfl, rfl⟩))))))))))))))))))))))) (by decide) (rc61 hK))) (by decide) (by decide)
  · exact ocC_w (c_own (c_from (k := 6) (a := 2) (Or.inr (Or.inr (Or.inr (Or.inr (Or.inr (Or.inr (Or.inr (Or.inr (Or.inr (Or.inr (Or.inr (Or.inr (Or.inr (Or.inr (Or.inr (Or.inr (Or.inr (Or.inr (Or.inr (Or.inr (Or.inr (Or.inr (Or.inr (Or.inr (Or.inr (Or.inr (Or.inl ⟨rfl, rfl, rfl⟩))))))))))))))))))))))))))) (by decide) rc11)) (by decide) (by decide)
theorem rc70 {K N : Int} (hK : 0 ≤ K ∧ K ≤ 6) : rcC K N 5 16 70 (70 :: (10 :: lGo K ++ lWe K)) (fun x => vGo K N x * 2 - vWe K N 2) := by
  intro d h x dep hD hbo hran h0 hdep
  have hb1 := ran1 (b := 70) hbo
  have hr0 := hbo.2.2.2.2
  have hr1 : (nC h 70).1 7 3 = h.1 7 3 + 1 := ntG_ran
  simp only [List.length_cons, List.length_append, List.length_nil] at hran
  refine zC_of (by decide +kernel) (Nat.le_of_ble_eq_true rfl) (fun X C E => zrun_sound t_X0_run C E [] 60 _ _ _ _ ?_)
  refine zcall_i (d' := d - 1) (by omega) (c_note h 70 (by omega)) ?_
  rintro _ _ ⟨rfl, rfl⟩
  refine And.intro (by decide) (And.intro (fun z => absurd z (by decide)) (fun _ => And.intro (fun z => absurd z (by decide)) (fun _ => And.intro (fun z => absurd z (by decide)) (fun _ => And.intro (fun z => absurd z (by decide)) (fun _ => And.intro (fun z => absurd z (by decide)) (fun _ => And.intro (fun z => absurd z (by decide)) (fun _ => And.intro (fun z => absurd z (by decide)) (fun _ => And.intro (fun z => absurd z (by decide)) (fun _ => And.intro (fun z => absurd z (by decide)) (fun _ => And.intro (fun z => absurd z (by decide)) (fun _ => And.intro (fun z => absurd z (by decide)) (fun _ => And.intro (fun _ => ?_) (fun z => absurd rfl z)))))))))))))
  refine zcall_i (d' := d - 1) (by omega) ((c_from (k := 0) (a := 1) (Or.inr (Or.inl ⟨rfl, rfl, rfl⟩)) (by decide) (rc10 hK)) (d - 1) _ x dep (by omega) hb1 (by rw [hr1]; (try simp only [List.length_cons, List.length_append, List.length_nil]); omega) h0 (by omega)) ?_
  rintro _ _ ⟨rfl, rfl⟩
  refine zcall_i (d' := d - 1) (by omega) ((oWe hK) (d - 1) _ 2 dep (by omega) (bodOK_L hb1) (by rw [ntL_ran, hr1]; (try simp only [List.length_cons, List.length_append, List.length_nil]); omega) h0 (by omega)) ?_
  rintro _ _ ⟨rfl, rfl⟩
  exact And.intro (ntL_app _ _ _) rfl
theorem oWa {K N : Int} (hK : 0 ≤ K ∧ K ≤ 6) : ocC K N 7 18 1 (lWa K) (fun x => vWa K N x) := by
  rcases K_of hK with rfl | rfl | rfl | rfl | rfl | rfl | rfl
  · exact ocC_w (c_own (c_from (k := 0) (a := 1) (Or.inr (Or.inl ⟨rfl, rfl, rfl⟩)) (by decide) (rc10 hK))) (by decide) (by decide)
  · exact ocC_w (c_own (c_from (k := 1) (a := 1) (Or.inr (Or.inr (Or.inr (Or.inr (Or.inr (Or.inl ⟨rfl, rfl, rfl⟩)))))) (by decide) (rc10 hK))) (by decide) (by decide)
  · exact ocC_w (c_own (c_from (k := 2) (a := 1) (Or.inr (Or.inr (Or.inr (Or.inr (Or.inr (Or.inr (Or.inr (Or.inr (Or.inr (Or.inl ⟨rfl, rfl, rfl⟩)))))))))) (by decide) (rc30 hK))) (by decide) (by decide)
  · exact ocC_w (c_own (c_from (k := 3) (a := 1) (Or.inr (Or.inr (Or.inr (Or.inr (Or.inr (Or.inr (Or.inr (Or.inr (Or.inr (Or.inr (Or.inr (Or.inr (Or.inr (Or.inl ⟨rfl, rfl, rfl⟩)))))))))))))) (by decide) (rc41 hK))) (by decide) (by decide)
  · exact ocC_w (c_own (c_from (k := 4) (a := 1) (Or.inr (Or.inr (Or.inr (Or.inr (Or.inr (Or.inr (Or.inr (Or.inr (Or.inr (Or.inr (Or.inr (Or.inr (Or.inr (Or.inr (Or.inr (Or.inr (Or.inr (Or.inl ⟨rfl, rfl, rfl⟩)))))))))))))))))) (by decide) (rc10 hK))) (by decide) (by decide)
  · exact ocC_w (c_own (c_from (k := 5) (a := 1) (Or.inr (Or.inr (Or.inr (Or.inr (Or.inr (Or.inr (Or.inr (Or.inr (Or.inr (Or.inr (Or.inr (Or.inr (Or.inr (Or.inr (Or.inr (Or.inr (Or.inr (Or.inr (Or.inr (Or.inr (Or.inr (Or.inl ⟨rfl, rfl, rfl⟩)))))))))))))))))))))) (by decide) (rc10 hK))) (by decide) (by decide)
  · exact ocC_w (c_own (c_from (k := 6) (a := 1) (Or.inr (Or.inr (Or.inr (Or.inr (Or.inr (Or.inr (Or.inr (Or.inr (Or.inr (Or.inr (Or.inr (Or.inr (Or.inr (Or.inr (Or.inr (Or.inr (Or.inr (Or.inr (Or.inr (Or.inr (Or.inr (Or.inr (Or.inr (Or.inr (Or.inr (Or.inl ⟨rfl, rfl, rfl⟩)))))))))))))))))))))))))) (by decide) (rc70 hK))) (by decide) (by decide)
theorem rc2 {K N : Int} (hK : 0 ≤ K ∧ K ≤ 6) : rcC K N 7 20 2 (2 :: (lWa K ++ lWe K)) (fun x => vWa K N x - vWe K N 1) := by
  intro d h x dep hD hbo hran h0 hdep
  have hb1 := ran1 (b := 2) hbo
  have hr0 := hbo.2.2.2.2
  have hr1 : (nC h 2).1 7 3 = h.1 7 3 + 1 := ntG_ran
  simp only [List.length_cons, List.length_append, List.length_nil] at hran
  refine zC_of (by decide +kernel) (Nat.le_of_ble_eq_true rfl) (fun X C E => zrun_sound t_X0_run C E [] 60 _ _ _ _ ?_)
  refine zcall_i (d' := d - 1) (by omega) (c_note h 2 (by omega)) ?_
  rintro _ _ ⟨rfl, rfl⟩
  refine And.intro (by decide) (And.intro (fun z => absurd z (by decide)) (fun _ => And.intro (fun _ => ?_) (fun z => absurd rfl z)))
  refine zcall_i (d' := d - 1) (by omega) ((oWa hK) (d - 1) _ x dep (by omega) hb1 (by rw [hr1]; (try simp only [List.length_cons, List.length_append, List.length_nil]); omega) h0 (by omega)) ?_
  rintro _ _ ⟨rfl, rfl⟩
  refine zcall_i (d' := d - 1) (by omega) ((oWe hK) (d - 1) _ 1 dep (by omega) (bodOK_L hb1) (by rw [ntL_ran, hr1]; (try simp only [List.length_cons, List.length_append, List.length_nil]); omega) h0 (by omega)) ?_
  rintro _ _ ⟨rfl, rfl⟩
  exact And.intro (ntL_app _ _ _) rfl
theorem rc50 {K N : Int} (hK : 0 ≤ K ∧ K ≤ 6) : rcC K N 8 22 50 (50 :: 2 :: (lWa K ++ lWe K)) (fun x => xor32 (vWa K N x - vWe K N 1) 5) := by
  intro d h x dep hD hbo hran h0 hdep
  have hb1 := ran1 (b := 50) hbo
  have hr0 := hbo.2.2.2.2
  have hr1 : (nC h 50).1 7 3 = h.1 7 3 + 1 := ntG_ran
  simp only [List.length_cons, List.length_append, List.length_nil] at hran
  refine zC_of (by decide +kernel) (Nat.le_of_ble_eq_true rfl) (fun X C E => zrun_sound t_X0_run C E [] 60 _ _ _ _ ?_)
  refine zcall_i (d' := d - 1) (by omega) (c_note h 50 (by omega)) ?_
  rintro _ _ ⟨rfl, rfl⟩
  refine And.intro (by decide) (And.intro (fun z => absurd z (by decide)) (fun _ => And.intro (fun z => absurd z (by decide)) (fun _ => And.intro (fun z => absurd z (by decide)) (fun _ => And.intro (fun z => absurd z (by decide)) (fun _ => And.intro (fun z => absurd z (by decide)) (fun _ => And.intro (fun z => absurd z (by decide)) (fun _ => And.intro (fun z => absurd z (by decide)) (fun _ => And.intro (fun z => absurd z (by decide)) (fun _ => And.intro (fun _ => ?_) (fun z => absurd rfl z))))))))))
  refine zcall_i (d' := d - 1) (by omega) ((c_from (k := 0) (a := 3) (Or.inr (Or.inr (Or.inr (Or.inl ⟨rfl, rfl, rfl⟩)))) (by decide) (rc2 hK)) (d - 1) _ x dep (by omega) hb1 (by rw [hr1]; (try simp only [List.length_cons, List.length_append, List.length_nil]); omega) h0 (by omega)) ?_
  rintro _ _ ⟨rfl, rfl⟩
  exact And.intro rfl rfl
theorem oTe {K N : Int} (hK : 0 ≤ K ∧ K ≤ 6) : ocC K N 9 24 3 (lTe K) (fun x => vTe K N x) := by
  rcases K_of hK with rfl | rfl | rfl | rfl | rfl | rfl | rfl
  · exact ocC_w (c_own (c_from (k := 0) (a := 3) (Or.inr (Or.inr (Or.inr (Or.inl ⟨rfl, rfl, rfl⟩)))) (by decide) (rc2 hK))) (by decide) (by decide)
  · exact ocC_w (c_own (c_from (k := 1) (a := 3) (Or.inr (Or.inr (Or.inr (Or.inr (Or.inr (Or.inr (Or.inr (Or.inl ⟨rfl, rfl, rfl⟩)))))))) (by decide) (rc2 hK))) (by decide) (by decide)
  · exact ocC_w (c_own (c_from (k := 2) (a := 3) (Or.inr (Or.inr (Or.inr (Or.inr (Or.inr (Or.inr (Or.inr (Or.inr (Or.inr (Or.inr (Or.inr (Or.inl ⟨rfl, rfl, rfl⟩)))))))))))) (by decide) (rc2 hK))) (by decide) (by decide)
  · exact ocC_w (c_own (c_from (k := 3) (a := 3) (Or.inr (Or.inr (Or.inr (Or.inr (Or.inr (Or.inr (Or.inr (Or.inr (Or.inr (Or.inr (Or.inr (Or.inr (Or.inr (Or.inr (Or.inr (Or.inl ⟨rfl, rfl, rfl⟩)))))))))))))))) (by decide) (rc2 hK))) (by decide) (by decide)
  · exact ocC_w (c_own (c_from (k := 4) (a := 3) (Or.inr (Or.inr (Or.inr (Or.inr (Or.inr (Or.inr (Or.inr (Or.inr (Or.inr (Or.inr (Or.inr (Or.inr (Or.inr (Or.inr (Or.inr (Or.inr (Or.inr (Or.inr (Or.inr (Or.inl ⟨rfl, rfl, rfl⟩)))))))))))))))))))) (by decide) (rc50 hK))) (by decide) (by decide)
  · exact ocC_w (c_own (c_from (k := 5) (a := 3) (Or.inr (Or.inr (Or.inr (Or.inr (Or.inr (Or.inr (Or.inr (Or.inr (Or.inr (Or.inr (Or.inr (Or.inr (Or.inr (Or.inr (Or.inr (Or.inr (Or.inr (Or.inr (Or.inr (Or.inr (Or.inr (Or.inr (Or.inr (Or.inl ⟨rfl, rfl, rfl⟩)))))))))))))))))))))))) (by decide) (rc2 hK))) (by decide) (by decide)
  · exact ocC_w (c_own (c_from (k := 6) (a := 3) (Or.inr (Or.inr (Or.inr (Or.inr (Or.inr (Or.inr (Or.inr (Or.inr (Or.inr (Or.inr (Or.inr (Or.inr (Or.inr (Or.inr (Or.inr (Or.inr (Or.inr (Or.inr (Or.inr (Or.inr (Or.inr (Or.inr (Or.inr (Or.inr (Or.inr (Or.inr (Or.inr (⟨rfl, rfl, rfl⟩)))))))))))))))))))))))))))) (by decide) (rc2 hK))) (by decide) (by decide)
