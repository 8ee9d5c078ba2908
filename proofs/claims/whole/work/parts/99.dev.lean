/-! ===== acts ===== -/
def ntG (ca cc ci : Nat) (h : zH) (b : Int) : zH := setI (if h.1 cc ci < 24 then setI h ca (h.1 cc ci).toNat b else h) cc ci (h.1 cc ci + 1)
def ntL (ca cc ci : Nat) (h : zH) (l : List Int) : zH := l.foldl (ntG ca cc ci) h
theorem ntG_ne {ca cc ci c : Nat} {h : zH} {b : Int} (h1 : c ≠ ca) (h2 : c ≠ cc) : (ntG ca cc ci h b).1 c = h.1 c := by
  unfold ntG
  rw [setI_ne h2]
  split
  · rw [setI_ne h1]
  · rfl
theorem ntG_cc {ca cc ci i : Nat} {h : zH} {b : Int} (h1 : cc ≠ ca) (h2 : i ≠ ci) : (ntG ca cc ci h b).1 cc i = h.1 cc i := by
  unfold ntG
  rw [setI_n2 h2]
  split
  · rw [setI_ne h1]
  · rfl
theorem ntG_ran {ca cc ci : Nat} {h : zH} {b : Int} : (ntG ca cc ci h b).1 cc ci = h.1 cc ci + 1 := by
  unfold ntG
  rw [setI_eq]
theorem ntG_2 {ca cc ci : Nat} {h : zH} {b : Int} : (ntG ca cc ci h b).2 = h.2 := by
  unfold ntG
  split <;> rfl
theorem ntG_ca {ca cc ci i : Nat} {h : zH} {b : Int} (h1 : ca ≠ cc) (hr : 0 ≤ h.1 cc ci) (hi : i < 24) : (ntG ca cc ci h b).1 ca i = if (i : Int) = h.1 cc ci then b else h.1 ca i := by
  unfold ntG
  rw [setI_ne h1]
  by_cases q : h.1 cc ci < 24
  · rw [if_pos q, setI_at]
    by_cases e : (i : Int) = h.1 cc ci
    · rw [if_pos ⟨rfl, by omega⟩, if_pos e]
    · rw [if_neg (by omega), if_neg e]
  · rw [if_neg q, if_neg (by omega)]
theorem ntL_ne {ca cc ci c : Nat} (h1 : c ≠ ca) (h2 : c ≠ cc) : ∀ (l : List Int) (h : zH), (ntL ca cc ci h l).1 c = h.1 c
  | [], _ => rfl
  | b :: l, h => (ntL_ne h1 h2 l (ntG ca cc ci h b)).trans (ntG_ne h1 h2)
theorem ntL_cc {ca cc ci i : Nat} (h1 : cc ≠ ca) (h2 : i ≠ ci) : ∀ (l : List Int) (h : zH), (ntL ca cc ci h l).1 cc i = h.1 cc i
  | [], _ => rfl
  | b :: l, h => (ntL_cc h1 h2 l (ntG ca cc ci h b)).trans (ntG_cc h1 h2)
theorem ntL_ran {ca cc ci : Nat} : ∀ (l : List Int) (h : zH), (ntL ca cc ci h l).1 cc ci = h.1 cc ci + (l.length : Int)
  | [], _ => (Int.add_zero _).symm
  | b :: l, h => by
    have := ntL_ran (ca := ca) (cc := cc) (ci := ci) l (ntG ca cc ci h b)
    rw [ntG_ran] at this
    refine this.trans ?_
    rw [List.length_cons]
    omega
theorem ntL_2 {ca cc ci : Nat} : ∀ (l : List Int) (h : zH), (ntL ca cc ci h l).2 = h.2
  | [], _ => rfl
  | b :: l, h => (ntL_2 l (ntG ca cc ci h b)).trans ntG_2
theorem ntL_app {ca cc ci : Nat} (l l' : List Int) (h : zH) : ntL ca cc ci (ntL ca cc ci h l) l' = ntL ca cc ci h (l ++ l') := by
  unfold ntL
  rw [List.foldl_append]
theorem ntL_at {ca cc ci : Nat} (h1 : ca ≠ cc) : ∀ (l : List Int) (h : zH) (r i : Nat), h.1 cc ci = r → i < 24 → (ntL ca cc ci h l).1 ca i = if r ≤ i ∧ i < r + l.length then l.getD (i - r) 0 else h.1 ca i
  | [], h, r, i, _, _ => by
    rw [if_neg (by rw [List.length_nil]; omega)]
    rfl
  | b :: l, h, r, i, hr, hi => by
    have := ntL_at h1 l (ntG ca cc ci h b) (r + 1) i (by rw [ntG_ran, hr]; rfl) hi
    refine this.trans ?_
    rw [ntG_ca h1 (by omega) hi, hr, List.length_cons]
    by_cases e : i = r
    · subst e
      rw [if_neg (by omega), if_pos rfl, if_pos (by omega), Nat.sub_self]
      rfl
    · rw [if_neg (by omega : ¬ (i : Int) = (r : Int))]
      by_cases q : r + 1 ≤ i ∧ i < r + 1 + l.length
      · rw [if_pos q, if_pos (by omega), show i - r = (i - (r + 1)) + 1 by omega]
        rfl
      · rw [if_neg q, if_neg (by omega)]
abbrev nC : zH → Int → zH := ntG 45 7 3
abbrev nCL : zH → List Int → zH := ntL 45 7 3
abbrev nM : zH → Int → zH := ntG 77 52 47
abbrev nML : zH → List Int → zH := ntL 77 52 47
def lGo (K : Int) : List Int := if K = 5 then [60, 20, 1] else if K = 1 then [20, 1] else [1]
def vGo (K N x : Int) : Int := if K = 5 then (x + N + 3) * 2 else if K = 1 then x + N + 3 else x + N
def lWe (K : Int) : List Int := if K = 3 then [40, 11] else if K = 5 then 61 :: 11 :: lGo K else [11]
def vWe (K N x : Int) : Int := if K = 3 then xor32 x N * 3 else if K = 5 then xor32 x N + vGo K N 2 else xor32 x N
def lWa (K : Int) : List Int := if K = 3 then 41 :: 30 :: 10 :: lGo K else if K = 2 then 30 :: 10 :: lGo K else if K = 6 then 70 :: (10 :: lGo K ++ lWe K) else 10 :: lGo K
def vWa (K N x : Int) : Int := if K = 3 then -(vGo K N (x + 1) * 2) else if K = 2 then -(vGo K N x * 2) else if K = 6 then vGo K N x * 2 - vWe K N 2 else vGo K N x * 2
def lTe (K : Int) : List Int := if K = 4 then 50 :: 2 :: (lWa K ++ lWe K) else 2 :: (lWa K ++ lWe K)
def vTe (K N x : Int) : Int := if K = 4 then xor32 (vWa K N x - vWe K N 1) 5 else vWa K N x - vWe K N 1
/-! the class -/
def bodOK (h : zH) (K N : Int) : Prop := h.1 7 4 = N ∧ (0 ≤ N ∧ N < 50) ∧ h.1 44 N.toNat = K ∧ (0 ≤ K ∧ K ≤ 6) ∧ 0 ≤ h.1 7 3
theorem bodOK_L {h : zH} {K N : Int} {l : List Int} (hb : bodOK h K N) : bodOK (nCL h l) K N := by
  obtain ⟨a, b, c, e, f⟩ := hb
  refine ⟨(ntL_cc (by decide) (by decide) l h).trans a, b, ?_, e, ?_⟩
  · rw [ntL_ne (by decide) (by decide) l h]
    exact c
  · rw [ntL_ran]
    omega
theorem c_note {d : Nat} (h : zH) (b : Int) (hr : 0 ≤ h.1 7 3 ∧ h.1 7 3 ≤ 1000) : zC d k_X0_note [sR 7, sI b] h (fun o g => o = none ∧ g = nC h b) := by
  refine zC_of (by decide +kernel) (Nat.le_of_ble_eq_true rfl) (fun X C E => zrun_sound t_X0_note C E [] 60 _ _ _ _ ?_)
  unfold nC ntG
  refine And.intro (by omega) (And.intro (by omega) (And.intro (fun c => ?_) (fun c => ?_)))
  · rw [if_neg (Int.not_lt.mpr c)]
    exact And.intro rfl rfl
  · rw [if_pos (Int.not_le.mp c)]
    exact And.intro hr.1 (And.intro (Int.not_le.mp c) (And.intro rfl rfl))
def rcC (K N c : Int) (D : Nat) (b : Int) (l : List Int) (V : Int → Int) : Prop := ∀ (d : Nat) (h : zH) (x dep : Int), D ≤ d → bodOK h K N → h.1 7 3 + (l.length : Int) ≤ 1000 → 0 ≤ dep → dep + c ≤ 20 → zC d k_X0_run [sR 7, sI b, sI x, sI dep] h (fun o g => g = nCL h l ∧ o = some (sI (V x)))
def fcC (K N c : Int) (D : Nat) (k a : Int) (l : List Int) (V : Int → Int) : Prop := ∀ (d : Nat) (h : zH) (x dep : Int), D ≤ d → bodOK h K N → h.1 7 3 + (l.length : Int) ≤ 1000 → 0 ≤ dep → dep + c ≤ 20 → zC d k_X0_from [sR 7, sI k, sI a, sI x, sI dep] h (fun o g => g = nCL h l ∧ o = some (sI (V x)))
def ocC (K N c : Int) (D : Nat) (a : Int) (l : List Int) (V : Int → Int) : Prop := ∀ (d : Nat) (h : zH) (x dep : Int), D ≤ d → bodOK h K N → h.1 7 3 + (l.length : Int) ≤ 1000 → 0 ≤ dep → dep + c ≤ 20 → zC d k_X0_own [sR 7, sI a, sI x, sI dep] h (fun o g => g = nCL h l ∧ o = some (sI (V x)))
def ownB (k a b : Int) : Prop := (k = 0 ∧ a = 0 ∧ b = 1) ∨ (k = 0 ∧ a = 1 ∧ b = 10) ∨ (k = 0 ∧ a = 2 ∧ b = 11) ∨ (k = 0 ∧ a = 3 ∧ b = 2) ∨ (k = 1 ∧ a = 0 ∧ b = 20) ∨ (k = 1 ∧ a = 1 ∧ b = 10) ∨ (k = 1 ∧ a = 2 ∧ b = 11) ∨ (k = 1 ∧ a = 3 ∧ b = 2) ∨ (k = 2 ∧ a = 0 ∧ b = 1) ∨ (k = 2 ∧ a = 1 ∧ b = 30) ∨ (k = 2 ∧ a = 2 ∧ b = 11) ∨ (k = 2 ∧ a = 3 ∧ b = 2) ∨ (k = 3 ∧ a = 0 ∧ b = 1) ∨ (k = 3 ∧ a = 1 ∧ b = 41) ∨ (k = 3 ∧ a = 2 ∧ b = 40) ∨ (k = 3 ∧ a = 3 ∧ b = 2) ∨ (k = 4 ∧ a = 0 ∧ b = 1) ∨ (k = 4 ∧ a = 1 ∧ b = 10) ∨ (k = 4 ∧ a = 2 ∧ b = 11) ∨ (k = 4 ∧ a = 3 ∧ b = 50) ∨ (k = 5 ∧ a = 0 ∧ b = 60) ∨ (k = 5 ∧ a = 1 ∧ b = 10) ∨ (k = 5 ∧ a = 2 ∧ b = 61) ∨ (k = 5 ∧ a = 3 ∧ b = 2) ∨ (k = 6 ∧ a = 0 ∧ b = 1) ∨ (k = 6 ∧ a = 1 ∧ b = 70) ∨ (k = 6 ∧ a = 2 ∧ b = 11) ∨ (k = 6 ∧ a = 3 ∧ b = 2)
set_option maxHeartbeats 4000000 in
theorem c_from {K N c : Int} {D : Nat} {k a b : Int} {l : List Int} {V : Int → Int} (hb : ownB k a b) (hc : 0 ≤ c) (hr : rcC K N c D b l V) : fcC K N (c + 1) (D + 1) k a l V := by
  intro d h x dep hD hbo hran h0 hdep
  refine zC_of (by decide +kernel) (Nat.le_of_ble_eq_true rfl) (fun X C E => ?_)
  have stop : ∀ t i : Int, 0 ≤ a → a ≤ 3 → 0 ≤ t → t ≤ 6 → 0 ≤ i → i < 7 → (ztbl 91).getD (4 * t + a).toNat 0 = b → 1 ≤ b → b ≤ 70 → zJ X 6 [some (sR 7), some (sI k), some (sI a), some (sI x), some (sI dep), some (sI t), some (sI i)] [] h := by
    intro t i a0 a1 t0 t1 i0 i1 et b1 b2
    have h45 : zJ X 45 [some (sR 7), some (sI k), some (sI a), some (sI x), some (sI dep), some (sI t), some (sI i)] [] h := by
      refine zrun_sound t_X0_from C E [] 60 _ _ _ _ ?_
      refine And.intro (by omega) (And.intro (fun z => absurd z (by omega)) (fun _ => ?_))
      refine And.intro (by omega) (And.intro (by omega) (And.intro (fun _ => ?_) (fun z => absurd (by omega) z)))
      refine Or.inr (And.intro rfl (And.intro (by omega) (And.intro (by omega) ?_)))
      rw [et]
      refine zcall_i (d' := d - 1) (by omega) (hr (d - 1) h x (dep + 1) (by omega) hbo hran (by omega) (by omega)) ?_
      rintro _ _ ⟨rfl, rfl⟩
      exact And.intro rfl rfl
    refine zrun_sound t_X0_from C E [45] 60 _ _ _ _ ?_
    refine And.intro (by omega) (And.intro (by omega) (And.intro (fun z => absurd z (by omega)) (fun _ => ?_)))
    refine And.intro (by omega) (And.intro (fun _ => h45) (fun _ => ?_))
    refine Or.inr (And.intro rfl (And.intro (by omega) (And.intro (by omega) ?_)))
    rw [et]
    exact And.intro (by omega) (And.intro (fun _ => h45) (fun z => absurd z (by omega)))
  have step : ∀ t i nx : Int, 0 ≤ a → a ≤ 3 → 0 < t → t ≤ 6 → 0 ≤ i → i < 7 → (ztbl 91).getD (4 * t + a).toNat 0 = 0 → (ztbl 90).getD t.toNat 0 = nx → zJ X 6 [some (sR 7), some (sI k), some (sI a), some (sI x), some (sI dep), some (sI nx), some (sI (i + 1))] [] h → zJ X 6 [some (sR 7), some (sI k), some (sI a), some (sI x), some (sI dep), some (sI t), some (sI i)] [] h := by
    intro t i nx a0 a1 t0 t1 i0 i1 et en hj
    refine zrun_sound t_X0_from C E [6, 45] 60 _ _ _ _ ?_
    refine And.intro (by omega) (And.intro (by omega) (And.intro (fun z => absurd z (by omega)) (fun _ => ?_)))
    refine And.intro (by omega) (And.intro (fun z => absurd z (by omega)) (fun _ => ?_))
    refine Or.inr (And.intro rfl (And.intro (by omega) (And.intro (by omega) ?_)))
    rw [et]
    refine And.intro (by decide) (And.intro (fun z => absurd rfl z) (fun _ => ?_))
    refine Or.inl (And.intro rfl (And.intro (by omega) (And.intro (by omega) ?_)))
    rw [en]
    exact hj
  refine zrun_sound t_X0_from C E [6] 60 _ _ _ _ ?_
  clear hr E C hran hbo
  unfold ownB at hb
  rcases hb with ⟨rfl, rfl, rfl⟩ | ⟨rfl, rfl, rfl⟩ | ⟨rfl, rfl, rfl⟩ | ⟨rfl, rfl, rfl⟩ | ⟨rfl, rfl, rfl⟩ | ⟨rfl, rfl, rfl⟩ | ⟨rfl, rfl, rfl⟩ | ⟨rfl, rfl, rfl⟩ | ⟨rfl, rfl, rfl⟩ | ⟨rfl, rfl, rfl⟩ | ⟨rfl, rfl, rfl⟩ | ⟨rfl, rfl, rfl⟩ | ⟨rfl, rfl, rfl⟩ | ⟨rfl, rfl, rfl⟩ | ⟨rfl, rfl, rfl⟩ | ⟨rfl, rfl, rfl⟩ | ⟨rfl, rfl, rfl⟩ | ⟨rfl, rfl, rfl⟩ | ⟨rfl, rfl, rfl⟩ | ⟨rfl, rfl, rfl⟩ | ⟨rfl, rfl, rfl⟩ | ⟨rfl, rfl, rfl⟩ | ⟨rfl, rfl, rfl⟩ | ⟨rfl, rfl, rfl⟩ | ⟨rfl, rfl, rfl⟩ | ⟨rfl, rfl, rfl⟩ | ⟨rfl, rfl, rfl⟩ | ⟨rfl, rfl, rfl⟩
  · exact stop 0 0 (by decide) (by decide) (by decide) (by decide) (by decide) (by decide) rfl (by decide) (by decide)
  · exact stop 0 0 (by decide) (by decide) (by decide) (by decide) (by decide) (by decide) rfl (by decide) (by decide)
  · exact stop 0 0 (by decide) (by decide) (by decide) (by decide) (by decide) (by decide) rfl (by decide) (by decide)
  · exact stop 0 0 (by decide) (by decide) (by decide) (by decide) (by decide) (by decide) rfl (by decide) (by decide)
  · exact stop 1 0 (by decide) (by decide) (by decide) (by decide) (by decide) (by decide) rfl (by decide) (by decide)
  · exact step 1 0 0 (by decide) (by decide) (by decide) (by decide) (by decide) (by decide) rfl rfl <| stop 0 1 (by decide) (by decide) (by decide) (by decide) (by decide) (by decide) rfl (by decide) (by decide)
  · exact step 1 0 0 (by decide) (by decide) (by decide) (by decide) (by decide) (by decide) rfl rfl <| stop 0 1 (by decide) (by decide) (by decide) (by decide) (by decide) (by decide) rfl (by decide) (by decide)
  · exact step 1 0 0 (by decide) (by decide) (by decide) (by decide) (by decide) (by decide) rfl rfl <| stop 0 1 (by decide) (by decide) (by decide) (by decide) (by decide) (by decide) rfl (by decide) (by decide)
  · exact step 2 0 0 (by decide) (by decide) (by decide) (by decide) (by decide) (by decide) rfl rfl <| stop 0 1 (by decide) (by decide) (by decide) (by decide) (by decide) (by decide) rfl (by decide) (by decide)
  · exact stop 2 0 (by decide) (by decide) (by decide) (by decide) (by decide) (by decide) rfl (by decide) (by decide)
  · exact step 2 0 0 (by decide) (by decide) (by decide) (by decide) (by decide) (by decide) rfl rfl <| stop 0 1 (by decide) (by decide) (by decide) (by decide) (by decide) (by decide) rfl (by decide) (by decide)
  · exact step 2 0 0 (by decide) (by decide) (by decide) (by decide) (by decide) (by decide) rfl rfl <| stop 0 1 (by decide) (by decide) (by decide) (by decide) (by decide) (by decide) rfl (by decide) (by decide)
  · exact step 3 0 2 (by decide) (by decide) (by decide) (by decide) (by decide) (by decide) rfl rfl <| step 2 1 0 (by decide) (by decide) (by decide) (by decide) (by decide) (by decide) rfl rfl <| stop 0 2 (by decide) (by decide) (by decide) (by decide) (by decide) (by decide) rfl (by decide) (by decide)
  · exact stop 3 0 (by decide) (by decide) (by decide) (by decide) (by decide) (by decide) rfl (by decide) (by decide)
  · exact stop 3 0 (by decide) (by decide) (by decide) (by decide) (by decide) (by decide) rfl (by decide) (by decide)
  · exact step 3 0 2 (by decide) (by decide) (by decide) (by decide) (by decide) (by decide) rfl rfl <| step 2 1 0 (by decide) (by decide) (by decide) (by decide) (by decide) (by decide) rfl rfl <| stop 0 2 (by decide) (by decide) (by decide) (by decide) (by decide) (by decide) rfl (by decide) (by decide)
  · exact step 4 0 0 (by decide) (by decide) (by decide) (by decide) (by decide) (by decide) rfl rfl <| stop 0 1 (by decide) (by decide) (by decide) (by decide) (by decide) (by decide) rfl (by decide) (by decide)
  · exact step 4 0 0 (by decide) (by decide) (by decide) (by decide) (by decide) (by decide) rfl rfl <| stop 0 1 (by decide) (by decide) (by decide) (by decide) (by decide) (by decide) rfl (by decide) (by decide)
  · exact step 4 0 0 (by decide) (by decide) (by decide) (by decide) (by decide) (by decide) rfl rfl <| stop 0 1 (by decide) (by decide) (by decide) (by decide) (by decide) (by decide) rfl (by decide) (by decide)
  · exact stop 4 0 (by decide) (by decide) (by decide) (by decide) (by decide) (by decide) rfl (by decide) (by decide)
  · exact stop 5 0 (by decide) (by decide) (by decide) (by decide) (by decide) (by decide) rfl (by decide) (by decide)
  · exact step 5 0 1 (by decide) (by decide) (by decide) (by decide) (by decide) (by decide) rfl rfl <| step 1 1 0 (by decide) (by decide) (by decide) (by decide) (by decide) (by decide) rfl rfl <| stop 0 2 (by decide) (by decide) (by decide) (by decide) (by decide) (by decide) rfl (by decide) (by decide)
  · exact stop 5 0 (by decide) (by decide) (by decide) (by decide) (by decide) (by decide) rfl (by decide) (by decide)
  · exact step 5 0 1 (by decide) (by decide) (by decide) (by decide) (by decide) (by decide) rfl rfl <| step 1 1 0 (by decide) (by decide) (by decide) (by decide) (by decide) (by decide) rfl rfl <| stop 0 2 (by decide) (by decide) (by decide) (by decide) (by decide) (by decide) rfl (by decide) (by decide)
  · exact step 6 0 0 (by decide) (by decide) (by decide) (by decide) (by decide) (by decide) rfl rfl <| stop 0 1 (by decide) (by decide) (by decide) (by decide) (by decide) (by decide) rfl (by decide) (by decide)
  · exact stop 6 0 (by decide) (by decide) (by decide) (by decide) (by decide) (by decide) rfl (by decide) (by decide)
  · exact step 6 0 0 (by decide) (by decide) (by decide) (by decide) (by decide) (by decide) rfl rfl <| stop 0 1 (by decide) (by decide) (by decide) (by decide) (by decide) (by decide) rfl (by decide) (by decide)
  · exact step 6 0 0 (by decide) (by decide) (by decide) (by decide) (by decide) (by decide) rfl rfl <| stop 0 1 (by decide) (by decide) (by decide) (by decide) (by decide) (by decide) rfl (by decide) (by decide)
theorem c_own {K N c : Int} {D : Nat} {a : Int} {l : List Int} {V : Int → Int} (hf : fcC K N c D K a l V) : ocC K N c (D + 1) a l V := by
  intro d h x dep hD hbo hran h0 hdep
  have hb2 := hbo
  obtain ⟨e1, e2, e3, e4, e5⟩ := hb2
  have k0 : 0 ≤ h.1 7 4 := by omega
  have k1 : h.1 7 4 < 50 := by omega
  have hc := hf (d - 1) h x dep (by omega) hbo hran h0 hdep
  rw [← e3, ← e1] at hc
  refine zC_of (by decide +kernel) (Nat.le_of_ble_eq_true rfl) (fun X C E => zrun_sound t_X0_own C E [] 60 _ _ _ _ ?_)
  refine And.intro k0 (And.intro k1 ?_)
  refine zcall_i (d' := d - 1) (by omega) hc ?_
  rintro _ _ ⟨rfl, rfl⟩
  exact And.intro rfl rfl
theorem rcC_w {K N c c' : Int} {D D' : Nat} {b : Int} {l : List Int} {V : Int → Int} (h : rcC K N c D b l V) (hc : c ≤ c') (hD : D ≤ D') : rcC K N c' D' b l V := fun d g x dep a1 a2 a3 a4 a5 => h d g x dep (by omega) a2 a3 a4 (by omega)
theorem ocC_w {K N c c' : Int} {D D' : Nat} {b : Int} {l : List Int} {V : Int → Int} (h : ocC K N c D b l V) (hc : c ≤ c') (hD : D ≤ D') : ocC K N c' D' b l V := fun d g x dep a1 a2 a3 a4 a5 => h d g x dep (by omega) a2 a3 a4 (by omega)
theorem ran1 {h : zH} {b : Int} {K N : Int} (hb : bodOK h K N) : bodOK (nC h b) K N := bodOK_L (l := [b]) hb
theorem rc1 {K N : Int} : rcC K N 0 2 1 ([1]) (fun x => x + N) := by
  intro d h x dep hD hbo hran h0 hdep
  have hb1 := ran1 (b := 1) hbo
  have hr0 := hbo.2.2.2.2
  have hr1 : (nC h 1).1 7 3 = h.1 7 3 + 1 := ntG_ran
  simp only [List.length_cons, List.length_append, List.length_nil] at hran
  refine zC_of (by decide +kernel) (Nat.le_of_ble_eq_true rfl) (fun X C E => zrun_sound t_X0_run C E [] 60 _ _ _ _ ?_)
  refine zcall_i (d' := d - 1) (by omega) (c_note h 1 (by omega)) ?_
  rintro _ _ ⟨rfl, rfl⟩
  refine And.intro (by decide) (And.intro (fun _ => ?_) (fun z => absurd rfl z))
  refine And.intro rfl ?_
  show some (sI (x + (nC h 1).1 7 4)) = _
  rw [hb1.1]
theorem rc11 {K N : Int} : rcC K N 0 2 11 ([11]) (fun x => xor32 x N) := by
  intro d h x dep hD hbo hran h0 hdep
  have hb1 := ran1 (b := 11) hbo
  have hr0 := hbo.2.2.2.2
  have hr1 : (nC h 11).1 7 3 = h.1 7 3 + 1 := ntG_ran
  simp only [List.length_cons, List.length_append, List.length_nil] at hran
  refine zC_of (by decide +kernel) (Nat.le_of_ble_eq_true rfl) (fun X C E => zrun_sound t_X0_run C E [] 60 _ _ _ _ ?_)
  refine zcall_i (d' := d - 1) (by omega) (c_note h 11 (by omega)) ?_
  rintro _ _ ⟨rfl, rfl⟩
  refine And.intro (by decide) (And.intro (fun z => absurd z (by decide)) (fun _ => And.intro (fun z => absurd z (by decide)) (fun _ => And.intro (fun z => absurd z (by decide)) (fun _ => And.intro (fun _ => ?_) (fun z => absurd rfl z)))))
  refine And.intro rfl ?_
  show some (sI (xor32 x ((nC h 11).1 7 4))) = _
  rw [hb1.1]
theorem rc20 {K N : Int} : rcC K N 1 4 20 ([20, 1]) (fun x => x + N + 3) := by
  intro d h x dep hD hbo hran h0 hdep
  have hb1 := ran1 (b := 20) hbo
  have hr0 := hbo.2.2.2.2
  have hr1 : (nC h 20).1 7 3 = h.1 7 3 + 1 := ntG_ran
  simp only [List.length_cons, List.length_append, List.length_nil] at hran
  refine zC_of (by decide +kernel) (Nat.le_of_ble_eq_true rfl) (fun X C E => zrun_sound t_X0_run C E [] 60 _ _ _ _ ?_)
  refine zcall_i (d' := d - 1) (by omega) (c_note h 20 (by omega)) ?_
  rintro _ _ ⟨rfl, rfl⟩
  refine And.intro (by decide) (And.intro (fun z => absurd z (by decide)) (fun _ => And.intro (fun z => absurd z (by decide)) (fun _ => And.intro (fun z => absurd z (by decide)) (fun _ => And.intro (fun z => absurd z (by decide)) (fun _ => And.intro (fun _ => ?_) (fun z => absurd rfl z))))))
  refine zcall_i (d' := d - 1) (by omega) ((c_from (k := 0) (a := 0) (Or.inl ⟨rfl, rfl, rfl⟩) (by decide) rc1) (d - 1) _ x dep (by omega) hb1 (by rw [hr1]; (try simp only [List.length_cons, List.length_append, List.length_nil]); omega) h0 (by omega)) ?_
  rintro _ _ ⟨rfl, rfl⟩
  exact And.intro rfl rfl
theorem rc60 {K N : Int} : rcC K N 2 6 60 ([60, 20, 1]) (fun x => (x + N + 3) * 2) := by
  intro d h x dep hD hbo hran h0 hdep
  have hb1 := ran1 (b := 60) hbo
  have hr0 := hbo.2.2.2.2
  have hr1 : (nC h 60).1 7 3 = h.1 7 3 + 1 := ntG_ran
  simp only [List.length_cons, List.length_append, List.length_nil] at hran
  refine zC_of (by decide +kernel) (Nat.le_of_ble_eq_true rfl) (fun X C E => zrun_sound t_X0_run C E [] 60 _ _ _ _ ?_)
  refine zcall_i (d' := d - 1) (by omega) (c_note h 60 (by omega)) ?_
  rintro _ _ ⟨rfl, rfl⟩
  refine And.intro (by decide) (And.intro (fun z => absurd z (by decide)) (fun _ => And.intro (fun z => absurd z (by decide)) (fun _ => And.intro (fun z => absurd z (by decide)) (fun _ => And.intro (fun z => absurd z (by decide)) (fun _ => And.intro (fun z => absurd z (by decide)) (fun _ => And.intro (fun z => absurd z (by decide)) (fun _ => And.intro (fun z => absurd z (by decide)) (fun _ => And.intro (fun z => absurd z (by decide)) (fun _ => And.intro (fun z => absurd z (by decide)) (fun _ => And.intro (fun _ => ?_) (fun z => absurd rfl z)))))))))))
  refine zcall_i (d' := d - 1) (by omega) ((c_from (k := 1) (a := 0) (Or.inr (Or.inr (Or.inr (Or.inr (Or.inl ⟨rfl, rfl, rfl⟩))))) (by decide) rc20) (d - 1) _ x dep (by omega) hb1 (by rw [hr1]; (try simp only [List.length_cons, List.length_append, List.length_nil]); omega) h0 (by omega)) ?_
  rintro _ _ ⟨rfl, rfl⟩
  exact And.intro rfl rfl
theorem K_of {K : Int} (hK : 0 ≤ K ∧ K ≤ 6) : K = 0 ∨ K = 1 ∨ K = 2 ∨ K = 3 ∨ K = 4 ∨ K = 5 ∨ K = 6 := by omega
theorem oGo {K N : Int} (hK : 0 ≤ K ∧ K ≤ 6) : ocC K N 3 9 0 (lGo K) (fun x => vGo K N x) := by
  rcases K_of hK with rfl | rfl | rfl | rfl | rfl | rfl | rfl
  · exact ocC_w (c_own (c_from (k := 0) (a := 0) (Or.inl ⟨rfl, rfl, rfl⟩) (by decide) rc1)) (by decide) (by decide)
  · exact ocC_w (c_own (c_from (k := 1) (a := 0) (Or.inr (Or.inr (Or.inr (Or.inr (Or.inl ⟨rfl, rfl, rfl⟩))))) (by decide) rc20)) (by decide) (by decide)
  · exact ocC_w (c_own (c_from (k := 2) (a := 0) (Or.inr (Or.inr (Or.inr (Or.inr (Or.inr (Or.inr (Or.inr (Or.inr (Or.inl ⟨rfl, rfl, rfl⟩))))))))) (by decide) rc1)) (by decide) (by decide)
  · exact ocC_w (c_own (c_from (k := 3) (a := 0) (Or.inr (Or.inr (Or.inr (Or.inr (Or.inr (Or.inr (Or.inr (Or.inr (Or.inr (Or.inr (Or.inr (Or.inr (Or.inl ⟨rfl, rfl, rfl⟩))))))))))))) (by decide) rc1)) (by decide) (by decide)
  · exact ocC_w (c_own (c_from (k := 4) (a := 0) (Or.inr (Or.inr (Or.inr (Or.inr (Or.inr (Or.inr (Or.inr (Or.inr (Or.inr (Or.inr (Or.inr (Or.inr (Or.inr (Or.inr (Or.inr (Or.inr (Or.inl ⟨rfl, rfl, rfl⟩))))))))))))))))) (by decide) rc1)) (by decide) (by decide)
  · exact ocC_w (c_own (c_from (k := 5) (a := 0) (Or.inr (Or.inr (Or.inr (Or.inr (Or.inr (Or.inr (Or.inr (Or.inr (Or.inr (Or.inr (Or.inr (Or.inr (Or.inr (Or.inr (Or.inr (Or.inr (Or.inr (Or.inr (Or.inr (Or.inr (Or.inl ⟨rfl, rfl, rfl⟩))))))))))))))))))))) (by decide) rc60)) (by decide) (by decide)
  · exact ocC_w (c_own (c_from (k := 6) (a := 0) (Or.inr (Or.inr (Or.inr (Or.inr (Or.inr (Or.inr (Or.inr (Or.inr (Or.inr (Or.inr (Or.inr (Or.inr (Or.inr (Or.inr (Or.inr (Or.inr (Or.inr (Or.inr (Or.inr (Or.inr (Or.inr (Or.inr (Or.inr (Or.inr (Or.inl ⟨rfl, rfl, rfl⟩))))))))))))))))))))))))) (by decide) rc1)) (by decide) (by decide)
theorem rc10 {K N : Int} (hK : 0 ≤ K ∧ K ≤ 6) : rcC K N 3 11 10 (10 :: lGo K) (fun x => vGo K N x * 2) := by
  intro d h x dep hD hbo hran h0 hdep
  have hb1 := ran1 (b := 10) hbo
  have hr0 := hbo.2.2.2.2
  have hr1 : (nC h 10).1 7 3 = h.1 7 3 + 1 := ntG_ran
  simp only [List.length_cons, List.length_append, List.length_nil] at hran
  refine zC_of (by decide +kernel) (Nat.le_of_ble_eq_true rfl) (fun X C E => zrun_sound t_X0_run C E [] 60 _ _ _ _ ?_)
  refine zcall_i (d' := d - 1) (by omega) (c_note h 10 (by omega)) ?_
  rintro _ _ ⟨rfl, rfl⟩
  refine And.intro (by decide) (And.intro (fun z => absurd z (by decide)) (fun _ => And.intro (fun z => absurd z (by decide)) (fun _ => And.intro (fun _ => ?_) (fun z => absurd rfl z))))
  refine zcall_i (d' := d - 1) (by omega) ((oGo hK) (d - 1) _ x dep (by omega) hb1 (by rw [hr1]; (try simp only [List.length_cons, List.length_append, List.length_nil]); omega) h0 (by omega)) ?_
  rintro _ _ ⟨rfl, rfl⟩
  exact And.intro rfl rfl
theorem rc30 {K N : Int} (hK : 0 ≤ K ∧ K ≤ 6) : rcC K N 4 13 30 (30 :: 10 :: lGo K) (fun x => -(vGo K N x * 2)) := by
  intro d h x dep hD hbo hran h0 hdep
  have hb1 := ran1 (b := 30) hbo
  have hr0 := hbo.2.2.2.2
  have hr1 : (nC h 30).1 7 3 = h.1 7 3 + 1 := ntG_ran
  simp only [List.length_cons, List.length_append, List.length_nil] at hran
  refine zC_of (by decide +kernel) (Nat.le_of_ble_eq_true rfl) (fun X C E => zrun_sound t_X0_run C E [] 60 _ _ _ _ ?_)
  refine zcall_i (d' := d - 1) (by omega) (c_note h 30 (by omega)) ?_
  rintro _ _ ⟨rfl, rfl⟩
  refine And.intro (by decide) (And.intro (fun z => absurd z (by decide)) (fun _ => And.intro (fun z => absurd z (by decide)) (fun _ => And.intro (fun z => absurd z (by decide)) (fun _ => And.intro (fun z => absurd z (by decide)) (fun _ => And.intro (fun z => absurd z (by decide)) (fun _ => And.intro (fun _ => ?_) (fun z => absurd rfl z)))))))
  refine zcall_i (d' := d - 1) (by omega) ((c_from (k := 0) (a := 1) (Or.inr (Or.inl ⟨rfl, rfl, rfl⟩)) (by decide) (rc10 hK)) (d - 1) _ x dep (by omega) hb1 (by rw [hr1]; (try simp only [List.length_cons, List.length_append, List.length_nil]); omega) h0 (by omega)) ?_
  rintro _ _ ⟨rfl, rfl⟩
  exact And.intro rfl rfl
theorem rc41 {K N : Int} (hK : 0 ≤ K ∧ K ≤ 6) : rcC K N 5 15 41 (41 :: 30 :: 10 :: lGo K) (fun x => -(vGo K N (x + 1) * 2)) := by
  intro d h x dep hD hbo hran h0 hdep
  have hb1 := ran1 (b := 41) hbo
  have hr0 := hbo.2.2.2.2
  have hr1 : (nC h 41).1 7 3 = h.1 7 3 + 1 := ntG_ran
  simp only [List.length_cons, List.length_append, List.length_nil] at hran
  refine zC_of (by decide +kernel) (Nat.le_of_ble_eq_true rfl) (fun X C E => zrun_sound t_X0_run C E [] 60 _ _ _ _ ?_)
  refine zcall_i (d' := d - 1) (by omega) (c_note h 41 (by omega)) ?_
  rintro _ _ ⟨rfl, rfl⟩
  refine And.intro (by decide) (And.intro (fun z => absurd z (by decide)) (fun _ => And.intro (fun z => absurd z (by decide)) (fun _ => And.intro (fun z => absurd z (by decide)) (fun _ => And.intro (fun z => absurd z (by decide)) (fun _ => And.intro (fun z => absurd z (by decide)) (fun _ => And.intro (fun z => absurd z (by decide)) (fun _ => And.intro (fun z => absurd z (by decide)) (fun _ => And.intro (fun _ => ?_) (fun z => absurd rfl z)))))))))
  refine zcall_i (d' := d - 1) (by omega) ((c_from (k := 2) (a := 1) (Or.inr (Or.inr (Or.inr (Or.inr (Or.inr (Or.inr (Or.inr (Or.inr (Or.inr (Or.inl ⟨rfl, rfl, rfl⟩)))))))))) (by decide) (rc30 hK)) (d - 1) _ (x + 1) dep (by omega) hb1 (by rw [hr1]; (try simp only [List.length_cons, List.length_append, List.length_nil]); omega) h0 (by omega)) ?_
  rintro _ _ ⟨rfl, rfl⟩
  exact And.intro rfl rfl
theorem rc40 {K N : Int} : rcC K N 1 4 40 ([40, 11]) (fun x => xor32 x N * 3) := by
  intro d h x dep hD hbo hran h0 hdep
  have hb1 := ran1 (b := 40) hbo
  have hr0 := hbo.2.2.2.2
  have hr1 : (nC h 40).1 7 3 = h.1 7 3 + 1 := ntG_ran
  simp only [List.length_cons, List.length_append, List.length_nil] at hran
  refine zC_of (by decide +kernel) (Nat.le_of_ble_eq_true rfl) (fun X C E => zrun_sound t_X0_run C E [] 60 _ _ _ _ ?_)
  refine zcall_i (d' := d - 1) (by omega) (c_note h 40 (by omega)) ?_
  rintro _ _ ⟨rfl, rfl⟩
  refine And.intro (by decide) (And.intro (fun z => absurd z (by decide)) (fun _ => And.intro (fun z => absurd z (by decide)) (fun _ => And.intro (fun z => absurd z (by decide)) (fun _ => And.intro (fun z => absurd z (by decide)) (fun _ => And.intro (fun z => absurd z (by decide)) (fun _ => And.intro (fun z => absurd z (by decide)) (fun _ => And.intro (fun _ => ?_) (fun z => absurd rfl z))))))))
  refine zcall_i (d' := d - 1) (by omega) ((c_from (k := 2) (a := 2) (Or.inr (Or.inr (Or.inr (Or.inr (Or.inr (Or.inr (Or.inr (Or.inr (Or.inr (Or.inr (Or.inl ⟨rfl, rfl, rfl⟩))))))))))) (by decide) rc11) (d - 1) _ x dep (by omega) hb1 (by rw [hr1]; (try simp only [List.length_cons, List.length_append, List.length_nil]); omega) h0 (by omega)) ?_
  rintro _ _ ⟨rfl, rfl⟩
  exact And.intro rfl rfl
theorem rc61 {K N : Int} (hK : 0 ≤ K ∧ K ≤ 6) : rcC K N 4 11 61 (61 :: 11 :: lGo K) (fun x => xor32 x N + vGo K N 2) := by
  intro d h x dep hD hbo hran h0 hdep
  have hb1 := ran1 (b := 61) hbo
  have hr0 := hbo.2.2.2.2
  have hr1 : (nC h 61).1 7 3 = h.1 7 3 + 1 := ntG_ran
  simp only [List.length_cons, List.length_append, List.length_nil] at hran
  refine zC_of (by decide +kernel) (Nat.le_of_ble_eq_true rfl) (fun X C E => zrun_sound t_X0_run C E [] 60 _ _ _ _ ?_)
  refine zcall_i (d' := d - 1) (by omega) (c_note h 61 (by omega)) ?_
  rintro _ _ ⟨rfl, rfl⟩
  refine And.intro (by decide) (And.intro (fun z => absurd z (by decide)) (fun _ => And.intro (fun z => absurd z (by decide)) (fun _ => And.intro (fun z => absurd z (by decide)) (fun _ => And.intro (fun z => absurd z (by decide)) (fun _ => And.intro (fun z => absurd z (by decide)) (fun _ => And.intro (fun z => absurd z (by decide)) (fun _ => And.intro (fun z => absurd z (by decide)) (fun _ => And.intro (fun z => absurd z (by decide)) (fun _ => And.intro (fun z => absurd z (by decide)) (fun _ => And.intro (fun z => absurd z (by decide)) (fun _ => And.intro (fun _ => ?_) (fun z => absurd rfl z))))))))))))
  refine zcall_i (d' := d - 1) (by omega) ((c_from (k := 1) (a := 2) (Or.inr (Or.inr (Or.inr (Or.inr (Or.inr (Or.inr (Or.inl ⟨rfl, rfl, rfl⟩))))))) (by decide) rc11) (d - 1) _ x dep (by omega) hb1 (by rw [hr1]; (try simp only [List.length_cons, List.length_append, List.length_nil]); omega) h0 (by omega)) ?_
  rintro _ _ ⟨rfl, rfl⟩
  refine zcall_i (d' := d - 1) (by omega) ((oGo hK) (d - 1) _ 2 dep (by omega) (bodOK_L hb1) (by rw [ntL_ran, hr1]; (try simp only [List.length_cons, List.length_append, List.length_nil]); omega) h0 (by omega)) ?_
  rintro _ _ ⟨rfl, rfl⟩
  exact And.intro (ntL_app _ _ _) rfl
theorem oWe {K N : Int} (hK : 0 ≤ K ∧ K ≤ 6) : ocC K N 5 14 2 (lWe K) (fun x => vWe K N x) := by
  rcases K_of hK with rfl | rfl | rfl | rfl | rfl | rfl | rfl
  · exact ocC_w (c_own (c_from (k := 0) (a := 2) (Or.inr (Or.inr (Or.inl ⟨rfl, rfl, rfl⟩))) (by decide) rc11)) (by decide) (by decide)
  · exact ocC_w (c_own (c_from (k := 1) (a := 2) (Or.inr (Or.inr (Or.inr (Or.inr (Or.inr (Or.inr (Or.inl ⟨rfl, rfl, rfl⟩))))))) (by decide) rc11)) (by decide) (by decide)
  · exact ocC_w (c_own (c_from (k := 2) (a := 2) (Or.inr (Or.inr (Or.inr (Or.inr (Or.inr (Or.inr (Or.inr (Or.inr (Or.inr (Or.inr (Or.inl ⟨rfl, rfl, rfl⟩))))))))))) (by decide) rc11)) (by decide) (by decide)
  · exact ocC_w (c_own (c_from (k := 3) (a := 2) (Or.inr (Or.inr (Or.inr (Or.inr (Or.inr (Or.inr (Or.inr (Or.inr (Or.inr (Or.inr (Or.inr (Or.inr (Or.inr (Or.inr (Or.inl ⟨rfl, rfl, rfl⟩))))))))))))))) (by decide) rc40)) (by decide) (by decide)
  · exact ocC_w (c_own (c_from (k := 4) (a := 2) (Or.inr (Or.inr (Or.inr (Or.inr (Or.inr (Or.inr (Or.inr (Or.inr (Or.inr (Or.inr (Or.inr (Or.inr (Or.inr (Or.inr (Or.inr (Or.inr (Or.inr (Or.inr (Or.inl ⟨rfl, rfl, rfl⟩))))))))))))))))))) (by decide) rc11)) (by decide) (by decide)
  · exact ocC_w (c_own (c_from (k := 5) (a := 2) (Or.inr (Or.inr (Or.inr (Or.inr (Or.inr (Or.inr (Or.inr (Or.inr (Or.inr (Or.inr (Or.inr (Or.inr (Or.inr (Or.inr (Or.inr (Or.inr (Or.inr (Or.inr (Or.inr (Or.inr (Or.inr (Or.inr (Or.inl ⟨rfl, rfl, rfl⟩))))))))))))))))))))))) (by decide) (rc61 hK))) (by decide) (by decide)
  · exact ocC_w (c_own (c_from (k := 6) (a := 2) (Or.inr (Or.inr (Or.inr (Or.inr (Or.inr (Or.inr (Or.inr (Or.inr (Or.inr (Or.inr (Or.inr (Or.inr (Or.inr (Or.inr (Or.inr (Or.inr (Or.inr (Or.inr (Or.inr (Or.inr (Or.inr (Or.inr (Or.inr (Or.inr (Or.inr (Or.inr (Or.inl ⟨rfl, rfl, rfl⟩))))))))))))))))))))))))))) (by decide) rc11)) (by decide) (by decide)
theorem rc70 {K N : Int} (hK : 0 ≤ K ∧ K ≤ 6) : rcC K N 5 16 70 (70 :: (10 :: lGo K ++ lWe K)) (fun x => vGo K N x * 2 - vWe K N 2) := by
  intro d h x dep hD hbo hran h0 hdep
  have hb1 := ran1 (b := 70) hbo
  have hr0 := hbo.2.2.2.2
  have hr1 : (nC h 70).1 7 3 = h.1 7 3 + 1 := ntG_ran
  simp only [List.length_cons, List.length_append, List.length_nil] at hran
  refine zC_of (by decide +kernel) (Nat.le_of_ble_eq_true rfl) (fun X C E => zrun_sound t_X0_run C E [] 60 _ _ _ _ ?_)
  refine zcall_i (d' := d - 1) (by omega) (c_note h 70 (by omega)) ?_
  rintro _ _ ⟨rfl, rfl⟩
  refine And.intro (by decide) (And.intro (fun z => absurd z (by decide)) (fun _ => And.intro (fun z => absurd z (by decide)) (fun _ => And.intro (fun z => absurd z (by decide)) (fun _ => And.intro (fun z => absurd z (by decide)) (fun _ => And.intro (fun z => absurd z (by decide)) (fun _ => And.intro (fun z => absurd z (by decide)) (fun _ => And.intro (fun z => absurd z (by decide)) (fun _ => And.intro (fun z => absurd z (by decide)) (fun _ => And.intro (fun z => absurd z (by decide)) (fun _ => And.intro (fun z => absurd z (by decide)) (fun _ => And.intro (fun z => absurd z (by decide)) (fun _ => And.intro (fun _ => ?_) (fun z => absurd rfl z)))))))))))))
  refine zcall_i (d' := d - 1) (by omega) ((c_from (k := 0) (a := 1) (Or.inr (Or.inl ⟨rfl, rfl, rfl⟩)) (by decide) (rc10 hK)) (d - 1) _ x dep (by omega) hb1 (by rw [hr1]; (try simp only [List.length_cons, List.length_append, List.length_nil]); omega) h0 (by omega)) ?_
  rintro _ _ ⟨rfl, rfl⟩
  refine zcall_i (d' := d - 1) (by omega) ((oWe hK) (d - 1) _ 2 dep (by omega) (bodOK_L hb1) (by rw [ntL_ran, hr1]; (try simp only [List.length_cons, List.length_append, List.length_nil]); omega) h0 (by omega)) ?_
  rintro _ _ ⟨rfl, rfl⟩
  exact And.intro (ntL_app _ _ _) rfl
theorem oWa {K N : Int} (hK : 0 ≤ K ∧ K ≤ 6) : ocC K N 7 18 1 (lWa K) (fun x => vWa K N x) := by
  rcases K_of hK with rfl | rfl | rfl | rfl | rfl | rfl | rfl
  · exact ocC_w (c_own (c_from (k := 0) (a := 1) (Or.inr (Or.inl ⟨rfl, rfl, rfl⟩)) (by decide) (rc10 hK))) (by decide) (by decide)
  · exact ocC_w (c_own (c_from (k := 1) (a := 1) (Or.inr (Or.inr (Or.inr (Or.inr (Or.inr (Or.inl ⟨rfl, rfl, rfl⟩)))))) (by decide) (rc10 hK))) (by decide) (by decide)
  · exact ocC_w (c_own (c_from (k := 2) (a := 1) (Or.inr (Or.inr (Or.inr (Or.inr (Or.inr (Or.inr (Or.inr (Or.inr (Or.inr (Or.inl ⟨rfl, rfl, rfl⟩)))))))))) (by decide) (rc30 hK))) (by decide) (by decide)
  · exact ocC_w (c_own (c_from (k := 3) (a := 1) (Or.inr (Or.inr (Or.inr (Or.inr (Or.inr (Or.inr (Or.inr (Or.inr (Or.inr (Or.inr (Or.inr (Or.inr (Or.inr (Or.inl ⟨rfl, rfl, rfl⟩)))))))))))))) (by decide) (rc41 hK))) (by decide) (by decide)
  · exact ocC_w (c_own (c_from (k := 4) (a := 1) (Or.inr (Or.inr (Or.inr (Or.inr (Or.inr (Or.inr (Or.inr (Or.inr (Or.inr (Or.inr (Or.inr (Or.inr (Or.inr (Or.inr (Or.inr (Or.inr (Or.inr (Or.inl ⟨rfl, rfl, rfl⟩)))))))))))))))))) (by decide) (rc10 hK))) (by decide) (by decide)
  · exact ocC_w (c_own (c_from (k := 5) (a := 1) (Or.inr (Or.inr (Or.inr (Or.inr (Or.inr (Or.inr (Or.inr (Or.inr (Or.inr (Or.inr (Or.inr (Or.inr (Or.inr (Or.inr (Or.inr (Or.inr (Or.inr (Or.inr (Or.inr (Or.inr (Or.inr (Or.inl ⟨rfl, rfl, rfl⟩)))))))))))))))))))))) (by decide) (rc10 hK))) (by decide) (by decide)
  · exact ocC_w (c_own (c_from (k := 6) (a := 1) (Or.inr (Or.inr (Or.inr (Or.inr (Or.inr (Or.inr (Or.inr (Or.inr (Or.inr (Or.inr (Or.inr (Or.inr (Or.inr (Or.inr (Or.inr (Or.inr (Or.inr (Or.inr (Or.inr (Or.inr (Or.inr (Or.inr (Or.inr (Or.inr (Or.inr (Or.inl ⟨rfl, rfl, rfl⟩)))))))))))))))))))))))))) (by decide) (rc70 hK))) (by decide) (by decide)
theorem rc2 {K N : Int} (hK : 0 ≤ K ∧ K ≤ 6) : rcC K N 7 20 2 (2 :: (lWa K ++ lWe K)) (fun x => vWa K N x - vWe K N 1) := by
  intro d h x dep hD hbo hran h0 hdep
  have hb1 := ran1 (b := 2) hbo
  have hr0 := hbo.2.2.2.2
  have hr1 : (nC h 2).1 7 3 = h.1 7 3 + 1 := ntG_ran
  simp only [List.length_cons, List.length_append, List.length_nil] at hran
  refine zC_of (by decide +kernel) (Nat.le_of_ble_eq_true rfl) (fun X C E => zrun_sound t_X0_run C E [] 60 _ _ _ _ ?_)
  refine zcall_i (d' := d - 1) (by omega) (c_note h 2 (by omega)) ?_
  rintro _ _ ⟨rfl, rfl⟩
  refine And.intro (by decide) (And.intro (fun z => absurd z (by decide)) (fun _ => And.intro (fun _ => ?_) (fun z => absurd rfl z)))
  refine zcall_i (d' := d - 1) (by omega) ((oWa hK) (d - 1) _ x dep (by omega) hb1 (by rw [hr1]; (try simp only [List.length_cons, List.length_append, List.length_nil]); omega) h0 (by omega)) ?_
  rintro _ _ ⟨rfl, rfl⟩
  refine zcall_i (d' := d - 1) (by omega) ((oWe hK) (d - 1) _ 1 dep (by omega) (bodOK_L hb1) (by rw [ntL_ran, hr1]; (try simp only [List.length_cons, List.length_append, List.length_nil]); omega) h0 (by omega)) ?_
  rintro _ _ ⟨rfl, rfl⟩
  exact And.intro (ntL_app _ _ _) rfl
theorem rc50 {K N : Int} (hK : 0 ≤ K ∧ K ≤ 6) : rcC K N 8 22 50 (50 :: 2 :: (lWa K ++ lWe K)) (fun x => xor32 (vWa K N x - vWe K N 1) 5) := by
  intro d h x dep hD hbo hran h0 hdep
  have hb1 := ran1 (b := 50) hbo
  have hr0 := hbo.2.2.2.2
  have hr1 : (nC h 50).1 7 3 = h.1 7 3 + 1 := ntG_ran
  simp only [List.length_cons, List.length_append, List.length_nil] at hran
  refine zC_of (by decide +kernel) (Nat.le_of_ble_eq_true rfl) (fun X C E => zrun_sound t_X0_run C E [] 60 _ _ _ _ ?_)
  refine zcall_i (d' := d - 1) (by omega) (c_note h 50 (by omega)) ?_
  rintro _ _ ⟨rfl, rfl⟩
  refine And.intro (by decide) (And.intro (fun z => absurd z (by decide)) (fun _ => And.intro (fun z => absurd z (by decide)) (fun _ => And.intro (fun z => absurd z (by decide)) (fun _ => And.intro (fun z => absurd z (by decide)) (fun _ => And.intro (fun z => absurd z (by decide)) (fun _ => And.intro (fun z => absurd z (by decide)) (fun _ => And.intro (fun z => absurd z (by decide)) (fun _ => And.intro (fun z => absurd z (by decide)) (fun _ => And.intro (fun _ => ?_) (fun z => absurd rfl z))))))))))
  refine zcall_i (d' := d - 1) (by omega) ((c_from (k := 0) (a := 3) (Or.inr (Or.inr (Or.inr (Or.inl ⟨rfl, rfl, rfl⟩)))) (by decide) (rc2 hK)) (d - 1) _ x dep (by omega) hb1 (by rw [hr1]; (try simp only [List.length_cons, List.length_append, List.length_nil]); omega) h0 (by omega)) ?_
  rintro _ _ ⟨rfl, rfl⟩
  exact And.intro rfl rfl
theorem oTe {K N : Int} (hK : 0 ≤ K ∧ K ≤ 6) : ocC K N 9 24 3 (lTe K) (fun x => vTe K N x) := by
  rcases K_of hK with rfl | rfl | rfl | rfl | rfl | rfl | rfl
  · exact ocC_w (c_own (c_from (k := 0) (a := 3) (Or.inr (Or.inr (Or.inr (Or.inl ⟨rfl, rfl, rfl⟩)))) (by decide) (rc2 hK))) (by decide) (by decide)
  · exact ocC_w (c_own (c_from (k := 1) (a := 3) (Or.inr (Or.inr (Or.inr (Or.inr (Or.inr (Or.inr (Or.inr (Or.inl ⟨rfl, rfl, rfl⟩)))))))) (by decide) (rc2 hK))) (by decide) (by decide)
  · exact ocC_w (c_own (c_from (k := 2) (a := 3) (Or.inr (Or.inr (Or.inr (Or.inr (Or.inr (Or.inr (Or.inr (Or.inr (Or.inr (Or.inr (Or.inr (Or.inl ⟨rfl, rfl, rfl⟩)))))))))))) (by decide) (rc2 hK))) (by decide) (by decide)
  · exact ocC_w (c_own (c_from (k := 3) (a := 3) (Or.inr (Or.inr (Or.inr (Or.inr (Or.inr (Or.inr (Or.inr (Or.inr (Or.inr (Or.inr (Or.inr (Or.inr (Or.inr (Or.inr (Or.inr (Or.inl ⟨rfl, rfl, rfl⟩)))))))))))))))) (by decide) (rc2 hK))) (by decide) (by decide)
  · exact ocC_w (c_own (c_from (k := 4) (a := 3) (Or.inr (Or.inr (Or.inr (Or.inr (Or.inr (Or.inr (Or.inr (Or.inr (Or.inr (Or.inr (Or.inr (Or.inr (Or.inr (Or.inr (Or.inr (Or.inr (Or.inr (Or.inr (Or.inr (Or.inl ⟨rfl, rfl, rfl⟩)))))))))))))))))))) (by decide) (rc50 hK))) (by decide) (by decide)
  · exact ocC_w (c_own (c_from (k := 5) (a := 3) (Or.inr (Or.inr (Or.inr (Or.inr (Or.inr (Or.inr (Or.inr (Or.inr (Or.inr (Or.inr (Or.inr (Or.inr (Or.inr (Or.inr (Or.inr (Or.inr (Or.inr (Or.inr (Or.inr (Or.inr (Or.inr (Or.inr (Or.inr (Or.inl ⟨rfl, rfl, rfl⟩)))))))))))))))))))))))) (by decide) (rc2 hK))) (by decide) (by decide)
  · exact ocC_w (c_own (c_from (k := 6) (a := 3) (Or.inr (Or.inr (Or.inr (Or.inr (Or.inr (Or.inr (Or.inr (Or.inr (Or.inr (Or.inr (Or.inr (Or.inr (Or.inr (Or.inr (Or.inr (Or.inr (Or.inr (Or.inr (Or.inr (Or.inr (Or.inr (Or.inr (Or.inr (Or.inr (Or.inr (Or.inr (Or.inr (⟨rfl, rfl, rfl⟩)))))))))))))))))))))))))))) (by decide) (rc2 hK))) (by decide) (by decide)
/-! the reference's acts -/
def modOK (h : zH) (K N : Int) : Prop := h.1 52 48 = K ∧ h.1 52 49 = N ∧ 0 ≤ h.1 52 47
theorem modOK_L {h : zH} {K N : Int} {l : List Int} (hb : modOK h K N) : modOK (nML h l) K N := by
  obtain ⟨a, b, c⟩ := hb
  refine ⟨(ntL_cc (by decide) (by decide) l h).trans a, (ntL_cc (by decide) (by decide) l h).trans b, ?_⟩
  rw [ntL_ran]
  omega
theorem modOK_1 {h : zH} {b : Int} {K N : Int} (hb : modOK h K N) : modOK (nM h b) K N := modOK_L (l := [b]) hb
theorem c_begins {d : Nat} (h : zH) (b : Int) (hr : 0 ≤ h.1 52 47 ∧ h.1 52 47 ≤ 1000) : zC d k_X9_begins [sR 52, sI b] h (fun o g => o = none ∧ g = nM h b) := by
  refine zC_of (by decide +kernel) (Nat.le_of_ble_eq_true rfl) (fun X C E => zrun_sound t_X9_begins C E [] 60 _ _ _ _ ?_)
  unfold nM ntG
  refine And.intro (by omega) (And.intro (by omega) (And.intro (fun c => ?_) (fun c => ?_)))
  · rw [if_neg (Int.not_lt.mpr c)]
    exact And.intro rfl rfl
  · rw [if_pos (Int.not_le.mp c)]
    exact And.intro hr.1 (And.intro (Int.not_le.mp c) (And.intro rfl rfl))
theorem zC_arg {d : Nat} {k : zM} {a b x : Int} {h : zH} {Q : zQ} (e : a = b) (hC : zC d k [sR 52, sI b, sI x] h Q) : zC d k [sR 52, sI a, sI x] h Q := by
  subst e
  exact hC
def mC (K N : Int) (D : Nat) (y : zM) (k : Int) (l : List Int) (V : Int → Int) : Prop := ∀ (d : Nat) (h : zH) (x : Int), D ≤ d → modOK h K N → h.1 52 47 + (l.length : Int) ≤ 1000 → zC d y [sR 52, sI k, sI x] h (fun o g => g = nML h l ∧ o = some (sI (V x)))
theorem mC_w {K N : Int} {D D' : Nat} {y : zM} {k : Int} {l : List Int} {V : Int → Int} (h : mC K N D y k l V) (hD : D ≤ D') : mC K N D' y k l V := fun d g x a1 a2 a3 => h d g x (by omega) a2 a3
theorem g0 {K N : Int} {k : Int} (hk : inR k) (h5 : ¬ k = 5) (h1 : ¬ k = 1) : mC K N 2 k_X9_goesAs k ([1]) (fun x => x + N) := by
  intro d h x hD hbo hran
  have hb1 := modOK_1 (b := 1) hbo
  have hr0 := hbo.2.2
  have hr1 : (nM h 1).1 52 47 = h.1 52 47 + 1 := ntG_ran
  simp only [List.length_cons, List.length_append, List.length_nil] at hran
  refine zC_of (by decide +kernel) (Nat.le_of_ble_eq_true rfl) (fun X C E => zrun_sound t_X9_goesAs C E [] 60 _ _ _ _ ?_)
  refine And.intro hk (And.intro (by decide) (And.intro (fun _ => ?_) (fun c => absurd c h5)))
  refine And.intro hk (And.intro (by decide) (And.intro (fun _ => ?_) (fun c => absurd c h1)))
  refine zcall_i (d' := d - 1) (by omega) (c_begins h 1 (by omega)) ?_
  rintro _ _ ⟨rfl, rfl⟩
  refine And.intro rfl ?_
  show some (sI (x + (nM h 1).1 52 49)) = _
  rw [hb1.2.1]
theorem g1 {K N : Int} : mC K N 3 k_X9_goesAs 1 ([20, 1]) (fun x => x + N + 3) := by
  intro d h x hD hbo hran
  have hb1 := modOK_1 (b := 20) hbo
  have hr0 := hbo.2.2
  have hr1 : (nM h 20).1 52 47 = h.1 52 47 + 1 := ntG_ran
  simp only [List.length_cons, List.length_append, List.length_nil] at hran
  refine zC_of (by decide +kernel) (Nat.le_of_ble_eq_true rfl) (fun X C E => zrun_sound t_X9_goesAs C E [] 60 _ _ _ _ ?_)
  refine And.intro (by decide) (And.intro (by decide) (And.intro (fun _ => ?_) (fun c => absurd c (by decide))))
  refine And.intro (by decide) (And.intro (by decide) (And.intro (fun c => absurd rfl c) (fun _ => ?_)))
  refine zcall_i (d' := d - 1) (by omega) (c_begins h 20 (by omega)) ?_
  rintro _ _ ⟨rfl, rfl⟩
  refine zcall_i (d' := d - 1) (by omega) ((g0 (k := 0) (by decide) (by decide) (by decide)) (d - 1) _ x (by omega) hb1 (by rw [hr1]; (try simp only [List.length_cons, List.length_append, List.length_nil]); omega)) ?_
  rintro _ _ ⟨rfl, rfl⟩
  exact And.intro rfl rfl
theorem g5 {K N : Int} : mC K N 4 k_X9_goesAs 5 ([60, 20, 1]) (fun x => (x + N + 3) * 2) := by
  intro d h x hD hbo hran
  have hb1 := modOK_1 (b := 60) hbo
  have hr0 := hbo.2.2
  have hr1 : (nM h 60).1 52 47 = h.1 52 47 + 1 := ntG_ran
  simp only [List.length_cons, List.length_append, List.length_nil] at hran
  refine zC_of (by decide +kernel) (Nat.le_of_ble_eq_true rfl) (fun X C E => zrun_sound t_X9_goesAs C E [] 60 _ _ _ _ ?_)
  refine And.intro (by decide) (And.intro (by decide) (And.intro (fun c => absurd rfl c) (fun _ => ?_)))
  refine zcall_i (d' := d - 1) (by omega) (c_begins h 60 (by omega)) ?_
  rintro _ _ ⟨rfl, rfl⟩
  refine zcall_i (d' := d - 1) (by omega) (g1 (d - 1) _ x (by omega) hb1 (by rw [hr1]; (try simp only [List.length_cons, List.length_append, List.length_nil]); omega)) ?_
  rintro _ _ ⟨rfl, rfl⟩
  exact And.intro rfl rfl
theorem gK {K N : Int} (hK : 0 ≤ K ∧ K ≤ 6) : mC K N 5 k_X9_goesAs K (lGo K) (fun x => vGo K N x) := by
  rcases K_of hK with rfl | rfl | rfl | rfl | rfl | rfl | rfl
  · exact mC_w (g0 (by decide) (by decide) (by decide)) (by decide)
  · exact mC_w g1 (by decide)
  · exact mC_w (g0 (by decide) (by decide) (by decide)) (by decide)
  · exact mC_w (g0 (by decide) (by decide) (by decide)) (by decide)
  · exact mC_w (g0 (by decide) (by decide) (by decide)) (by decide)
  · exact mC_w g5 (by decide)
  · exact mC_w (g0 (by decide) (by decide) (by decide)) (by decide)
theorem w0 {K N : Int} {k : Int} (hk : inR k) (h3 : ¬ k = 3) (h5 : ¬ k = 5) : mC K N 2 k_X9_wetsAs k ([11]) (fun x => xor32 x N) := by
  intro d h x hD hbo hran
  have hb1 := modOK_1 (b := 11) hbo
  have hr0 := hbo.2.2
  have hr1 : (nM h 11).1 52 47 = h.1 52 47 + 1 := ntG_ran
  simp only [List.length_cons, List.length_append, List.length_nil] at hran
  refine zC_of (by decide +kernel) (Nat.le_of_ble_eq_true rfl) (fun X C E => zrun_sound t_X9_wetsAs C E [] 60 _ _ _ _ ?_)
  refine And.intro hk (And.intro (by decide) (And.intro (fun _ => ?_) (fun c => absurd c h3)))
  refine And.intro hk (And.intro (by decide) (And.intro (fun _ => ?_) (fun c => absurd c h5)))
  refine zcall_i (d' := d - 1) (by omega) (c_begins h 11 (by omega)) ?_
  rintro _ _ ⟨rfl, rfl⟩
  refine And.intro rfl ?_
  show some (sI (xor32 x ((nM h 11).1 52 49))) = _
  rw [hb1.2.1]
theorem w3 {K N : Int} : mC K N 3 k_X9_wetsAs 3 ([40, 11]) (fun x => xor32 x N * 3) := by
  intro d h x hD hbo hran
  have hb1 := modOK_1 (b := 40) hbo
  have hr0 := hbo.2.2
  have hr1 : (nM h 40).1 52 47 = h.1 52 47 + 1 := ntG_ran
  simp only [List.length_cons, List.length_append, List.length_nil] at hran
  refine zC_of (by decide +kernel) (Nat.le_of_ble_eq_true rfl) (fun X C E => zrun_sound t_X9_wetsAs C E [] 60 _ _ _ _ ?_)
  refine And.intro (by decide) (And.intro (by decide) (And.intro (fun c => absurd rfl c) (fun _ => ?_)))
  refine zcall_i (d' := d - 1) (by omega) (c_begins h 40 (by omega)) ?_
  rintro _ _ ⟨rfl, rfl⟩
  refine zcall_i (d' := d - 1) (by omega) ((w0 (k := 2) (by decide) (by decide) (by decide)) (d - 1) _ x (by omega) hb1 (by rw [hr1]; (try simp only [List.length_cons, List.length_append, List.length_nil]); omega)) ?_
  rintro _ _ ⟨rfl, rfl⟩
  exact And.intro rfl rfl
theorem w5 {K N : Int} (hK : 0 ≤ K ∧ K ≤ 6) : mC K N 7 k_X9_wetsAs 5 (61 :: 11 :: lGo K) (fun x => xor32 x N + vGo K N 2) := by
  intro d h x hD hbo hran
  have hb1 := modOK_1 (b := 61) hbo
  have hr0 := hbo.2.2
  have hr1 : (nM h 61).1 52 47 = h.1 52 47 + 1 := ntG_ran
  simp only [List.length_cons, List.length_append, List.length_nil] at hran
  refine zC_of (by decide +kernel) (Nat.le_of_ble_eq_true rfl) (fun X C E => zrun_sound t_X9_wetsAs C E [] 60 _ _ _ _ ?_)
  refine And.intro (by decide) (And.intro (by decide) (And.intro (fun _ => ?_) (fun c => absurd c (by decide))))
  refine And.intro (by decide) (And.intro (by decide) (And.intro (fun c => absurd rfl c) (fun _ => ?_)))
  refine zcall_i (d' := d - 1) (by omega) (c_begins h 61 (by omega)) ?_
  rintro _ _ ⟨rfl, rfl⟩
  refine zcall_i (d' := d - 1) (by omega) ((w0 (k := 1) (by decide) (by decide) (by decide)) (d - 1) _ x (by omega) hb1 (by rw [hr1]; (try simp only [List.length_cons, List.length_append, List.length_nil]); omega)) ?_
  rintro _ _ ⟨rfl, rfl⟩
  refine zcall_i (d' := d - 1) (by omega) (zC_arg (modOK_L hb1).1 (gK hK (d - 1) _ 2 (by omega) (modOK_L hb1) (by rw [ntL_ran, hr1]; (try simp only [List.length_cons, List.length_append, List.length_nil]); omega))) ?_
  rintro _ _ ⟨rfl, rfl⟩
  exact And.intro (ntL_app _ _ _) rfl
theorem wK {K N : Int} (hK : 0 ≤ K ∧ K ≤ 6) : mC K N 8 k_X9_wetsAs K (lWe K) (fun x => vWe K N x) := by
  rcases K_of hK with rfl | rfl | rfl | rfl | rfl | rfl | rfl
  · exact mC_w (w0 (by decide) (by decide) (by decide)) (by decide)
  · exact mC_w (w0 (by decide) (by decide) (by decide)) (by decide)
  · exact mC_w (w0 (by decide) (by decide) (by decide)) (by decide)
  · exact mC_w w3 (by decide)
  · exact mC_w (w0 (by decide) (by decide) (by decide)) (by decide)
  · exact mC_w (w5 (by decide)) (by decide)
  · exact mC_w (w0 (by decide) (by decide) (by decide)) (by decide)
theorem a0 {K N : Int} (hK : 0 ≤ K ∧ K ≤ 6) {k : Int} (hk : inR k) (h3 : ¬ k = 3) (h2 : ¬ k = 2) (h6 : ¬ k = 6) : mC K N 8 k_X9_waitsAs k (10 :: lGo K) (fun x => vGo K N x * 2) := by
  intro d h x hD hbo hran
  have hb1 := modOK_1 (b := 10) hbo
  have hr0 := hbo.2.2
  have hr1 : (nM h 10).1 52 47 = h.1 52 47 + 1 := ntG_ran
  simp only [List.length_cons, List.length_append, List.length_nil] at hran
  refine zC_of (by decide +kernel) (Nat.le_of_ble_eq_true rfl) (fun X C E => zrun_sound t_X9_waitsAs C E [] 60 _ _ _ _ ?_)
  refine And.intro hk (And.intro (by decide) (And.intro (fun _ => ?_) (fun c => absurd c h3)))
  refine And.intro hk (And.intro (by decide) (And.intro (fun _ => ?_) (fun c => absurd c h2)))
  refine And.intro hk (And.intro (by decide) (And.intro (fun _ => ?_) (fun c => absurd c h6)))
  refine zcall_i (d' := d - 1) (by omega) (c_begins h 10 (by omega)) ?_
  rintro _ _ ⟨rfl, rfl⟩
  refine zcall_i (d' := d - 1) (by omega) (zC_arg hb1.1 (gK hK (d - 1) _ x (by omega) hb1 (by rw [hr1]; (try simp only [List.length_cons, List.length_append, List.length_nil]); omega))) ?_
  rintro _ _ ⟨rfl, rfl⟩
  exact And.intro rfl rfl
theorem a2 {K N : Int} (hK : 0 ≤ K ∧ K ≤ 6) : mC K N 9 k_X9_waitsAs 2 (30 :: 10 :: lGo K) (fun x => -(vGo K N x * 2)) := by
  intro d h x hD hbo hran
  have hb1 := modOK_1 (b := 30) hbo
  have hr0 := hbo.2.2
  have hr1 : (nM h 30).1 52 47 = h.1 52 47 + 1 := ntG_ran
  simp only [List.length_cons, List.length_append, List.length_nil] at hran
  refine zC_of (by decide +kernel) (Nat.le_of_ble_eq_true rfl) (fun X C E => zrun_sound t_X9_waitsAs C E [] 60 _ _ _ _ ?_)
  refine And.intro (by decide) (And.intro (by decide) (And.intro (fun _ => ?_) (fun c => absurd c (by decide))))
  refine And.intro (by decide) (And.intro (by decide) (And.intro (fun c => absurd rfl c) (fun _ => ?_)))
  refine zcall_i (d' := d - 1) (by omega) (c_begins h 30 (by omega)) ?_
  rintro _ _ ⟨rfl, rfl⟩
  refine zcall_i (d' := d - 1) (by omega) ((a0 (k := 0) hK (by decide) (by decide) (by decide) (by decide)) (d - 1) _ x (by omega) hb1 (by rw [hr1]; (try simp only [List.length_cons, List.length_append, List.length_nil]); omega)) ?_
  rintro _ _ ⟨rfl, rfl⟩
  exact And.intro rfl rfl
theorem a3 {K N : Int} (hK : 0 ≤ K ∧ K ≤ 6) : mC K N 10 k_X9_waitsAs 3 (41 :: 30 :: 10 :: lGo K) (fun x => -(vGo K N (x + 1) * 2)) := by
  intro d h x hD hbo hran
  have hb1 := modOK_1 (b := 41) hbo
  have hr0 := hbo.2.2
  have hr1 : (nM h 41).1 52 47 = h.1 52 47 + 1 := ntG_ran
  simp only [List.length_cons, List.length_append, List.length_nil] at hran
  refine zC_of (by decide +kernel) (Nat.le_of_ble_eq_true rfl) (fun X C E => zrun_sound t_X9_waitsAs C E [] 60 _ _ _ _ ?_)
  refine And.intro (by decide) (And.intro (by decide) (And.intro (fun c => absurd rfl c) (fun _ => ?_)))
  refine zcall_i (d' := d - 1) (by omega) (c_begins h 41 (by omega)) ?_
  rintro _ _ ⟨rfl, rfl⟩
  refine zcall_i (d' := d - 1) (by omega) (a2 hK (d - 1) _ (x + 1) (by omega) hb1 (by rw [hr1]; (try simp only [List.length_cons, List.length_append, List.length_nil]); omega)) ?_
  rintro _ _ ⟨rfl, rfl⟩
  exact And.intro rfl rfl
theorem a6 {K N : Int} (hK : 0 ≤ K ∧ K ≤ 6) : mC K N 11 k_X9_waitsAs 6 (70 :: (10 :: lGo K ++ lWe K)) (fun x => vGo K N x * 2 - vWe K N 2) := by
  intro d h x hD hbo hran
  have hb1 := modOK_1 (b := 70) hbo
  have hr0 := hbo.2.2
  have hr1 : (nM h 70).1 52 47 = h.1 52 47 + 1 := ntG_ran
  simp only [List.length_cons, List.length_append, List.length_nil] at hran
  refine zC_of (by decide +kernel) (Nat.le_of_ble_eq_true rfl) (fun X C E => zrun_sound t_X9_waitsAs C E [] 60 _ _ _ _ ?_)
  refine And.intro (by decide) (And.intro (by decide) (And.intro (fun _ => ?_) (fun c => absurd c (by decide))))
  refine And.intro (by decide) (And.intro (by decide) (And.intro (fun _ => ?_) (fun c => absurd c (by decide))))
  refine And.intro (by decide) (And.intro (by decide) (And.intro (fun c => absurd rfl c) (fun _ => ?_)))
  refine zcall_i (d' := d - 1) (by omega) (c_begins h 70 (by omega)) ?_
  rintro _ _ ⟨rfl, rfl⟩
  refine zcall_i (d' := d - 1) (by omega) ((a0 (k := 0) hK (by decide) (by decide) (by decide) (by decide)) (d - 1) _ x (by omega) hb1 (by rw [hr1]; (try simp only [List.length_cons, List.length_append, List.length_nil]); omega)) ?_
  rintro _ _ ⟨rfl, rfl⟩
  refine zcall_i (d' := d - 1) (by omega) (zC_arg (modOK_L hb1).1 (wK hK (d - 1) _ 2 (by omega) (modOK_L hb1) (by rw [ntL_ran, hr1]; (try simp only [List.length_cons, List.length_append, List.length_nil]); omega))) ?_
  rintro _ _ ⟨rfl, rfl⟩
  exact And.intro (ntL_app _ _ _) rfl
theorem aK {K N : Int} (hK : 0 ≤ K ∧ K ≤ 6) : mC K N 12 k_X9_waitsAs K (lWa K) (fun x => vWa K N x) := by
  rcases K_of hK with rfl | rfl | rfl | rfl | rfl | rfl | rfl
  · exact mC_w (a0 (by decide) (by decide) (by decide) (by decide) (by decide)) (by decide)
  · exact mC_w (a0 (by decide) (by decide) (by decide) (by decide) (by decide)) (by decide)
  · exact mC_w (a2 (by decide)) (by decide)
  · exact mC_w (a3 (by decide)) (by decide)
  · exact mC_w (a0 (by decide) (by decide) (by decide) (by decide) (by decide)) (by decide)
  · exact mC_w (a0 (by decide) (by decide) (by decide) (by decide) (by decide)) (by decide)
  · exact mC_w (a6 (by decide)) (by decide)
theorem t0 {K N : Int} (hK : 0 ≤ K ∧ K ≤ 6) {k : Int} (hk : inR k) (h4 : ¬ k = 4) : mC K N 14 k_X9_tellsAs k (2 :: (lWa K ++ lWe K)) (fun x => vWa K N x - vWe K N 1) := by
  intro d h x hD hbo hran
  have hb1 := modOK_1 (b := 2) hbo
  have hr0 := hbo.2.2
  have hr1 : (nM h 2).1 52 47 = h.1 52 47 + 1 := ntG_ran
  simp only [List.length_cons, List.length_append, List.length_nil] at hran
  refine zC_of (by decide +kernel) (Nat.le_of_ble_eq_true rfl) (fun X C E => zrun_sound t_X9_tellsAs C E [] 60 _ _ _ _ ?_)
  refine And.intro hk (And.intro (by decide) (And.intro (fun _ => ?_) (fun c => absurd c h4)))
  refine zcall_i (d' := d - 1) (by omega) (c_begins h 2 (by omega)) ?_
  rintro _ _ ⟨rfl, rfl⟩
  refine zcall_i (d' := d - 1) (by omega) (zC_arg hb1.1 (aK hK (d - 1) _ x (by omega) hb1 (by rw [hr1]; (try simp only [List.length_cons, List.length_append, List.length_nil]); omega))) ?_
  rintro _ _ ⟨rfl, rfl⟩
  refine zcall_i (d' := d - 1) (by omega) (zC_arg (modOK_L hb1).1 (wK hK (d - 1) _ 1 (by omega) (modOK_L hb1) (by rw [ntL_ran, hr1]; (try simp only [List.length_cons, List.length_append, List.length_nil]); omega))) ?_
  rintro _ _ ⟨rfl, rfl⟩
  exact And.intro (ntL_app _ _ _) rfl
theorem t4 {K N : Int} (hK : 0 ≤ K ∧ K ≤ 6) : mC K N 15 k_X9_tellsAs 4 (50 :: 2 :: (lWa K ++ lWe K)) (fun x => xor32 (vWa K N x - vWe K N 1) 5) := by
  intro d h x hD hbo hran
  have hb1 := modOK_1 (b := 50) hbo
  have hr0 := hbo.2.2
  have hr1 : (nM h 50).1 52 47 = h.1 52 47 + 1 := ntG_ran
  simp only [List.length_cons, List.length_append, List.length_nil] at hran
  refine zC_of (by decide +kernel) (Nat.le_of_ble_eq_true rfl) (fun X C E => zrun_sound t_X9_tellsAs C E [] 60 _ _ _ _ ?_)
  refine And.intro (by decide) (And.intro (by decide) (And.intro (fun c => absurd rfl c) (fun _ => ?_)))
  refine zcall_i (d' := d - 1) (by omega) (c_begins h 50 (by omega)) ?_
  rintro _ _ ⟨rfl, rfl⟩
  refine zcall_i (d' := d - 1) (by omega) (t0 (k := 0) hK (by decide) (by decide) (d - 1) _ x (by omega) hb1 (by rw [hr1]; (try simp only [List.length_cons, List.length_append, List.length_nil]); omega)) ?_
  rintro _ _ ⟨rfl, rfl⟩
  exact And.intro rfl rfl
theorem tK {K N : Int} (hK : 0 ≤ K ∧ K ≤ 6) : mC K N 16 k_X9_tellsAs K (lTe K) (fun x => vTe K N x) := by
  rcases K_of hK with rfl | rfl | rfl | rfl | rfl | rfl | rfl
  · exact mC_w (t0 (by decide) (by decide) (by decide)) (by decide)
  · exact mC_w (t0 (by decide) (by decide) (by decide)) (by decide)
  · exact mC_w (t0 (by decide) (by decide) (by decide)) (by decide)
  · exact mC_w (t0 (by decide) (by decide) (by decide)) (by decide)
  · exact mC_w (t4 (by decide)) (by decide)
  · exact mC_w (t0 (by decide) (by decide) (by decide)) (by decide)
  · exact mC_w (t0 (by decide) (by decide) (by decide)) (by decide)
def lAc (K a : Int) : List Int := if a = 0 then lGo K else if a = 1 then lWa K else if a = 2 then lWe K else lTe K
def vAc (K N a x : Int) : Int := if a = 0 then vGo K N x else if a = 1 then vWa K N x else if a = 2 then vWe K N x else vTe K N x
theorem lAc_ok {K a : Int} (hK : 0 ≤ K ∧ K ≤ 6) (ha : 0 ≤ a ∧ a ≤ 3) : (lAc K a).length ≤ 20 ∧ ∀ i : Nat, inR ((lAc K a).getD i 0) := by
  have key : ∀ l : List Int, (∀ b ∈ l, inR b) → ∀ i : Nat, inR (l.getD i 0) := by
    intro l hl i
    rw [List.getD_eq_getElem?_getD]
    cases q : l[i]? with
    | none => exact ⟨by decide, by decide⟩
    | some b => exact hl b (List.mem_of_getElem? q)
  rcases K_of hK with rfl | rfl | rfl | rfl | rfl | rfl | rfl <;> rcases (by omega : a = 0 ∨ a = 1 ∨ a = 2 ∨ a = 3) with rfl | rfl | rfl | rfl <;> exact ⟨by decide, key _ (by decide)⟩
def acC (h : zH) (b : Int) : zH := setI (setI h 7 3 0) 7 4 b
def acM (h : zH) (b K : Int) : zH := setI (setI (setI h 52 47 0) 52 48 K) 52 49 b
set_option maxHeartbeats 1000000 in
theorem c_X0_perform {d : Nat} (hd : 40 ≤ d) (h : zH) (b a x K n : Int) (hb : inR b) (ha : inR a) (en : h.1 7 1 = n) (hn : 0 ≤ n ∧ n ≤ 50) (hK : (0 ≤ b ∧ b < n) → h.1 44 b.toNat = K ∧ 0 ≤ K ∧ K ≤ 6) :
    zC d k_X0_perform [sR 7, sI b, sI a, sI x] h (fun o g => (¬ ((0 ≤ b ∧ b < n) ∧ 0 ≤ a ∧ a ≤ 3) ∧ g = setI h 7 3 0 ∧ o = some (sI 0)) ∨ (((0 ≤ b ∧ b < n) ∧ 0 ≤ a ∧ a ≤ 3) ∧ g = nCL (acC h b) (lAc K a) ∧ o = some (sI (vAc K b a x)))) := by
  subst en
  refine zC_of (by decide +kernel) (Nat.le_of_ble_eq_true rfl) (fun X C E => zrun_sound t_X0_perform C E [] 60 _ _ _ _ ?_)
  refine zcall_i (d' := d - 1) (by omega) (c_X8_within (setI h 7 3 0) b 0 (h.1 7 1 - 1) hb (by omega) (by omega)) ?_
  rintro _ _ ⟨rfl, rfl⟩
  refine And.intro g_in (And.intro (fun c1 => Or.inl ⟨fun z => g_f c1 (by omega), rfl, rfl⟩) (fun c1 => ?_))
  refine zcall_i (d' := d - 1) (by omega) (c_X8_within (setI h 7 3 0) a 0 3 ha (by omega) (by omega)) ?_
  rintro _ _ ⟨rfl, rfl⟩
  refine And.intro g_in (And.intro (fun c2 => ?_) (fun c2 => Or.inl ⟨fun z => g_f c2 z.2, rfl, rfl⟩))
  have q1 := g_t c1
  have q2 := g_t c2
  obtain ⟨K1, K2⟩ := hK ⟨q1.1, by omega⟩
  have hl := (lAc_ok K2 q2).1
  have hbo : bodOK (acC h b) K b := ⟨rfl, ⟨q1.1, by omega⟩, K1, K2, (by decide : (0 : Int) ≤ 0)⟩
  have hr : (acC h b).1 7 3 + ((lAc K a).length : Int) ≤ 1000 := by
    show (0 : Int) + _ ≤ 1000
    omega
  have hown : zC (d - 1) k_X0_own [sR 7, sI a, sI x, sI 0] (acC h b) (fun o g => g = nCL (acC h b) (lAc K a) ∧ o = some (sI (vAc K b a x))) := by
    unfold lAc vAc at *
    rcases (by omega : a = 0 ∨ a = 1 ∨ a = 2 ∨ a = 3) with rfl | rfl | rfl | rfl
    · exact oGo K2 (d - 1) _ x 0 (by omega) hbo hr (by decide) (by decide)
    · exact oWa K2 (d - 1) _ x 0 (by omega) hbo hr (by decide) (by decide)
    · exact oWe K2 (d - 1) _ x 0 (by omega) hbo hr (by decide) (by decide)
    · exact oTe K2 (d - 1) _ x 0 (by omega) hbo hr (by decide) (by decide)
  refine zcall_i (d' := d - 1) (by omega) hown ?_
  rintro _ _ ⟨rfl, rfl⟩
  exact Or.inr ⟨⟨⟨q1.1, by omega⟩, q2⟩, rfl, rfl⟩
theorem c_X8_act {d : Nat} (hd : 41 ≤ d) (h : zH) (b a x K n : Int) (hb : inR b) (ha : inR a) (en : h.1 7 1 = n) (hn : 0 ≤ n ∧ n ≤ 50) (hK : (0 ≤ b ∧ b < n) → h.1 44 b.toNat = K ∧ 0 ≤ K ∧ K ≤ 6) :
    zC d k_X8_act [sR 0, sI b, sI a, sI x] h (fun o g => (¬ ((0 ≤ b ∧ b < n) ∧ 0 ≤ a ∧ a ≤ 3) ∧ g = setI h 7 3 0 ∧ o = some (sI 0)) ∨ (((0 ≤ b ∧ b < n) ∧ 0 ≤ a ∧ a ≤ 3) ∧ g = nCL (acC h b) (lAc K a) ∧ o = some (sI (vAc K b a x)))) := by
  refine zC_of (by decide +kernel) (Nat.le_of_ble_eq_true rfl) (fun X C E => zrun_sound t_X8_act C E [] 60 _ _ _ _ ?_)
  refine zcall_i (d' := d - 1) (by omega) (c_X0_perform (by omega) h b a x K n hb ha en hn hK) ?_
  rintro _ g (⟨q, rfl, rfl⟩ | ⟨q, rfl, rfl⟩)
  · exact Or.inl ⟨q, rfl, rfl⟩
  · exact Or.inr ⟨q, rfl, rfl⟩
set_option maxHeartbeats 1000000 in
theorem c_X9_act {d : Nat} (hd : 40 ≤ d) (h : zH) (b a x K n : Int) (hb : inR b) (ha : inR a) (en : h.1 52 44 = n) (hn : 0 ≤ n ∧ n ≤ 50) (hK : (0 ≤ b ∧ b < n) → h.1 76 b.toNat = K ∧ 0 ≤ K ∧ K ≤ 6) :
    zC d k_X9_act [sR 52, sI b, sI a, sI x] h (fun o g => (¬ (0 ≤ b ∧ b < n) ∧ g = setI h 52 47 0 ∧ o = some (sI 0)) ∨ ((0 ≤ b ∧ b < n) ∧ ¬ (0 ≤ a ∧ a ≤ 3) ∧ g = acM h b K ∧ o = some (sI 0)) ∨ (((0 ≤ b ∧ b < n) ∧ 0 ≤ a ∧ a ≤ 3) ∧ g = nML (acM h b K) (lAc K a) ∧ o = some (sI (vAc K b a x)))) := by
  subst en
  refine zC_of (by decide +kernel) (Nat.le_of_ble_eq_true rfl) (fun X C E => zrun_sound t_X9_act C E [] 60 _ _ _ _ ?_)
  refine zcall_i (d' := d - 1) (by omega) (c_X9_isBody (by omega) (setI h 52 47 0) b hb hn) ?_
  rintro _ _ ⟨rfl, rfl⟩
  refine And.intro g_in (And.intro (fun c1 => ?_) (fun c1 => Or.inl ⟨fun z => g_f c1 z, rfl, rfl⟩))
  have q1 := g_t c1
  replace q1 : 0 ≤ b ∧ b < h.1 52 44 := q1
  obtain ⟨K1, K2⟩ := hK q1
  have k0 := q1.1
  have k1 : b < 50 := by omega
  have hbo : modOK (acM h b K) K b := ⟨rfl, rfl, (by decide : (0 : Int) ≤ 0)⟩
  refine And.intro k0 (And.intro k1 ?_)
  replace K1 : (setI h 52 47 0).1 76 b.toNat = K := K1
  rw [K1]
  refine And.intro ha (And.intro (fun c => Or.inr (Or.inl ⟨q1, by omega, rfl, rfl⟩)) ?_)
  have hr : ∀ t : Int, (0 ≤ t ∧ t ≤ 3) → (acM h b K).1 52 47 + ((lAc K t).length : Int) ≤ 1000 := fun t ht => by
    have := (lAc_ok K2 ht).1
    show (0 : Int) + _ ≤ 1000
    omega
  refine ⟨fun c => ?_, fun c => ?_, fun c => ?_, fun c => ?_, trivial⟩
  · replace c : a = 0 := c
    subst c
    refine zcall_i (d' := d - 1) (by omega) (gK K2 (d - 1) (acM h b K) x (by omega) hbo (hr 0 (by decide))) ?_
    rintro _ _ ⟨rfl, rfl⟩
    exact Or.inr (Or.inr ⟨⟨q1, by decide⟩, rfl, rfl⟩)
  · replace c : a = 1 := c
    subst c
    refine zcall_i (d' := d - 1) (by omega) (aK K2 (d - 1) (acM h b K) x (by omega) hbo (hr 1 (by decide))) ?_
    rintro _ _ ⟨rfl, rfl⟩
    exact Or.inr (Or.inr ⟨⟨q1, by decide⟩, rfl, rfl⟩)
  · replace c : a = 2 := c
    subst c
    refine zcall_i (d' := d - 1) (by omega) (wK K2 (d - 1) (acM h b K) x (by omega) hbo (hr 2 (by decide))) ?_
    rintro _ _ ⟨rfl, rfl⟩
    exact Or.inr (Or.inr ⟨⟨q1, by decide⟩, rfl, rfl⟩)
  · replace c : a = 3 := c
    subst c
    refine zcall_i (d' := d - 1) (by omega) (tK K2 (d - 1) (acM h b K) x (by omega) hbo (hr 3 (by decide))) ?_
    rintro _ _ ⟨rfl, rfl⟩
    exact Or.inr (Or.inr ⟨⟨q1, by decide⟩, rfl, rfl⟩)
def acB : Nat → Bool := fun c => c == 7 || c == 45 || c == 52 || c == 77
theorem Inv_act {h g : zH} (hI : Inv2 h) (e : ∀ c, acB c = false → g.1 c = h.1 c) (eL : g.2 = h.2) (e7 : ∀ i, i ≠ 3 → i ≠ 4 → g.1 7 i = h.1 7 i) (e52 : ∀ i, i ≠ 47 → i ≠ 48 → i ≠ 49 → g.1 52 i = h.1 52 i) (hr : 0 ≤ g.1 7 3 ∧ g.1 7 3 ≤ 1000000) (er : g.1 52 47 = g.1 7 3) (ht : ∀ i : Nat, i < 24 → (i : Int) < g.1 7 3 → g.1 77 i = g.1 45 i ∧ inR (g.1 45 i)) : Inv2 g := by
  obtain ⟨⟨i1, i2, i3, i4, i5, i6, i7, ⟨m1, m2, m3, m4, m5, m6⟩, i9, i10⟩, i11⟩ := hI
  refine ⟨⟨?_, ?_, ?_, ?_, ?_, ?_, ?_, ⟨?_, ?_, ?_, er, hr, ht⟩, ?_, ?_⟩, ?_⟩
  · unfold VV Vn Vt Vw Vp Vy Vh Vs at *
    rw [e 2 rfl, e 19 rfl, e 20 rfl, e 21 rfl, e 22 rfl, e 23 rfl, e 24 rfl, e 25 rfl, e 26 rfl, e 27 rfl, e 28 rfl, e 29 rfl, e 30 rfl, e 31 rfl, e 32 rfl]
    exact i1
  · unfold Ieq at *
    rw [e 2 rfl, e 19 rfl, e 20 rfl, e 21 rfl, e 22 rfl, e 23 rfl, e 24 rfl, e 25 rfl, e 26 rfl, e 27 rfl, e 28 rfl, e 29 rfl, e 30 rfl, e 31 rfl, e 32 rfl, e 53 rfl, e 58 rfl, e 59 rfl, e 60 rfl, e 63 rfl, e 64 rfl, e 65 rfl, e 66 rfl, e 67 rfl, e 68 rfl, e52 8 (by omega) (by omega) (by omega), e52 16 (by omega) (by omega) (by omega), e52 20 (by omega) (by omega) (by omega), e52 21 (by omega) (by omega) (by omega), e52 25 (by omega) (by omega) (by omega), e52 26 (by omega) (by omega) (by omega)]
    exact i2
  · exact Isea_c i3 (fun c a b => e c (by simp [acB]; omega)) (e 2 rfl) ⟨by rw [e 3 rfl], by rw [e 3 rfl]⟩ (e 33 rfl) (e 34 rfl)
  · unfold Itape at *
    rw [e 1 rfl, e 16 rfl, e 57 rfl, e52 7 (by omega) (by omega) (by omega)]
    exact i4
  · unfold Iplan at *
    rw [e 2 rfl, e 5 rfl, e 39 rfl, e 74 rfl, e52 37 (by omega) (by omega) (by omega)]
    exact i5
  · unfold Ichg at *
    rw [e 6 rfl, e 40 rfl, e 41 rfl, e 42 rfl, e 43 rfl, e 54 rfl, e 55 rfl, e 56 rfl, e52 5 (by omega) (by omega) (by omega), e52 4 (by omega) (by omega) (by omega)]
    exact i6
  · unfold Imark at *
    rw [e 0 rfl, e 2 rfl, e 15 rfl, e 75 rfl, e52 42 (by omega) (by omega) (by omega)]
    exact i7
  · rw [e52 44 (by omega) (by omega) (by omega), e7 1 (by omega) (by omega)]
    exact m1
  · rw [e7 1 (by omega) (by omega)]
    exact m2
  · rw [e 44 rfl, e 76 rfl, e7 1 (by omega) (by omega)]
    exact m3
  · intro k hk
    rw [e (8 + k) (by simp [acB]; omega), eL, e7 1 (by omega) (by omega), e 78 rfl, e 79 rfl]
    exact i9 k hk
  · unfold Imisc at *
    rw [e52 31 (by omega) (by omega) (by omega), e52 32 (by omega) (by omega) (by omega), e52 34 (by omega) (by omega) (by omega)]
    exact i10
  · rw [e52 33 (by omega) (by omega) (by omega)]
    exact i11
theorem pr_act {d : Nat} (hd : 41 ≤ d) {b a x : Int} (hb : inR b) (ha : inR a) : Pair2 d k_X8_act k_X9_act [sI b, sI a, sI x] := fun h hI => by
  obtain ⟨m1, m2, m3, -⟩ := id hI.1.2.2.2.2.2.2.2.1
  have hK : (0 ≤ b ∧ b < h.1 7 1) → h.1 44 b.toNat = h.1 44 b.toNat ∧ 0 ≤ h.1 44 b.toNat ∧ h.1 44 b.toNat ≤ 6 := fun q => ⟨rfl, (m3 b.toNat (by omega)).2⟩
  have hK2 : (0 ≤ b ∧ b < h.1 7 1) → h.1 76 b.toNat = h.1 44 b.toNat ∧ 0 ≤ h.1 44 b.toNat ∧ h.1 44 b.toNat ≤ 6 := fun q => m3 b.toNat (by omega)
  refine zC_mono (c_X8_act hd h b a x _ _ hb ha rfl m2 hK) ?_
  rintro o g (⟨q, rfl, rfl⟩ | ⟨q, rfl, rfl⟩)
  · refine ⟨_, rfl, zC_mono (c_X9_act (by omega) (setI h 7 3 0) b a x _ _ hb ha m1 m2 hK2) ?_⟩
    rintro o g' (⟨z, rfl, rfl⟩ | ⟨z, z2, rfl, rfl⟩ | ⟨z, rfl, rfl⟩)
    · refine ⟨rfl, Inv_act hI (fun c hc => ?_) rfl (fun i h1 h2 => ?_) (fun i h1 h2 h3 => ?_) ⟨(by decide : (0 : Int) ≤ 0), (by decide : (0 : Int) ≤ 1000000)⟩ rfl (fun i _ hi => absurd hi (by show ¬ (i : Int) < 0; omega))⟩
      · simp [acB] at hc
        rw [setI_ne (by omega), setI_ne (by omega)]
      · rw [setI_ne (by omega), setI_n2 h1]
      · rw [setI_n2 h1, setI_ne (by omega)]
    · refine ⟨rfl, Inv_act hI (fun c hc => ?_) rfl (fun i h1 h2 => ?_) (fun i h1 h2 h3 => ?_) ⟨(by decide : (0 : Int) ≤ 0), (by decide : (0 : Int) ≤ 1000000)⟩ rfl (fun i _ hi => absurd hi (by show ¬ (i : Int) < 0; omega))⟩
      · simp [acB] at hc
        unfold acM
        rw [setI_ne (by omega), setI_ne (by omega), setI_ne (by omega), setI_ne (by omega)]
      · unfold acM
        rw [setI_ne (by omega), setI_ne (by omega), setI_ne (by omega), setI_n2 h1]
      · unfold acM
        rw [setI_n2 h3, setI_n2 h2, setI_n2 h1, setI_ne (by omega)]
    · exact absurd z q
  · obtain ⟨K, eK⟩ : ∃ K, K = h.1 44 b.toNat := ⟨_, rfl⟩
    have hok := lAc_ok (hK q.1).2 q.2
    rw [← eK] at hK2 hok ⊢
    have f44 : (nCL (acC h b) (lAc K a)).1 52 = h.1 52 := by
      rw [ntL_ne (by decide) (by decide)]
      rfl
    have f76 : (nCL (acC h b) (lAc K a)).1 76 = h.1 76 := by
      rw [ntL_ne (by decide) (by decide)]
      rfl
    refine ⟨_, rfl, zC_mono (c_X9_act (by omega) (nCL (acC h b) (lAc K a)) b a x K (h.1 7 1) hb ha (by rw [f44]; exact m1) m2 (by rw [f76]; exact hK2)) ?_⟩
    rintro o g' (⟨z, -, -⟩ | ⟨z, z2, -, -⟩ | ⟨z, rfl, rfl⟩)
    · exact absurd q.1 z
    · exact absurd q.2 z2
    · have c7 : (nML (acM (nCL (acC h b) (lAc K a)) b K) (lAc K a)).1 7 = (nCL (acC h b) (lAc K a)).1 7 := by
        rw [ntL_ne (by decide) (by decide)]
        rfl
      have c45 : (nML (acM (nCL (acC h b) (lAc K a)) b K) (lAc K a)).1 45 = (nCL (acC h b) (lAc K a)).1 45 := by
        rw [ntL_ne (by decide) (by decide)]
        rfl
      have r7 : (nCL (acC h b) (lAc K a)).1 7 3 = ((lAc K a).length : Int) := by
        rw [ntL_ran]
        show (0 : Int) + _ = _
        omega
      have r52 : (nML (acM (nCL (acC h b) (lAc K a)) b K) (lAc K a)).1 52 47 = ((lAc K a).length : Int) := by
        rw [ntL_ran]
        show (0 : Int) + _ = _
        omega
      refine ⟨rfl, Inv_act hI (fun c hc => ?_) ?_ (fun i h1 h2 => ?_) (fun i h1 h2 h3 => ?_) ?_ ?_ (fun i h1 h2 => ?_)⟩
      · simp [acB] at hc
        rw [ntL_ne (by omega) (by omega)]
        unfold acM
        rw [setI_ne (by omega), setI_ne (by omega), setI_ne (by omega), ntL_ne (by omega) (by omega)]
        unfold acC
        rw [setI_ne (by omega), setI_ne (by omega)]
      · rw [ntL_2]
        show (nCL (acC h b) (lAc K a)).2 = _
        rw [ntL_2]
        rfl
      · rw [c7, ntL_cc (by decide) h1]
        unfold acC
        rw [setI_n2 h2, setI_n2 h1]
      · rw [ntL_cc (by decide) h1]
        unfold acM
        rw [setI_n2 h3, setI_n2 h2, setI_n2 h1, f44]
      · rw [c7, r7]
        omega
      · rw [c7, r7, r52]
      · rw [c7, r7] at h2
        rw [c45, ntL_at (by decide) _ _ 0 i rfl h1, ntL_at (by decide) _ _ 0 i rfl h1, if_pos (by omega), if_pos (by omega)]
        exact ⟨rfl, hok.2 _⟩
/-! ===== searches, as both sides ask them ===== -/
theorem soonR_ex (S : Nat → Nat → Nat → Nat → Nat → Nat → Prop) (p0 m0 to e : Nat) : ∃ r : Int, soonR S p0 m0 to e r := by
  have key : ∀ n : Nat, (∀ m y : Nat, m < n → ¬ RdS S p0 m0 to m y) ∨ ∃ m : Nat, m < n ∧ (∃ y, RdS S p0 m0 to m y) ∧ ∀ m' y : Nat, m' < m → ¬ RdS S p0 m0 to m' y := by
    intro n
    induction n with
    | zero => exact Or.inl (fun m y h => absurd h (by omega))
    | succ n ih =>
      rcases ih with a | ⟨m, a, b, c⟩
      · by_cases q : ∃ y, RdS S p0 m0 to n y
        · exact Or.inr ⟨n, by omega, q, a⟩
        · refine Or.inl (fun m y h z => ?_)
          by_cases e : m = n
          · subst e
            exact q ⟨y, z⟩
          · exact a m y (by omega) z
      · exact Or.inr ⟨m, by omega, b, c⟩
  rcases key (e + 1) with a | ⟨m, a, b, c⟩
  · exact ⟨-2, Or.inl ⟨rfl, fun m y h => a m y (by omega)⟩⟩
  · exact ⟨m, Or.inr ⟨m, rfl, by omega, b, c⟩⟩
noncomputable def soonV (S : Nat → Nat → Nat → Nat → Nat → Nat → Prop) (p0 m0 to e : Nat) : Int := Classical.choose (soonR_ex S p0 m0 to e)
theorem soonV_ok (S : Nat → Nat → Nat → Nat → Nat → Nat → Prop) (p0 m0 to e : Nat) : soonR S p0 m0 to e (soonV S p0 m0 to e) := Classical.choose_spec (soonR_ex S p0 m0 to e)
theorem soonV_eq {S : Nat → Nat → Nat → Nat → Nat → Nat → Prop} {p0 m0 to e : Nat} {r : Int} (h : soonR S p0 m0 to e r) : r = soonV S p0 m0 to e := soonR_u h (soonV_ok S p0 m0 to e)
/-- the goal is reached, by e -/
def rdB (S : Nat → Nat → Nat → Nat → Nat → Nat → Prop) (p0 m0 to e : Nat) : Prop := ∃ m y : Nat, m ≤ e ∧ RdS S p0 m0 to m y
theorem soonV_no {S : Nat → Nat → Nat → Nat → Nat → Nat → Prop} {p0 m0 to e : Nat} : soonV S p0 m0 to e = -2 ↔ ¬ rdB S p0 m0 to e := by
  rcases soonV_ok S p0 m0 to e with ⟨a, b⟩ | ⟨m, a, b, ⟨y, c⟩, -⟩
  · exact ⟨fun _ ⟨m, y, h1, h2⟩ => b m y h1 h2, fun _ => a⟩
  · exact ⟨fun z => by omega, fun z => absurd ⟨m, y, b, c⟩ z⟩
theorem soonV_b (S : Nat → Nat → Nat → Nat → Nat → Nat → Prop) (p0 m0 to e : Nat) : soonV S p0 m0 to e = -2 ∨ (0 ≤ soonV S p0 m0 to e ∧ soonV S p0 m0 to e ≤ e) := by
  rcases soonV_ok S p0 m0 to e with ⟨a, b⟩ | ⟨m, a, b, ⟨y, c⟩, -⟩
  · exact Or.inl a
  · exact Or.inr (by omega)
theorem soonV_dk {S : Nat → Nat → Nat → Nat → Nat → Nat → Prop} {p0 m0 to e : Nat} (he : e ≤ 1439) : (0 ≤ soonV S p0 m0 to 1439 ∧ soonV S p0 m0 to 1439 ≤ e) ↔ rdB S p0 m0 to e := by
  rcases soonV_ok S p0 m0 to 1439 with ⟨a, b⟩ | ⟨m, a, b, ⟨y, c⟩, d⟩
  · exact ⟨fun z => by omega, fun ⟨m, y, h1, h2⟩ => absurd h2 (b m y (by omega))⟩
  · constructor
    · intro z
      exact ⟨m, y, by omega, c⟩
    · rintro ⟨m', y', h1, h2⟩
      refine ⟨by omega, ?_⟩
      rcases Nat.lt_or_ge m' m with q | q
      · exact absurd h2 (d m' y' q)
      · omega
def dayO (r : Int) : Int := if r = -2 then 1440 else r
theorem dayO_b (S : Nat → Nat → Nat → Nat → Nat → Nat → Prop) (p0 m0 to : Nat) : 0 ≤ dayO (soonV S p0 m0 to 1439) ∧ dayO (soonV S p0 m0 to 1439) ≤ 1440 := by
  unfold dayO
  rcases soonV_b S p0 m0 to 1439 with a | a
  · rw [if_pos a]; omega
  · rw [if_neg (by omega)]; omega
/-- more steps, no later -/
theorem dayO_le {P p0 m0 to : Nat} {S S' : Nat → Nat → Nat → Nat → Nat → Nat → Prop} (hc : ∀ p m y p' m' y', p < P → y < 4 → S p m y p' m' y' → S' p m y p' m' y') (hS : Sok S P) (hp : p0 < P) : dayO (soonV S' p0 m0 to 1439) ≤ dayO (soonV S p0 m0 to 1439) := by
  have b' := dayO_b S' p0 m0 to
  rcases soonV_ok S p0 m0 to 1439 with ⟨a, b⟩ | ⟨m, a, b, ⟨y, c⟩, d⟩
  · unfold dayO at b' ⊢
    rw [if_pos a]
    exact b'.2
  · have c' := RdS_le hc hS hp c
    rcases soonV_ok S' p0 m0 to 1439 with ⟨a2, b2⟩ | ⟨m2, a2, b2, c2, d2⟩
    · exact absurd c' (b2 m y (by omega))
    · unfold dayO
      rw [if_neg (by omega), if_neg (by omega), a, a2]
      rcases Nat.lt_or_ge m m2 with q | q
      · exact absurd c' (d2 m y q)
      · omega
theorem rdB_le {P p0 m0 to e : Nat} {S S' : Nat → Nat → Nat → Nat → Nat → Nat → Prop} (hc : ∀ p m y p' m' y', p < P → y < 4 → S p m y p' m' y' → S' p m y p' m' y') (hS : Sok S P) (hp : p0 < P) (h : rdB S p0 m0 to e) : rdB S' p0 m0 to e := by
  obtain ⟨m, y, a, b⟩ := h
  exact ⟨m, y, a, RdS_le hc hS hp b⟩
theorem lastR_ex (S : Nat → Nat → Nat → Nat → Nat → Nat → Prop) (f to dn dk : Nat) : ∃ r : Int, lastR S f to dn dk r := by
  have key : ∀ n : Nat, n ≤ dk + 1 → (∀ m : Nat, n ≤ m → m ≤ dk → ¬ BkS S to dk f m 0) ∨ ∃ m : Nat, n ≤ m ∧ m ≤ dk ∧ BkS S to dk f m 0 ∧ ∀ m' : Nat, m < m' → m' ≤ dk → ¬ BkS S to dk f m' 0 := by
    intro n hn
    obtain ⟨k, hk⟩ : ∃ k, n + k = dk + 1 := ⟨dk + 1 - n, by omega⟩
    clear hn
    induction k generalizing n with
    | zero => exact Or.inl (fun m h1 h2 => absurd h2 (by omega))
    | succ k ih =>
      rcases ih (n + 1) (by omega) with a | ⟨m, a, b, c, d⟩
      · by_cases q : BkS S to dk f n 0
        · exact Or.inr ⟨n, by omega, by omega, q, fun m' h1 h2 => a m' (by omega) h2⟩
        · refine Or.inl (fun m h1 h2 z => ?_)
          by_cases e : m = n
          · subst e
            exact q z
          · exact a m (by omega) h2 z
      · exact Or.inr ⟨m, by omega, b, c, d⟩
  by_cases hd : dn ≤ dk + 1
  · rcases key dn hd with a | ⟨m, a, b, c, d⟩
    · exact ⟨-2, Or.inl ⟨rfl, a⟩⟩
    · exact ⟨m, Or.inr ⟨m, rfl, a, b, c, d⟩⟩
  · exact ⟨-2, Or.inl ⟨rfl, fun m h1 h2 => absurd h1 (by omega)⟩⟩
noncomputable def lastV (S : Nat → Nat → Nat → Nat → Nat → Nat → Prop) (f to dn dk : Nat) : Int := Classical.choose (lastR_ex S f to dn dk)
theorem lastV_ok (S : Nat → Nat → Nat → Nat → Nat → Nat → Prop) (f to dn dk : Nat) : lastR S f to dn dk (lastV S f to dn dk) := Classical.choose_spec (lastR_ex S f to dn dk)
theorem lastV_eq {S : Nat → Nat → Nat → Nat → Nat → Nat → Prop} {f to dn dk : Nat} {r : Int} (h : lastR S f to dn dk r) : r = lastV S f to dn dk := lastR_u h (lastV_ok S f to dn dk)
theorem lastV_b (S : Nat → Nat → Nat → Nat → Nat → Nat → Prop) (f to dn dk : Nat) : lastV S f to dn dk = -2 ∨ (0 ≤ lastV S f to dn dk ∧ lastV S f to dn dk ≤ dk) := by
  rcases lastV_ok S f to dn dk with ⟨a, b⟩ | ⟨m, a, b, b2, -⟩
  · exact Or.inl a
  · exact Or.inr (by omega)
/-! the steps, with a way that is free (F), one that is raised (M, by Y), a place where none may wait (W): -1 for none -/
def fsX (h : zH) (F : Int) (w : Nat) : Int := if F = (w : Int) then 0 else h.1 30 w
def lsX (h : zH) (F : Int) (w : Nat) : Int := if F = (w : Int) then 1439 else h.1 31 w
def beX (h : zH) (M Y : Int) (w : Nat) : Int := h.1 29 w + (if M = (w : Int) then Y else 0)
def SZ (h : zH) (c : Int) (s : Nat) (F M Y W : Int) : Nat → Nat → Nat → Nat → Nat → Nat → Prop := SQ h (c / 10).toNat (c % 10).toNat s (h.1 2 4).toNat (h.1 2 10).toNat (fsX h F) (lsX h F) (beX h M Y) W
abbrev SB (h : zH) (c : Int) (s : Nat) : Nat → Nat → Nat → Nat → Nat → Nat → Prop := SZ h c s (-1) (-1) 0 (-1)
theorem fsX_no {h : zH} (w : Nat) : fsX h (-1) w = h.1 30 w ∧ lsX h (-1) w = h.1 31 w := by
  unfold fsX lsX
  rw [if_neg (by omega), if_neg (by omega)]
  exact ⟨rfl, rfl⟩
theorem beX_no {h : zH} (Y : Int) (w : Nat) : beX h (-1) Y w = h.1 29 w := by
  unfold beX
  rw [if_neg (by omega), Int.add_zero]
theorem SZ_Y {h : zH} {c : Int} {s : Nat} {F Y Y' W : Int} : SZ h c s F (-1) Y W = SZ h c s F (-1) Y' W := by
  unfold SZ
  rw [show beX h (-1) Y = beX h (-1) Y' from funext fun w => by rw [beX_no, beX_no]]
/-! the class: what stands behind prepare -/
def QZ (h g : zH) (c : Int) (s : Nat) (F M Y W : Int) : Prop := SP g (c / 10).toNat (h.1 2 8).toNat (h.1 2 10).toNat ∧ (g.1 25 = h.1 25 ∧ g.1 26 = h.1 26 ∧ g.1 27 = h.1 27 ∧ g.1 28 = h.1 28 ∧ g.1 32 = h.1 32) ∧ (∀ m, m < 1440 → g.1 34 m = hiQ h (c % 10).toNat s (h.1 2 4).toNat m) ∧ (∀ w, w < (h.1 2 10).toNat → g.1 30 w = fsX h F w) ∧ (∀ w, w < (h.1 2 10).toNat → g.1 31 w = lsX h F w) ∧ (∀ w, w < (h.1 2 10).toNat → g.1 29 w = beX h M Y w) ∧ ∀ p y : Nat, p < (h.1 2 8).toNat → y < 4 → (lb (g.2 4 6) (4 * p + y) = true ↔ ¬ (p : Int) = W)
theorem QZ_same {h g : zH} {c : Int} {s : Nat} {F M Y W : Int} (hq : QZ h g c s F M Y W) : sameS (h.1 2 8).toNat (SC g (c / 10).toNat (h.1 2 10).toNat) (SZ h c s F M Y W) := by
  obtain ⟨q1, ⟨q2, q3, q4, q5, q6⟩, q7, q8, q9, q10, q11⟩ := hq
  exact SC_Q q1.2.2.2.1 q2 q3 q4 q5 q6 q8 q9 q10 q7 q11
abbrev frS : Nat → Nat → Bool := fun c _ => c == 35 || c == 38
theorem QZ_S {h g g2 : zH} {c : Int} {s : Nat} {F M Y W : Int} (hq : QZ h g c s F M Y W) (hf : fr frS g g2) : QZ h g2 c s F M Y W := by
  obtain ⟨q1, ⟨q2, q3, q4, q5, q6⟩, q7, q8, q9, q10, q11⟩ := hq
  have e := fun c (q : c ≠ 35 ∧ c ≠ 38) => (funext fun i => (hf c i (by simp; omega)).1 : g2.1 c = g.1 c)
  refine ⟨SP_c (frS_e2 hf) q1, ⟨by rw [e 25 (by omega)]; exact q2, by rw [e 26 (by omega)]; exact q3, by rw [e 27 (by omega)]; exact q4, by rw [e 28 (by omega)]; exact q5, by rw [e 32 (by omega)]; exact q6⟩, by rw [e 34 (by omega)]; exact q7, by rw [e 30 (by omega)]; exact q8, by rw [e 31 (by omega)]; exact q9, by rw [e 29 (by omega)]; exact q10, ?_⟩
  rw [(hf 4 6 rfl).2]
  exact q11
theorem QZ_bar {h g : zH} {c : Int} {s p : Nat} {F M Y W : Int} {r : Int64} (hq : QZ h g c s F M Y W) (hP : (h.1 2 8).toNat ≤ 12) (hr : ∀ q y : Nat, q < 12 → y < 4 → (lb r (4 * q + y) = true ↔ ¬ q = p)) : QZ h (setL g 4 6 r) c s F M Y p := by
  obtain ⟨q1, q2, q7, q8, q9, q10, q11⟩ := hq
  refine ⟨q1, q2, q7, q8, q9, q10, fun q y a b => ?_⟩
  rw [setL_at, if_pos ⟨rfl, rfl⟩, hr q y (by omega) b]
  omega
theorem QZ_hours {h g : zH} {c : Int} {s w : Nat} {M Y W : Int} (hq : QZ h g c s (-1) M Y W) : QZ h (setI (setI g 30 w 0) 31 w 1439) c s w M Y W := by
  obtain ⟨⟨p1, p2, p3, p4, p5, p6, p7, p8, p9, p10, p11, p12⟩, q2, q7, q8, q9, q10, q11⟩ := hq
  have f30 : ∀ i, (setI (setI g 30 w 0) 31 w 1439).1 30 i = if i = w then 0 else g.1 30 i := fun i => by
    rw [setI_ne (by omega), setI_at]
    by_cases e : i = w
    · rw [if_pos ⟨rfl, e⟩, if_pos e]
    · rw [if_neg (fun z => e z.2), if_neg e]
  have f31 : ∀ i, (setI (setI g 30 w 0) 31 w 1439).1 31 i = if i = w then 1439 else g.1 31 i := fun i => by
    rw [setI_at, setI_ne (by omega)]
    by_cases e : i = w
    · rw [if_pos ⟨rfl, e⟩, if_pos e]
    · rw [if_neg (fun z => e z.2), if_neg e]
  refine ⟨⟨p1, p2, p3, p4, p5, p6, p7, p8, fun i hi => ⟨(p9 i hi).1, ?_, ?_⟩, p10, p11, p12⟩, q2, q7, fun i hi => ?_, fun i hi => ?_, q10, q11⟩
  · rw [f30]
    have := (p9 i hi).2.1
    split <;> omega
  · rw [f31]
    have := (p9 i hi).2.2
    split <;> omega
  · rw [f30, q8 i hi, (fsX_no i).1]
    unfold fsX
    by_cases e : i = w
    · rw [if_pos e, if_pos (by omega)]
    · rw [if_neg e, if_neg (by omega)]
  · rw [f31, q9 i hi, (fsX_no i).2]
    unfold lsX
    by_cases e : i = w
    · rw [if_pos e, if_pos (by omega)]
    · rw [if_neg e, if_neg (by omega)]
theorem QZ_lift {h g : zH} {c : Int} {s w : Nat} {F W l : Int} (hq : QZ h g c s F (-1) 0 W) (hl : inR (g.1 29 w + l)) (hw : w < (h.1 2 10).toNat) : QZ h (setI g 29 w (g.1 29 w + l)) c s F w l W := by
  obtain ⟨⟨p1, p2, p3, p4, p5, p6, p7, p8, p9, p10, p11, p12⟩, q2, q7, q8, q9, q10, q11⟩ := hq
  have f29 : ∀ i, (setI g 29 w (g.1 29 w + l)).1 29 i = if i = w then g.1 29 w + l else g.1 29 i := fun i => by
    rw [setI_at]
    by_cases e : i = w
    · rw [if_pos ⟨rfl, e⟩, if_pos e]
    · rw [if_neg (fun z => e z.2), if_neg e]
  refine ⟨⟨p1, p2, p3, p4, p5, p6, p7, p8, fun i hi => ⟨?_, (p9 i hi).2⟩, p10, p11, p12⟩, q2, q7, q8, q9, fun i hi => ?_, q11⟩
  · rw [f29]
    have := (p9 i hi).1
    split
    · exact hl
    · exact this
  · rw [f29]
    unfold beX
    by_cases e : i = w
    · rw [if_pos e, if_pos (by omega), e, q10 w hw, beX_no]
    · rw [if_neg e, if_neg (by omega), q10 i hi, beX_no, Int.add_zero]
theorem c_prepX {d : Nat} (hd : 4 ≤ d) (h : zH) (c s' : Int) (s : Nat) (hV : VV h) (hI : Isea h) (hc : okT h c) (es : s' = s) (hs : 1 ≤ s ∧ s < 2 ^ (h.1 2 4).toNat) :
    zC d k_X5_prepare [sR 4, sI c, sI s'] h (fun o g => o = none ∧ fr frK h g ∧ Isea g ∧ QZ h g c s (-1) (-1) 0 (-1)) := by
  obtain ⟨hv1, hv2, hv3, hv4, hv5⟩ := id hV.1
  obtain ⟨q1, q2, q3⟩ := hc
  refine zC_mono (c_prep hd h c s' (c / 10).toNat (c % 10).toNat s (h.1 2 4).toNat (h.1 2 8).toNat (h.1 2 10).toNat hV hI (by omega) (by omega) (by omega) (by omega) (by omega) es hs (by omega) (by omega)) ?_
  rintro o g ⟨rfl, hf, hS, h6, hI2, h34⟩
  have e := fun c (q : ∀ i, frP c i = false) => (funext fun i => (hf c i (q i)).1 : g.1 c = h.1 c)
  refine ⟨rfl, frK_P hf, hI2, hS, ⟨e 25 (fun _ => rfl), e 26 (fun _ => rfl), e 27 (fun _ => rfl), e 28 (fun _ => rfl), e 32 (fun _ => rfl)⟩, h34, fun w _ => ?_, fun w _ => ?_, fun w _ => ?_, fun p y a b => ?_⟩
  · rw [e 30 (fun _ => rfl), (fsX_no w).1]
  · rw [e 31 (fun _ => rfl), (fsX_no w).2]
  · rw [e 29 (fun _ => rfl), beX_no]
  · rw [h6, lb_m1 _ (by omega)]
    exact ⟨fun _ => by omega, fun _ => rfl⟩
theorem c_soonX {d : Nat} (hd : 5 ≤ d) (h g : zH) (a b c e' : Int) (s e : Nat) (F M Y W : Int) (hV : VV h) (hq : QZ h g c s F M Y W) (ha : okF h a) (hb : okP h b) (ee : e' = e) (he : e < 1440) :
    zC d k_X5_soonest [sR 4, sI a, sI b, sI e'] g (fun o g2 => fr frS g g2 ∧ o = some (sI (soonV (SZ h c s F M Y W) (a / 10000).toNat (a % 10000).toNat b.toNat e))) := by
  obtain ⟨hv1, hv2, hv3, hv4, hv5⟩ := id hV.1
  obtain ⟨a1, a2, a3⟩ := ha
  obtain ⟨b1, b2⟩ := hb
  have hc := c_X5_soonest hd g (c / 10).toNat (h.1 2 8).toNat (h.1 2 10).toNat a (a / 10000).toNat (a % 10000).toNat b.toNat e hq.1 ⟨a1, by omega⟩ (by omega) (by omega) (by omega) (by omega) (by omega) he
  rw [show ((b.toNat : Nat) : Int) = b by omega, ← ee] at hc
  refine zC_mono hc ?_
  rintro o g2 ⟨hf, r, rfl, hr⟩
  refine ⟨hf, ?_⟩
  rw [soonV_eq (soonR_c (QZ_same hq) (SC_ok hq.1) (by omega) hr)]
theorem QZ_ok {h g : zH} {c : Int} {s : Nat} {F M Y W : Int} (hq : QZ h g c s F M Y W) : Sok (SZ h c s F M Y W) (h.1 2 8).toNat := Sok_c (QZ_same hq) (SC_ok hq.1)
/-! the reference: g is h, laid out anew, perhaps with a way free or raised, a place barred -/
def kpR (h g : zH) : Prop := (∀ c, own52 c = false → g.1 c = h.1 c) ∧ (∀ c, own52 c = false → g.2 c = h.2 c) ∧ ∀ i, i ≠ 27 → i ≠ 31 → i ≠ 32 → i ≠ 33 → i ≠ 34 → g.1 52 i = h.1 52 i
theorem kpR_0 (h : zH) : kpR h h := ⟨fun _ _ => rfl, fun _ _ => rfl, fun _ _ _ _ _ _ => rfl⟩
theorem kpR_t {h g f : zH} (a : kpR h g) (b : kpR g f) : kpR h f := ⟨fun c q => (b.1 c q).trans (a.1 c q), fun c q => (b.2.1 c q).trans (a.2.1 c q), fun i q1 q2 q3 q4 q5 => (b.2.2 i q1 q2 q3 q4 q5).trans (a.2.2 i q1 q2 q3 q4 q5)⟩
theorem kpR_R {h g : zH} (hf : fr frR h g) : kpR h g := by
  refine ⟨fun c q => funext fun i => (hf c i ?_).1, fun c q => funext fun i => (hf c i ?_).2, fun i q _ _ _ _ => (hf 52 i ?_).1⟩
  · simp [own52] at q
    simp [frR]
    omega
  · simp [own52] at q
    simp [frR]
    omega
  · simp [frR]
    exact q
theorem kpR_i {h g : zH} {i : Nat} {v : Int} (a : kpR h g) (hi : i = 31 ∨ i = 32 ∨ i = 33 ∨ i = 34) : kpR h (setI g 52 i v) := by
  refine kpR_t a ⟨fun c q => ?_, fun c q => rfl, fun j _ q2 q3 q4 q5 => ?_⟩
  · rw [setI_ne (fun z => by rw [z] at q; cases q)]
  · rw [setI_n2 (by omega)]
theorem kpR_V {h g : zH} (a : kpR h g) (hV : VV h) : VV g := by
  have e := a.1
  unfold VV Vn Vt Vw Vp Vy Vh Vs at *
  rw [e 2 rfl, e 19 rfl, e 20 rfl, e 21 rfl, e 22 rfl, e 23 rfl, e 24 rfl, e 25 rfl, e 26 rfl, e 27 rfl, e 28 rfl, e 29 rfl, e 30 rfl, e 31 rfl, e 32 rfl]
  exact hV
theorem kpR_E {h g : zH} (a : kpR h g) (hE : Ieq h) : Ieq g := by
  obtain ⟨e, -, e5⟩ := a
  unfold Ieq at *
  rw [e 2 rfl, e 19 rfl, e 20 rfl, e 21 rfl, e 22 rfl, e 23 rfl, e 24 rfl, e 25 rfl, e 26 rfl, e 27 rfl, e 28 rfl, e 29 rfl, e 30 rfl, e 31 rfl, e 32 rfl, e 53 rfl, e 58 rfl, e 59 rfl, e 60 rfl, e 63 rfl, e 64 rfl, e 65 rfl, e 66 rfl, e 67 rfl, e 68 rfl, e5 8 (by omega) (by omega) (by omega) (by omega) (by omega), e5 16 (by omega) (by omega) (by omega) (by omega) (by omega), e5 20 (by omega) (by omega) (by omega) (by omega) (by omega), e5 21 (by omega) (by omega) (by omega) (by omega) (by omega), e5 25 (by omega) (by omega) (by omega) (by omega) (by omega), e5 26 (by omega) (by omega) (by omega) (by omega) (by omega)]
  exact hE
theorem kpR_I {h g : zH} (a : kpR h g) (hI : Inv2 h) (hs : Isea g) (h31 : g.1 52 31 = -1) (h32 : g.1 52 32 = -1) (h34 : g.1 52 34 = -1) (h33 : 0 ≤ g.1 52 33 ∧ g.1 52 33 ≤ 200) : Inv2 g := by
  obtain ⟨⟨i1, i2, -, i4, i5, i6, i7, i8, i9, i10⟩, i11⟩ := hI
  have hV := kpR_V a i1
  have hE := kpR_E a i2
  obtain ⟨e, eL, e5⟩ := a
  have e5' : ∀ i, (i = 7 ∨ i = 37 ∨ i = 5 ∨ i = 4 ∨ i = 42 ∨ i = 44 ∨ i = 47) → g.1 52 i = h.1 52 i := fun i hi => e5 i (by omega) (by omega) (by omega) (by omega) (by omega)
  refine ⟨⟨hV, hE, hs, ?_, ?_, ?_, ?_, ?_, ?_, ⟨h31, h32, h34⟩⟩, h33⟩
  · unfold Itape at *
    rw [e 1 rfl, e 16 rfl, e 57 rfl, e5' 7 (by omega)]
    exact i4
  · unfold Iplan at *
    rw [e 2 rfl, e 5 rfl, e 39 rfl, e 74 rfl, e5' 37 (by omega)]
    exact i5
  · unfold Ichg at *
    rw [e 6 rfl, e 40 rfl, e 41 rfl, e 42 rfl, e 43 rfl, e 54 rfl, e 55 rfl, e 56 rfl, e5' 5 (by omega), e5' 4 (by omega)]
    exact i6
  · unfold Imark at *
    rw [e 0 rfl, e 2 rfl, e 15 rfl, e 75 rfl, e5' 42 (by omega)]
    exact i7
  · unfold Ibod at *
    rw [e 7 rfl, e 44 rfl, e 45 rfl, e 76 rfl, e 77 rfl, e5' 44 (by omega), e5' 47 (by omega)]
    exact i8
  · intro k hk
    have a := e (8 + k) (by simp [own52]; omega)
    have b := eL (46 + k) (by simp [own52]; omega)
    rw [a, b, e 7 rfl, e 78 rfl, e 79 rfl, eL 80 rfl]
    exact i9 k hk
theorem kpR_sea {h g : zH} (a : fr frR h g) (hI : Isea h) : Isea g := by
  have e := fun c (q : ∀ i, frR c i = false) => (funext fun i => (a c i (q i)).1 : g.1 c = h.1 c)
  exact Isea_c hI (fun c a b => e c (fun i => by simp [frR]; omega)) (e 2 (fun _ => rfl)) ⟨by rw [e 3 (fun _ => rfl)], by rw [e 3 (fun _ => rfl)]⟩ (e 33 (fun _ => rfl)) (e 34 (fun _ => rfl))
theorem kpR_SZ {h g : zH} (a : kpR h g) (c : Int) (s : Nat) (F M Y W : Int) : SZ g c s F M Y W = SZ h c s F M Y W := by
  have e := a.1
  have h1 : fsX g F = fsX h F := funext fun w => by unfold fsX; rw [e 30 rfl]
  have h2 : lsX g F = lsX h F := funext fun w => by unfold lsX; rw [e 31 rfl]
  have h3 : beX g M Y = beX h M Y := funext fun w => by unfold beX; rw [e 29 rfl]
  unfold SZ
  rw [h1, h2, h3]
  unfold SQ hiQ seaC tkC
  rw [e 2 rfl, e 19 rfl, e 20 rfl, e 21 rfl, e 22 rfl, e 23 rfl, e 25 rfl, e 26 rfl, e 27 rfl, e 28 rfl, e 32 rfl]
theorem kpR_ok {h g : zH} (a : kpR h g) : (∀ x, okF g x = okF h x) ∧ (∀ x, okP g x = okP h x) ∧ (∀ x, okT g x = okT h x) ∧ g.1 2 = h.1 2 := by
  have e := a.1 2 rfl
  unfold okF okP okT
  rw [e]
  exact ⟨fun _ => rfl, fun _ => rfl, fun _ => rfl, rfl⟩
def SM (h : zH) (c : Int) (s : Nat) : Nat → Nat → Nat → Nat → Nat → Nat → Prop := SR h (c / 10).toNat (h.1 2 10).toNat (hiR h (c % 10).toNat s (h.1 2 4).toNat) (beR h)
theorem SM_Z {h : zH} {c : Int} {s : Nat} (hV : VV h) (hE : Ieq h) (hc : okT h c) (hs : 1 ≤ s ∧ s < 2 ^ (h.1 2 4).toNat) : sameS (h.1 2 8).toNat (SM h c s) (SZ h c s (h.1 52 31) (h.1 52 32) (h.1 52 33) (h.1 52 34)) := by
  obtain ⟨hv1, hv2, hv3, hv4, hv5⟩ := id hV.1
  obtain ⟨q1, q2, q3⟩ := hc
  have e5 := hE.2.2.2.2.2.1
  refine sameS_t (SR_Q hV hE (by omega) (by omega) (n := (h.1 2 4).toNat) (by omega) (N := (h.1 2 10).toNat) (by omega) (P := (h.1 2 8).toNat) (by omega) hs) (SQ_c (fun c _ _ _ _ _ => rfl) (fun w q => ?_) (fun w q => ?_) (fun w q => ?_))
  · unfold fsR fsX
    rw [(e5 w (by omega)).2.2.2.2.1]
  · unfold lsR lsX
    rw [(e5 w (by omega)).2.2.2.2.2]
  · unfold beR beX
    rw [(e5 w (by omega)).2.2.2.1]
theorem c_reachX {d : Nat} (hd : 4 ≤ d) (h : zH) (a c s' : Int) (s : Nat) (S : Nat → Nat → Nat → Nat → Nat → Nat → Prop) (hV : VV h) (hE : Ieq h) (hW : Imw h) (ha : okF h a) (hc : okT h c) (es : s' = s) (hs : 1 ≤ s ∧ s < 2 ^ (h.1 2 4).toNat) (hS : sameS (h.1 2 8).toNat (SM h c s) S) :
    zC d k_X9_reach [sR 52, sI a, sI c, sI s'] h (fun o g => o = none ∧ fr frR h g ∧ Sok S (h.1 2 8).toNat ∧ tellsR g (h.1 2 8).toNat (RdS S (a / 10000).toNat (a % 10000).toNat)) := by
  obtain ⟨hv1, hv2, hv3, hv4, hv5⟩ := id hV.1
  obtain ⟨a1, a2, a3⟩ := ha
  obtain ⟨q1, q2, q3⟩ := hc
  have hs32 : s < 32 := Nat.lt_of_lt_of_le hs.2 (Nat.pow_le_pow_right (by omega) (show (h.1 2 4).toNat ≤ 5 by omega))
  have hB : RB h (c / 10).toNat (h.1 2 8).toNat (h.1 2 10).toNat := RB_of hV hE hW (by omega) (by omega) (by omega)
  have hok : Sok (SM h c s) (h.1 2 8).toNat := SR_okB hB
  have hr := c_X9_reach hd h a c (a / 10000).toNat (a % 10000).toNat (c / 10).toNat (c % 10).toNat s (h.1 2 4).toNat (h.1 2 8).toNat (h.1 2 10).toNat ⟨a1, by omega⟩ (by omega) (by omega) (by omega) (by omega) ⟨q1, by omega⟩ (by omega) (by omega) (VR_of hV hE hW (by omega) (by omega) (by omega) (by omega)) hB hs32
  rw [← es] at hr
  refine zC_mono hr ?_
  rintro o g ⟨rfl, hf, hrp, ht⟩
  exact ⟨rfl, hf, Sok_c hS hok, tellsR_eq ht (fun p m y _ _ _ => RdS_c hS hok (by omega))⟩
theorem c_soonAtX {d : Nat} (hd : 2 ≤ d) (h g : zH) (a b : Int) (S : Nat → Nat → Nat → Nat → Nat → Nat → Prop) (hV : VV h) (ha : okF h a) (hb : okP h b) (hS : Sok S (h.1 2 8).toNat) (ht : tellsR g (h.1 2 8).toNat (RdS S (a / 10000).toNat (a % 10000).toNat)) :
    zC d k_X9_soonAt [sR 52, sI b] g (fun o g2 => g = g2 ∧ o = some (sI (soonV S (a / 10000).toNat (a % 10000).toNat b.toNat 1439))) := by
  obtain ⟨hv1, hv2, hv3, hv4, hv5⟩ := id hV.1
  obtain ⟨a1, a2, a3⟩ := ha
  obtain ⟨b1, b2⟩ := hb
  have hc := c_X9_soonAt hd g S b.toNat (a / 10000).toNat (a % 10000).toNat (h.1 2 8).toNat hS (by omega) (by omega) (by omega) (by omega) ht
  rw [show ((b.toNat : Nat) : Int) = b by omega] at hc
  refine zC_mono hc ?_
  rintro o g2 ⟨rfl, r, rfl, hr⟩
  exact ⟨rfl, by rw [soonV_eq hr]⟩
/-- all winds -/
def aw (h : zH) : Nat := 2 ^ (h.1 2 4).toNat - 1
theorem aw_ok {h : zH} (hV : VV h) : 1 ≤ aw h ∧ aw h < 2 ^ (h.1 2 4).toNat ∧ ((2 ^ (h.1 2 4).toNat : Nat) : Int) - 1 = aw h := by
  have hv2 := hV.1.2.1
  have h1 : 2 ^ 1 ≤ 2 ^ (h.1 2 4).toNat := Nat.pow_le_pow_right (by omega) (by omega)
  unfold aw
  omega
theorem c_X9_byDark {d : Nat} (hd : 5 ≤ d) (h : zH) (a b c s' : Int) (s : Nat) (S : Nat → Nat → Nat → Nat → Nat → Nat → Prop) (hV : VV h) (hE : Ieq h) (hW : Imw h) (ha : okF h a) (hb : okP h b) (hc : okT h c) (es : s' = s) (hs : 1 ≤ s ∧ s < 2 ^ (h.1 2 4).toNat) (hS : sameS (h.1 2 8).toNat (SM h c s) S) :
    zC d k_X9_byDark [sR 52, sI a, sI b, sI c, sI s'] h (fun o g => fr frR h g ∧ isB o (rdB S (a / 10000).toNat (a % 10000).toNat b.toNat (h.1 2 19).toNat)) := by
  obtain ⟨hv1, hv2, hv3, hv4, hv5⟩ := id hV.1
  have x6 := hE.1.2.2.2.2.2
  refine zC_of (by decide +kernel) (Nat.le_of_ble_eq_true rfl) (fun X C E => ?_)
  have dkE := @soonV_dk S (a / 10000).toNat (a % 10000).toNat b.toNat (h.1 2 19).toNat (by omega)
  have bd := soonV_b S (a / 10000).toNat (a % 10000).toNat b.toNat 1439
  refine zrun_sound t_X9_byDark C E [] 60 _ _ _ _ ?_
  refine zcall_i (d' := d - 1) (by omega) (c_reachX (by omega) h a c s' s S hV hE hW ha hc es hs hS) ?_
  rintro o g ⟨rfl, hf, hok, ht⟩
  refine zcall_i (d' := d - 1) (by omega) (c_soonAtX (by omega) h g a b S hV ha hb hok ht) ?_
  rintro o g2 ⟨rfl, rfl⟩
  have e26 : g.1 52 26 = h.1 2 19 := by rw [(hf 52 26 rfl).1]; exact x6
  refine And.intro (by omega) (And.intro (fun z => ?_) (fun z => ?_))
  · exact And.intro (Or.inl rfl) (And.intro hf (Or.inr ⟨rfl, fun q => by have := dkE.mpr q; omega⟩))
  · refine And.intro (by omega) (And.intro (by omega) (And.intro (fun z2 => ?_) (fun z2 => ?_)))
    · rw [e26] at z2
      exact And.intro (Or.inl rfl) (And.intro hf (Or.inr ⟨rfl, fun q => by have := dkE.mpr q; omega⟩))
    · rw [e26] at z2
      exact And.intro (Or.inr rfl) (And.intro hf (Or.inl ⟨rfl, dkE.mp (by omega)⟩))
theorem c_X9_soonOrNever {d : Nat} (hd : 5 ≤ d) (h : zH) (a b c : Int) (S : Nat → Nat → Nat → Nat → Nat → Nat → Prop) (hV : VV h) (hE : Ieq h) (hW : Imw h) (ha : okF h a) (hb : okP h b) (hc : okT h c) (hS : sameS (h.1 2 8).toNat (SM h c (aw h)) S) :
    zC d k_X9_soonOrNever [sR 52, sI a, sI b, sI c] h (fun o g => fr frR h g ∧ o = some (sI (dayO (soonV S (a / 10000).toNat (a % 10000).toNat b.toNat 1439)))) := by
  obtain ⟨hv1, hv2, hv3, hv4, hv5⟩ := id hV.1
  obtain ⟨w1, w2, w3⟩ := aw_ok hV
  have x2 := hE.1.2.1
  have bd := soonV_b S (a / 10000).toNat (a % 10000).toNat b.toNat 1439
  have hall := c_X9_allWinds (d := d - 1) h (by omega)
  rw [x2] at hall
  refine zC_of (by decide +kernel) (Nat.le_of_ble_eq_true rfl) (fun X C E => zrun_sound t_X9_soonOrNever C E [] 60 _ _ _ _ ?_)
  refine zcall_i (d' := d - 1) (by omega) hall ?_
  rintro o g ⟨rfl, rfl⟩
  refine zcall_i (d' := d - 1) (by omega) (c_reachX (by omega) h a c _ (aw h) S hV hE hW ha hc w3 ⟨w1, w2⟩ hS) ?_
  rintro o g ⟨rfl, hf, hok, ht⟩
  refine zcall_i (d' := d - 1) (by omega) (c_soonAtX (by omega) h g a b S hV ha hb hok ht) ?_
  rintro o g2 ⟨rfl, rfl⟩
  unfold dayO
  refine And.intro (by omega) (And.intro (fun z => ?_) (fun z => ?_))
  · exact And.intro hf (by rw [if_neg (by omega)])
  · exact And.intro hf (by rw [if_pos (by omega)])
theorem c_X8_soonOrDay {d : Nat} (hd : 6 ≤ d) (h g : zH) (a b c : Int) (s : Nat) (F M Y W : Int) (hV : VV h) (hq : QZ h g c s F M Y W) (ha : okF h a) (hb : okP h b) :
    zC d k_X8_soonOrDay [sR 0, sI a, sI b] g (fun o g2 => fr frS g g2 ∧ o = some (sI (dayO (soonV (SZ h c s F M Y W) (a / 10000).toNat (a % 10000).toNat b.toNat 1439)))) := by
  have bd := soonV_b (SZ h c s F M Y W) (a / 10000).toNat (a % 10000).toNat b.toNat 1439
  refine zC_of (by decide +kernel) (Nat.le_of_ble_eq_true rfl) (fun X C E => zrun_sound t_X8_soonOrDay C E [] 60 _ _ _ _ ?_)
  refine zcall_i (d' := d - 1) (by omega) (c_soonX (by omega) h g a b c 1439 s 1439 F M Y W hV hq ha hb rfl (by omega)) ?_
  rintro o g2 ⟨hf, rfl⟩
  unfold dayO
  refine And.intro (by omega) (And.intro (by decide) (And.intro (fun z => ?_) (fun z => ?_)))
  · exact And.intro hf (by rw [if_neg z])
  · exact And.intro hf (by rw [if_pos z])
/-! ===== must ===== -/
noncomputable def bitsF (φ : Nat → Prop) : Nat → Int
  | 0 => 0
  | n + 1 => @ite Int (φ n) (Classical.propDecidable (φ n)) (or32 (bitsF φ n) (shl32 1 (n : Int))) (bitsF φ n)
theorem bitsF_1 {φ : Nat → Prop} {n : Nat} (h : φ n) : bitsF φ (n + 1) = or32 (bitsF φ n) (shl32 1 (n : Int)) := if_pos h
theorem bitsF_0 {φ : Nat → Prop} {n : Nat} (h : ¬ φ n) : bitsF φ (n + 1) = bitsF φ n := if_neg h
theorem bitsF_in (φ : Nat → Prop) : ∀ n, inR (bitsF φ n)
  | 0 => ⟨by show (-2147483648 : Int) ≤ 0; decide, by show (0 : Int) ≤ 2147483647; decide⟩
  | n + 1 => by
    by_cases h : φ n
    · rw [bitsF_1 h]
      exact or32_in _ _
    · rw [bitsF_0 h]
      exact bitsF_in φ n
theorem kpR_K {h g : zH} (hf : fr frK h g) : kpR h g := by
  refine ⟨fun c q => funext fun i => (hf c i ?_).1, fun c q => funext fun i => (hf c i ?_).2, fun i q _ _ _ _ => (hf 52 i ?_).1⟩
  · simp [own52] at q
    simp [frK]
    omega
  · simp [own52] at q
    simp [frK]
    omega
  · simp [frK]
theorem kpR_aw {h g : zH} (k : kpR h g) : aw g = aw h := by
  unfold aw
  rw [k.1 2 rfl]
theorem SM_K {h H : zH} {c : Int} {s : Nat} {F M Y W : Int} (k : kpR h H) (hV : VV h) (hE : Ieq h) (hc : okT h c) (hs : 1 ≤ s ∧ s < 2 ^ (h.1 2 4).toNat) (e1 : H.1 52 31 = F) (e2 : H.1 52 32 = M) (e3 : H.1 52 33 = Y) (e4 : H.1 52 34 = W) : sameS (H.1 2 8).toNat (SM H c s) (SZ h c s F M Y W) := by
  obtain ⟨k1, k2, k3, k4⟩ := kpR_ok k
  have := SM_Z (h := H) (c := c) (s := s) (kpR_V k hV) (kpR_E k hE) (by rw [k3]; exact hc) (by rw [k4]; exact hs)
  rw [e1, e2, e3, e4, kpR_SZ k] at this
  exact this
theorem c_byDarkK {d : Nat} (hd : 5 ≤ d) (h H : zH) (a b c s' : Int) (s : Nat) (F M Y W : Int) (k : kpR h H) (hV : VV h) (hE : Ieq h) (hW : Imw H) (ha : okF h a) (hb : okP h b) (hc : okT h c) (es : s' = s) (hs : 1 ≤ s ∧ s < 2 ^ (h.1 2 4).toNat) (e1 : H.1 52 31 = F) (e2 : H.1 52 32 = M) (e3 : H.1 52 33 = Y) (e4 : H.1 52 34 = W) :
    zC d k_X9_byDark [sR 52, sI a, sI b, sI c, sI s'] H (fun o g => fr frR H g ∧ isB o (rdB (SZ h c s F M Y W) (a / 10000).toNat (a % 10000).toNat b.toNat (h.1 2 19).toNat)) := by
  obtain ⟨k1, k2, k3, k4⟩ := kpR_ok k
  have := c_X9_byDark hd H a b c s' s (SZ h c s F M Y W) (kpR_V k hV) (kpR_E k hE) hW (by rw [k1]; exact ha) (by rw [k2]; exact hb) (by rw [k3]; exact hc) es (by rw [k4]; exact hs) (SM_K k hV hE hc hs e1 e2 e3 e4)
  rw [k4] at this
  exact this
theorem c_neverK {d : Nat} (hd : 5 ≤ d) (h H : zH) (a b c : Int) (F M Y W : Int) (k : kpR h H) (hV : VV h) (hE : Ieq h) (hW : Imw H) (ha : okF h a) (hb : okP h b) (hc : okT h c) (e1 : H.1 52 31 = F) (e2 : H.1 52 32 = M) (e3 : H.1 52 33 = Y) (e4 : H.1 52 34 = W) :
    zC d k_X9_soonOrNever [sR 52, sI a, sI b, sI c] H (fun o g => fr frR H g ∧ o = some (sI (dayO (soonV (SZ h c (aw h) F M Y W) (a / 10000).toNat (a % 10000).toNat b.toNat 1439)))) := by
  obtain ⟨k1, k2, k3, k4⟩ := kpR_ok k
  obtain ⟨w1, w2, -⟩ := aw_ok hV
  refine c_X9_soonOrNever hd H a b c (SZ h c (aw h) F M Y W) (kpR_V k hV) (kpR_E k hE) hW (by rw [k1]; exact ha) (by rw [k2]; exact hb) (by rw [k3]; exact hc) ?_
  rw [kpR_aw k]
  exact SM_K k hV hE hc ⟨w1, w2⟩ e1 e2 e3 e4
def mustA (h : zH) (a b c r : Int) : Prop := (¬ (okF h a ∧ okP h b ∧ okT h c) ∧ r = -1) ∨ ((okF h a ∧ okP h b ∧ okT h c) ∧ ¬ rdB (SB h c (aw h)) (a / 10000).toNat (a % 10000).toNat b.toNat (h.1 2 19).toNat ∧ r = -2) ∨ ((okF h a ∧ okP h b ∧ okT h c) ∧ rdB (SB h c (aw h)) (a / 10000).toNat (a % 10000).toNat b.toNat (h.1 2 19).toNat ∧ r = bitsF (fun p => ¬ rdB (SZ h c (aw h) (-1) (-1) 0 (p : Int)) (a / 10000).toNat (a % 10000).toNat b.toNat (h.1 2 19).toNat) (h.1 2 8).toNat)
theorem mustA_u {h : zH} {a b c r r' : Int} (x : mustA h a b c r) (y : mustA h a b c r') : r = r' := by
  rcases x with ⟨x1, x2⟩ | ⟨x1, x2, x3⟩ | ⟨x1, x2, x3⟩ <;> rcases y with ⟨y1, y2⟩ | ⟨y1, y2, y3⟩ | ⟨y1, y2, y3⟩ <;> first | exact absurd x1 y1 | exact absurd y1 x1 | exact absurd x2 y2 | exact absurd y2 x2 | omega
theorem mustA_k {h g : zH} (k : kpR h g) {a b c r : Int} (x : mustA g a b c r) : mustA h a b c r := by
  obtain ⟨k1, k2, k3, k4⟩ := kpR_ok k
  unfold mustA SB at *
  simp only [kpR_SZ k] at x
  rw [k1, k2, k3, kpR_aw k, k4] at x
  exact x
set_option maxHeartbeats 2000000 in
theorem c_X8_must {d : Nat} (hd : 7 ≤ d) (h : zH) (a b c : Int) (ha : inR a) (hb : inR b) (hc : inR c) (hV : VV h) (hI : Isea h) :
    zC d k_X8_must [sR 0, sI a, sI b, sI c] h (fun o g => fr frK h g ∧ Isea g ∧ ∃ r : Int, o = some (sI r) ∧ mustA h a b c r) := by
  obtain ⟨hv1, hv2, hv3, hv4, hv5⟩ := id hV.1
  obtain ⟨w1, w2, w3⟩ := aw_ok hV
  refine zC_of (by decide +kernel) (Nat.le_of_ble_eq_true rfl) (fun X C E => ?_)
  have loop : okF h a → okP h b → okT h c → rdB (SB h c (aw h)) (a / 10000).toNat (a % 10000).toNat b.toNat (h.1 2 19).toNat → ∀ (f p : Nat) (H : zH) (W : Int), p + f = (h.1 2 8).toNat → fr frK h H → Isea H → QZ h H c (aw h) (-1) (-1) 0 W → zJ X 71 [some (sR 0), some (sI a), some (sI b), some (sI c), some (sI (bitsF (fun p => ¬ rdB (SZ h c (aw h) (-1) (-1) 0 (p : Int)) (a / 10000).toNat (a % 10000).toNat b.toNat (h.1 2 19).toNat) p)), some (sI p)] [] H := by
    intro oa ob oc hB f
    induction f with
    | zero =>
      intro p H W hp hf hs hq
      have e8 : H.1 2 8 = h.1 2 8 := (hf 2 8 rfl).1
      refine zrun_sound t_X8_must C E [] 60 _ _ _ _ ?_
      refine And.intro (by omega) (And.intro (by omega) (And.intro (fun _ => ?_) (fun z => absurd (by omega) z)))
      refine And.intro hf (And.intro hs ⟨_, rfl, Or.inr (Or.inr ⟨⟨oa, ob, oc⟩, hB, ?_⟩)⟩)
      rw [show p = (h.1 2 8).toNat by omega]
    | succ f ih =>
      intro p H W hp hf hs hq
      have e8 : H.1 2 8 = h.1 2 8 := (hf 2 8 rfl).1
      have hd1 : d - 1 + 1 ≤ d := by omega
      have hd5 : 5 ≤ d - 1 := by omega
      refine zrun_sound t_X8_must C E [71] 60 _ _ _ _ ?_
      refine And.intro (by omega) (And.intro (by omega) (And.intro (fun z => absurd z (by omega)) (fun _ => ?_)))
      refine zcall_i (d' := d - 1) hd1 (c_X5_barWaiting H p (by omega)) ?_
      rintro _ _ ⟨rfl, rr, rfl, hr⟩
      have hq2 := QZ_bar hq (by omega) hr
      have hf2 : fr frK h (setL H 4 6 rr) := fr_setL hf rfl
      have e19 : (setL H 4 6 rr).1 2 19 = ((h.1 2 19).toNat : Int) := by
        show H.1 2 19 = _
        rw [(hf 2 19 rfl).1]
        omega
      refine zcall_i (d' := d - 1) hd1 (c_soonX hd5 h _ a b c _ (aw h) (h.1 2 19).toNat (-1) (-1) 0 p hV hq2 oa ob e19 (by omega)) ?_
      rintro _ g2 ⟨hf3, rfl⟩
      have bd := soonV_b (SZ h c (aw h) (-1) (-1) 0 (p : Int)) (a / 10000).toNat (a % 10000).toNat b.toNat (h.1 2 19).toNat
      have no := @soonV_no (SZ h c (aw h) (-1) (-1) 0 (p : Int)) (a / 10000).toNat (a % 10000).toNat b.toNat (h.1 2 19).toNat
      have nx := ih (p + 1) g2 p (by omega) (fr_trans hf2 (frK_S hf3)) (Isea_S hs hf3) (QZ_S hq2 hf3)
      refine And.intro (by omega) (And.intro (by decide) (And.intro (fun z => ?_) (fun z => ?_)))
      · have hn : ¬ ¬ rdB (SZ h c (aw h) (-1) (-1) 0 (p : Int)) (a / 10000).toNat (a % 10000).toNat b.toNat (h.1 2 19).toNat := fun q => z (no.mpr q)
        rw [bitsF_0 hn] at nx
        exact zJ_le nx (And.intro rfl (And.intro rfl (And.intro rfl (And.intro rfl (And.intro rfl (And.intro rfl trivial)))))) rfl rfl
      · rw [bitsF_1 (φ := fun p => ¬ rdB (SZ h c (aw h) (-1) (-1) 0 (p : Int)) (a / 10000).toNat (a % 10000).toNat b.toNat (h.1 2 19).toNat) (no.mp z)] at nx
        exact zJ_le nx (And.intro rfl (And.intro rfl (And.intro rfl (And.intro rfl (And.intro rfl (And.intro rfl trivial)))))) rfl rfl
  refine zrun_sound t_X8_must C E [71] 60 _ _ _ _ ?_
  refine zcall_i (d' := d - 1) (by omega) (c_X8_isFrom (by omega) h a ha hv3) ?_
  rintro _ _ ⟨rfl, rfl⟩
  refine And.intro g_in (And.intro (fun c1 => And.intro (fr_rfl _ _) (And.intro hI ⟨_, rfl, Or.inl ⟨fun z => g_f c1 z.1, rfl⟩⟩)) (fun c1 => ?_))
  refine zcall_i (d' := d - 1) (by omega) (c_X8_isPlace (by omega) h b hb hv3) ?_
  rintro _ _ ⟨rfl, rfl⟩
  refine And.intro g_in (And.intro (fun c2 => And.intro (fr_rfl _ _) (And.intro hI ⟨_, rfl, Or.inl ⟨fun z => g_f c2 z.2.1, rfl⟩⟩)) (fun c2 => ?_))
  refine zcall_i (d' := d - 1) (by omega) (c_X8_isSortAndTide (by omega) h c hc hv1) ?_
  rintro _ _ ⟨rfl, rfl⟩
  refine And.intro g_in (And.intro (fun c3 => ?_) (fun c3 => And.intro (fr_rfl _ _) (And.intro hI ⟨_, rfl, Or.inl ⟨fun z => g_f c3 z.2.2, rfl⟩⟩)))
  have q1 := g_t c1
  replace q1 : okF h a := q1
  have q2 := g_t c2
  replace q2 : okP h b := q2
  have q3 := g_t c3
  replace q3 : okT h c := q3
  refine zcall_i (d' := d - 1) (by omega) (c_X2_allWinds h (by omega)) ?_
  rintro _ _ ⟨rfl, rfl⟩
  refine zcall_i (d' := d - 1) (by omega) (c_prepX (by omega) h c _ (aw h) hV hI q3 w3 ⟨w1, w2⟩) ?_
  rintro _ g ⟨rfl, hf, hs, hq⟩
  have e19 : g.1 2 19 = ((h.1 2 19).toNat : Int) := by
    rw [(hf 2 19 rfl).1]
    omega
  refine zcall_i (d' := d - 1) (by omega) (c_soonX (by omega) h g a b c _ (aw h) (h.1 2 19).toNat (-1) (-1) 0 (-1) hV hq q1 q2 e19 (by omega)) ?_
  rintro _ g2 ⟨hf3, rfl⟩
  have bd := soonV_b (SB h c (aw h)) (a / 10000).toNat (a % 10000).toNat b.toNat (h.1 2 19).toNat
  have no := @soonV_no (SB h c (aw h)) (a / 10000).toNat (a % 10000).toNat b.toNat (h.1 2 19).toNat
  have hf4 := fr_trans hf (frK_S hf3)
  refine And.intro (by omega) (And.intro (by decide) (And.intro (fun z => ?_) (fun z => ?_)))
  · exact zJ_le (loop q1 q2 q3 (Classical.not_not.mp (fun q => z (no.mpr q))) (h.1 2 8).toNat 0 g2 (-1) (by omega) hf4 (Isea_S hs hf3) (QZ_S hq hf3)) (And.intro rfl (And.intro rfl (And.intro rfl (And.intro rfl (And.intro rfl (And.intro rfl trivial)))))) rfl rfl
  · exact And.intro hf4 (And.intro (Isea_S hs hf3) ⟨_, rfl, Or.inr (Or.inl ⟨⟨q1, q2, q3⟩, no.mp z, rfl⟩)⟩)
set_option maxHeartbeats 2000000 in
theorem c_X9_must {d : Nat} (hd : 7 ≤ d) (h : zH) (a b c : Int) (ha : inR a) (hb : inR b) (hc : inR c) (hI : Inv2 h) :
    zC d k_X9_must [sR 52, sI a, sI b, sI c] h (fun o g => Inv2 g ∧ ∃ r : Int, o = some (sI r) ∧ mustA h a b c r) := by
  have hV := hI.1.1
  have hE := hI.1.2.1
  obtain ⟨hv1, hv2, hv3, hv4, hv5⟩ := id hV.1
  obtain ⟨w1, w2, w3⟩ := aw_ok hV
  obtain ⟨x1, x2, x3, x4, x5, x6⟩ := id hE.1
  obtain ⟨m1, m2, m3⟩ := id hI.1.2.2.2.2.2.2.2.2.2
  have m4 := hI.2
  have g1 := c_X9_isFrom (d := d - 1) (by omega) h a ha (by omega)
  have g2 := c_X9_isPlace (d := d - 1) (by omega) h b hb (by omega)
  have g3 := c_X9_isSt (d := d - 1) (by omega) h c hc (by omega)
  have hall : ∀ H : zH, kpR h H → zC (d - 1) k_X9_allWinds [sR 52] H (fun o g => H = g ∧ o = some (sI (aw h))) := fun H k => by
    have e16 : H.1 52 16 = h.1 2 4 := (k.2.2 16 (by omega) (by omega) (by omega) (by omega) (by omega)).trans x2
    have := c_X9_allWinds (d := d - 1) H (by omega)
    rw [e16, w3] at this
    exact this
  rw [x3] at g1 g2
  rw [x1] at g3
  refine zC_of (by decide +kernel) (Nat.le_of_ble_eq_true rfl) (fun X C E => ?_)
  have loop : okF h a → okP h b → okT h c → rdB (SB h c (aw h)) (a / 10000).toNat (a % 10000).toNat b.toNat (h.1 2 19).toNat → ∀ (f p : Nat) (H : zH), p + f = (h.1 2 8).toNat → kpR h H → Isea H → H.1 52 31 = -1 → H.1 52 32 = -1 → (0 ≤ H.1 52 33 ∧ H.1 52 33 ≤ 200) → zJ X 49 [some (sR 52), some (sI a), some (sI b), some (sI c), some (sI (bitsF (fun p => ¬ rdB (SZ h c (aw h) (-1) (-1) 0 (p : Int)) (a / 10000).toNat (a % 10000).toNat b.toNat (h.1 2 19).toNat) p)), some (sI p)] [] H := by
    intro oa ob oc hB f
    induction f with
    | zero =>
      intro p H hp k hs n1 n2 n3
      have e20 : H.1 52 20 = h.1 2 8 := (k.2.2 20 (by omega) (by omega) (by omega) (by omega) (by omega)).trans x3
      refine zrun_sound t_X9_must C E [] 60 _ _ _ _ ?_
      refine And.intro (by omega) (And.intro (by omega) (And.intro (fun _ => ?_) (fun z => absurd (by omega) z)))
      refine And.intro (kpR_I (kpR_i k (Or.inr (Or.inr (Or.inr rfl)))) hI hs n1 n2 rfl n3) ⟨_, rfl, Or.inr (Or.inr ⟨⟨oa, ob, oc⟩, hB, ?_⟩)⟩
      rw [show p = (h.1 2 8).toNat by omega]
    | succ f ih =>
      intro p H hp k hs n1 n2 n3
      have e20 : H.1 52 20 = h.1 2 8 := (k.2.2 20 (by omega) (by omega) (by omega) (by omega) (by omega)).trans x3
      have hd1 : d - 1 + 1 ≤ d := by omega
      have k2 : kpR h (setI H 52 34 p) := kpR_i k (Or.inr (Or.inr (Or.inr rfl)))
      have bi := bitsF_in (fun p => ¬ rdB (SZ h c (aw h) (-1) (-1) 0 (p : Int)) (a / 10000).toNat (a % 10000).toNat b.toNat (h.1 2 19).toNat) p
      refine zrun_sound t_X9_must C E [49] 60 _ _ _ _ ?_
      refine And.intro (by omega) (And.intro (by omega) (And.intro (fun z => absurd z (by omega)) (fun _ => ?_)))
      refine zcall_i (d' := d - 1) hd1 (hall _ k2) ?_
      rintro _ _ ⟨rfl, rfl⟩
      have hW : Imw (setI H 52 34 p) := by
        refine ⟨?_, ?_, n3, ?_⟩
        · show -1 ≤ H.1 52 31 ∧ H.1 52 31 ≤ 24
          omega
        · show -1 ≤ H.1 52 32 ∧ H.1 52 32 ≤ 24
          omega
        · show -1 ≤ (p : Int) ∧ (p : Int) ≤ 12
          omega
      refine zcall_i (d' := d - 1) hd1 (c_byDarkK (by omega) h _ a b c _ (aw h) (-1) (-1) (H.1 52 33) p k2 hV hE hW oa ob oc rfl ⟨w1, w2⟩ n1 n2 rfl rfl) ?_
      rintro o g3 ⟨hf, ho⟩
      rw [SZ_Y (Y' := 0)] at ho
      have nx := ih (p + 1) g3 (by omega) (kpR_t k2 (kpR_R hf)) (kpR_sea hf hs) ((hf 52 31 rfl).1.trans n1) ((hf 52 32 rfl).1.trans n2) (by rw [(hf 52 33 rfl).1]; exact n3)
      rcases ho with ⟨rfl, z⟩ | ⟨rfl, z⟩
      · refine And.intro (by decide) (And.intro (fun q => absurd q (by decide)) (fun _ => ?_))
        rw [bitsF_0 (fun q => q z)] at nx
        refine zJ_le nx (And.intro rfl (And.intro rfl (And.intro rfl (And.intro rfl (And.intro (congrArg sI (or32_0 bi).symm) (And.intro rfl trivial)))))) rfl rfl
      · refine And.intro (by decide) (And.intro (fun _ => ?_) (fun q => absurd rfl q))
        rw [bitsF_1 (φ := fun p => ¬ rdB (SZ h c (aw h) (-1) (-1) 0 (p : Int)) (a / 10000).toNat (a % 10000).toNat b.toNat (h.1 2 19).toNat) z] at nx
        exact zJ_le nx (And.intro rfl (And.intro rfl (And.intro rfl (And.intro rfl (And.intro rfl (And.intro rfl trivial)))))) rfl rfl
  refine zrun_sound t_X9_must C E [49] 60 _ _ _ _ ?_
  refine zcall_i (d' := d - 1) (by omega) g1 ?_
  rintro _ _ ⟨rfl, rfl⟩
  refine And.intro g_in (And.intro (fun c1 => And.intro hI ⟨_, rfl, Or.inl ⟨fun z => g_f c1 z.1, rfl⟩⟩) (fun c1 => ?_))
  refine zcall_i (d' := d - 1) (by omega) g2 ?_
  rintro _ _ ⟨rfl, rfl⟩
  refine And.intro g_in (And.intro (fun c2 => And.intro hI ⟨_, rfl, Or.inl ⟨fun z => g_f c2 z.2.1, rfl⟩⟩) (fun c2 => ?_))
  refine zcall_i (d' := d - 1) (by omega) g3 ?_
  rintro _ _ ⟨rfl, rfl⟩
  refine And.intro g_in (And.intro (fun c3 => ?_) (fun c3 => And.intro hI ⟨_, rfl, Or.inl ⟨fun z => g_f c3 z.2.2, rfl⟩⟩))
  have q1 := g_t c1
  replace q1 : okF h a := q1
  have q2 := g_t c2
  replace q2 : okP h b := q2
  have q3 := g_t c3
  replace q3 : okT h c := q3
  have hW := Imw_of hI.1.2.2.2.2.2.2.2.2.2 hI.2
  refine zcall_i (d' := d - 1) (by omega) (hall h (kpR_0 h)) ?_
  rintro _ _ ⟨rfl, rfl⟩
  refine zcall_i (d' := d - 1) (by omega) (c_byDarkK (by omega) h h a b c _ (aw h) (-1) (-1) (h.1 52 33) (-1) (kpR_0 h) hV hE hW q1 q2 q3 rfl ⟨w1, w2⟩ m1 m2 rfl m3) ?_
  rintro o g4 ⟨hf, ho⟩
  rw [SZ_Y (Y' := 0)] at ho
  have kk := kpR_R hf
  have i1 := (hf 52 31 rfl).1.trans m1
  have i2 := (hf 52 32 rfl).1.trans m2
  have i3 := (hf 52 34 rfl).1.trans m3
  have i4 : 0 ≤ g4.1 52 33 ∧ g4.1 52 33 ≤ 200 := by rw [(hf 52 33 rfl).1]; exact m4
  have hs := kpR_sea hf hI.1.2.2.1
  rcases ho with ⟨rfl, z⟩ | ⟨rfl, z⟩
  · refine And.intro (by decide) (And.intro (fun _ => ?_) (fun q => absurd q (by decide)))
    exact zJ_le (loop q1 q2 q3 z (h.1 2 8).toNat 0 g4 (by omega) kk hs i1 i2 i4) (And.intro rfl (And.intro rfl (And.intro rfl (And.intro rfl (And.intro rfl (And.intro rfl trivial)))))) rfl rfl
  · refine And.intro (by decide) (And.intro (fun q => absurd rfl q) (fun _ => ?_))
    exact And.intro (kpR_I kk hI hs i1 i2 i3 i4) ⟨_, rfl, Or.inr (Or.inl ⟨⟨q1, q2, q3⟩, z, rfl⟩)⟩
theorem pr_must {d : Nat} (hd : 7 ≤ d) {a b c : Int} (ha : inR a) (hb : inR b) (hc : inR c) : Pair2 d k_X8_must k_X9_must [sI a, sI b, sI c] := fun h hI => by
  refine zC_mono (c_X8_must hd h a b c ha hb hc hI.1.1 hI.1.2.2.1) ?_
  rintro o g ⟨hf, hs, r, rfl, hr⟩
  refine ⟨r, rfl, zC_mono (c_X9_must hd g a b c ha hb hc (Inv_K hI hs hf)) ?_⟩
  rintro o g' ⟨hI', r', rfl, hr'⟩
  rw [mustA_u hr (mustA_k (kpR_K hf) hr')]
  exact ⟨rfl, hI'⟩
