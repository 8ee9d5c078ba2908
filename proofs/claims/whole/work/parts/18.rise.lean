theorem c_fillI_34 {d : Nat} (h : zH) (v : Int) : zC d k_J7_fill_53178 [sR 34, sI v] h (fun o g => o = none ∧ fr (fun c _ => c == 34) h g ∧ ∀ i, i < 1440 → g.1 34 i = v) := by
  refine zC_of (by decide +kernel) (Nat.le_of_ble_eq_true rfl) (fun X C E => ?_)
  have loop : ∀ (f j : Nat) (g : zH), j + f = 1440 → fr (fun c _ => c == 34) h g → (∀ i, i < j → g.1 34 i = v) → zJ X 5 [some (sR 34), some (sI v), some (sI j), some (sI (1440 : Nat))] [] g := by
    intro f
    induction f with
    | zero =>
      intro j g hj hf hv
      refine zrun_sound t_J7_fill_53178 C E [] 40 _ _ _ _ ?_
      refine And.intro (by omega) (And.intro (by omega) (And.intro (fun c => ?_) (fun c => absurd c (by omega))))
      exact And.intro rfl (And.intro hf (fun i hi => hv i (by omega)))
    | succ f ih =>
      intro j g hj hf hv
      refine zrun_sound t_J7_fill_53178 C E [5] 40 _ _ _ _ ?_
      refine And.intro (by omega) (And.intro (by omega) (And.intro (fun c => absurd c (by omega)) (fun c => ?_)))
      refine And.intro (by omega) (And.intro (by omega) ?_)
      refine zJ_le (ih (j + 1) (setI g 34 j v) (by omega) (fr_setI hf rfl) (fun i hi => ?_)) (And.intro rfl (And.intro rfl (And.intro rfl (And.intro rfl trivial)))) rfl rfl
      rw [setI_at]
      by_cases hij : i = j
      · rw [if_pos ⟨rfl, hij⟩]
      · rw [if_neg (fun q => hij q.2)]
        exact hv i (by omega)
  refine zrun_sound t_J7_fill_53178 C E [5] 40 _ _ _ _ ?_
  exact loop 1440 0 h (by omega) (fr_rfl _ _) (fun i hi => absurd hi (by omega))
theorem c_fillI_38 {d : Nat} (h : zH) (v : Int) : zC d k_J7_fill_53178 [sR 38, sI v] h (fun o g => o = none ∧ fr (fun c _ => c == 38) h g ∧ ∀ i, i < 24 → g.1 38 i = v) := by
  refine zC_of (by decide +kernel) (Nat.le_of_ble_eq_true rfl) (fun X C E => ?_)
  have loop : ∀ (f j : Nat) (g : zH), j + f = 24 → fr (fun c _ => c == 38) h g → (∀ i, i < j → g.1 38 i = v) → zJ X 5 [some (sR 38), some (sI v), some (sI j), some (sI (24 : Nat))] [] g := by
    intro f
    induction f with
    | zero =>
      intro j g hj hf hv
      refine zrun_sound t_J7_fill_53178 C E [] 40 _ _ _ _ ?_
      refine And.intro (by omega) (And.intro (by omega) (And.intro (fun c => ?_) (fun c => absurd c (by omega))))
      exact And.intro rfl (And.intro hf (fun i hi => hv i (by omega)))
    | succ f ih =>
      intro j g hj hf hv
      refine zrun_sound t_J7_fill_53178 C E [5] 40 _ _ _ _ ?_
      refine And.intro (by omega) (And.intro (by omega) (And.intro (fun c => absurd c (by omega)) (fun c => ?_)))
      refine And.intro (by omega) (And.intro (by omega) ?_)
      refine zJ_le (ih (j + 1) (setI g 38 j v) (by omega) (fr_setI hf rfl) (fun i hi => ?_)) (And.intro rfl (And.intro rfl (And.intro rfl (And.intro rfl trivial)))) rfl rfl
      rw [setI_at]
      by_cases hij : i = j
      · rw [if_pos ⟨rfl, hij⟩]
      · rw [if_neg (fun q => hij q.2)]
        exact hv i (by omega)
  refine zrun_sound t_J7_fill_53178 C E [5] 40 _ _ _ _ ?_
  exact loop 24 0 h (by omega) (fr_rfl _ _) (fun i hi => absurd hi (by omega))
theorem c_fillL_35 {d : Nat} (h : zH) (v : Int64) : zC d k_J7_fill_d0a16 [sR 35, sL v] h (fun o g => o = none ∧ fr (fun c _ => c == 35) h g ∧ ∀ i, i < 1440 → g.2 35 i = v) := by
  refine zC_of (by decide +kernel) (Nat.le_of_ble_eq_true rfl) (fun X C E => ?_)
  have loop : ∀ (f j : Nat) (g : zH), j + f = 1440 → fr (fun c _ => c == 35) h g → (∀ i, i < j → g.2 35 i = v) → zJ X 6 [some (sR 35), some (sL v), none, some (sI j), some (sI (1440 : Nat))] [] g := by
    intro f
    induction f with
    | zero =>
      intro j g hj hf hv
      refine zrun_sound t_J7_fill_d0a16 C E [] 40 _ _ _ _ ?_
      refine And.intro (by omega) (And.intro (by omega) (And.intro (fun c => ?_) (fun c => absurd c (by omega))))
      exact And.intro rfl (And.intro hf (fun i hi => hv i (by omega)))
    | succ f ih =>
      intro j g hj hf hv
      refine zrun_sound t_J7_fill_d0a16 C E [6] 40 _ _ _ _ ?_
      refine And.intro (by omega) (And.intro (by omega) (And.intro (fun c => absurd c (by omega)) (fun c => ?_)))
      refine And.intro (by omega) (And.intro (by omega) ?_)
      refine zJ_le (ih (j + 1) (setL g 35 j v) (by omega) (fr_setL hf rfl) (fun i hi => ?_)) (And.intro rfl (And.intro rfl (And.intro rfl (And.intro rfl trivial)))) rfl rfl
      rw [setL_at]
      by_cases hij : i = j
      · rw [if_pos ⟨rfl, hij⟩]
      · rw [if_neg (fun q => hij q.2)]
        exact hv i (by omega)
  refine zrun_sound t_J7_fill_d0a16 C E [6] 40 _ _ _ _ ?_
  exact loop 1440 0 h (by omega) (fr_rfl _ _) (fun i hi => absurd hi (by omega))
theorem c_fillL_36 {d : Nat} (h : zH) (v : Int64) : zC d k_J7_fill_d0a16 [sR 36, sL v] h (fun o g => o = none ∧ fr (fun c _ => c == 36) h g ∧ ∀ i, i < 1440 → g.2 36 i = v) := by
  refine zC_of (by decide +kernel) (Nat.le_of_ble_eq_true rfl) (fun X C E => ?_)
  have loop : ∀ (f j : Nat) (g : zH), j + f = 1440 → fr (fun c _ => c == 36) h g → (∀ i, i < j → g.2 36 i = v) → zJ X 6 [some (sR 36), some (sL v), none, some (sI j), some (sI (1440 : Nat))] [] g := by
    intro f
    induction f with
    | zero =>
      intro j g hj hf hv
      refine zrun_sound t_J7_fill_d0a16 C E [] 40 _ _ _ _ ?_
      refine And.intro (by omega) (And.intro (by omega) (And.intro (fun c => ?_) (fun c => absurd c (by omega))))
      exact And.intro rfl (And.intro hf (fun i hi => hv i (by omega)))
    | succ f ih =>
      intro j g hj hf hv
      refine zrun_sound t_J7_fill_d0a16 C E [6] 40 _ _ _ _ ?_
      refine And.intro (by omega) (And.intro (by omega) (And.intro (fun c => absurd c (by omega)) (fun c => ?_)))
      refine And.intro (by omega) (And.intro (by omega) ?_)
      refine zJ_le (ih (j + 1) (setL g 36 j v) (by omega) (fr_setL hf rfl) (fun i hi => ?_)) (And.intro rfl (And.intro rfl (And.intro rfl (And.intro rfl trivial)))) rfl rfl
      rw [setL_at]
      by_cases hij : i = j
      · rw [if_pos ⟨rfl, hij⟩]
      · rw [if_neg (fun q => hij q.2)]
        exact hv i (by omega)
  refine zrun_sound t_J7_fill_d0a16 C E [6] 40 _ _ _ _ ?_
  exact loop 1440 0 h (by omega) (fr_rfl _ _) (fun i hi => absurd hi (by omega))
theorem c_fillL_46 {d : Nat} (h : zH) (v : Int64) : zC d k_J7_fill_d0a16 [sR 46, sL v] h (fun o g => o = none ∧ fr (fun c _ => c == 46) h g ∧ ∀ i, i < 60 → g.2 46 i = v) := by
  refine zC_of (by decide +kernel) (Nat.le_of_ble_eq_true rfl) (fun X C E => ?_)
  have loop : ∀ (f j : Nat) (g : zH), j + f = 60 → fr (fun c _ => c == 46) h g → (∀ i, i < j → g.2 46 i = v) → zJ X 6 [some (sR 46), some (sL v), none, some (sI j), some (sI (60 : Nat))] [] g := by
    intro f
    induction f with
    | zero =>
      intro j g hj hf hv
      refine zrun_sound t_J7_fill_d0a16 C E [] 40 _ _ _ _ ?_
      refine And.intro (by omega) (And.intro (by omega) (And.intro (fun c => ?_) (fun c => absurd c (by omega))))
      exact And.intro rfl (And.intro hf (fun i hi => hv i (by omega)))
    | succ f ih =>
      intro j g hj hf hv
      refine zrun_sound t_J7_fill_d0a16 C E [6] 40 _ _ _ _ ?_
      refine And.intro (by omega) (And.intro (by omega) (And.intro (fun c => absurd c (by omega)) (fun c => ?_)))
      refine And.intro (by omega) (And.intro (by omega) ?_)
      refine zJ_le (ih (j + 1) (setL g 46 j v) (by omega) (fr_setL hf rfl) (fun i hi => ?_)) (And.intro rfl (And.intro rfl (And.intro rfl (And.intro rfl trivial)))) rfl rfl
      rw [setL_at]
      by_cases hij : i = j
      · rw [if_pos ⟨rfl, hij⟩]
      · rw [if_neg (fun q => hij q.2)]
        exact hv i (by omega)
  refine zrun_sound t_J7_fill_d0a16 C E [6] 40 _ _ _ _ ?_
  exact loop 60 0 h (by omega) (fr_rfl _ _) (fun i hi => absurd hi (by omega))
theorem c_fillL_47 {d : Nat} (h : zH) (v : Int64) : zC d k_J7_fill_d0a16 [sR 47, sL v] h (fun o g => o = none ∧ fr (fun c _ => c == 47) h g ∧ ∀ i, i < 60 → g.2 47 i = v) := by
  refine zC_of (by decide +kernel) (Nat.le_of_ble_eq_true rfl) (fun X C E => ?_)
  have loop : ∀ (f j : Nat) (g : zH), j + f = 60 → fr (fun c _ => c == 47) h g → (∀ i, i < j → g.2 47 i = v) → zJ X 6 [some (sR 47), some (sL v), none, some (sI j), some (sI (60 : Nat))] [] g := by
    intro f
    induction f with
    | zero =>
      intro j g hj hf hv
      refine zrun_sound t_J7_fill_d0a16 C E [] 40 _ _ _ _ ?_
      refine And.intro (by omega) (And.intro (by omega) (And.intro (fun c => ?_) (fun c => absurd c (by omega))))
      exact And.intro rfl (And.intro hf (fun i hi => hv i (by omega)))
    | succ f ih =>
      intro j g hj hf hv
      refine zrun_sound t_J7_fill_d0a16 C E [6] 40 _ _ _ _ ?_
      refine And.intro (by omega) (And.intro (by omega) (And.intro (fun c => absurd c (by omega)) (fun c => ?_)))
      refine And.intro (by omega) (And.intro (by omega) ?_)
      refine zJ_le (ih (j + 1) (setL g 47 j v) (by omega) (fr_setL hf rfl) (fun i hi => ?_)) (And.intro rfl (And.intro rfl (And.intro rfl (And.intro rfl trivial)))) rfl rfl
      rw [setL_at]
      by_cases hij : i = j
      · rw [if_pos ⟨rfl, hij⟩]
      · rw [if_neg (fun q => hij q.2)]
        exact hv i (by omega)
  refine zrun_sound t_J7_fill_d0a16 C E [6] 40 _ _ _ _ ?_
  exact loop 60 0 h (by omega) (fr_rfl _ _) (fun i hi => absurd hi (by omega))
theorem c_fillL_48 {d : Nat} (h : zH) (v : Int64) : zC d k_J7_fill_d0a16 [sR 48, sL v] h (fun o g => o = none ∧ fr (fun c _ => c == 48) h g ∧ ∀ i, i < 60 → g.2 48 i = v) := by
  refine zC_of (by decide +kernel) (Nat.le_of_ble_eq_true rfl) (fun X C E => ?_)
  have loop : ∀ (f j : Nat) (g : zH), j + f = 60 → fr (fun c _ => c == 48) h g → (∀ i, i < j → g.2 48 i = v) → zJ X 6 [some (sR 48), some (sL v), none, some (sI j), some (sI (60 : Nat))] [] g := by
    intro f
    induction f with
    | zero =>
      intro j g hj hf hv
      refine zrun_sound t_J7_fill_d0a16 C E [] 40 _ _ _ _ ?_
      refine And.intro (by omega) (And.intro (by omega) (And.intro (fun c => ?_) (fun c => absurd c (by omega))))
      exact And.intro rfl (And.intro hf (fun i hi => hv i (by omega)))
    | succ f ih =>
      intro j g hj hf hv
      refine zrun_sound t_J7_fill_d0a16 C E [6] 40 _ _ _ _ ?_
      refine And.intro (by omega) (And.intro (by omega) (And.intro (fun c => absurd c (by omega)) (fun c => ?_)))
      refine And.intro (by omega) (And.intro (by omega) ?_)
      refine zJ_le (ih (j + 1) (setL g 48 j v) (by omega) (fr_setL hf rfl) (fun i hi => ?_)) (And.intro rfl (And.intro rfl (And.intro rfl (And.intro rfl trivial)))) rfl rfl
      rw [setL_at]
      by_cases hij : i = j
      · rw [if_pos ⟨rfl, hij⟩]
      · rw [if_neg (fun q => hij q.2)]
        exact hv i (by omega)
  refine zrun_sound t_J7_fill_d0a16 C E [6] 40 _ _ _ _ ?_
  exact loop 60 0 h (by omega) (fr_rfl _ _) (fun i hi => absurd hi (by omega))
theorem c_fillL_49 {d : Nat} (h : zH) (v : Int64) : zC d k_J7_fill_d0a16 [sR 49, sL v] h (fun o g => o = none ∧ fr (fun c _ => c == 49) h g ∧ ∀ i, i < 60 → g.2 49 i = v) := by
  refine zC_of (by decide +kernel) (Nat.le_of_ble_eq_true rfl) (fun X C E => ?_)
  have loop : ∀ (f j : Nat) (g : zH), j + f = 60 → fr (fun c _ => c == 49) h g → (∀ i, i < j → g.2 49 i = v) → zJ X 6 [some (sR 49), some (sL v), none, some (sI j), some (sI (60 : Nat))] [] g := by
    intro f
    induction f with
    | zero =>
      intro j g hj hf hv
      refine zrun_sound t_J7_fill_d0a16 C E [] 40 _ _ _ _ ?_
      refine And.intro (by omega) (And.intro (by omega) (And.intro (fun c => ?_) (fun c => absurd c (by omega))))
      exact And.intro rfl (And.intro hf (fun i hi => hv i (by omega)))
    | succ f ih =>
      intro j g hj hf hv
      refine zrun_sound t_J7_fill_d0a16 C E [6] 40 _ _ _ _ ?_
      refine And.intro (by omega) (And.intro (by omega) (And.intro (fun c => absurd c (by omega)) (fun c => ?_)))
      refine And.intro (by omega) (And.intro (by omega) ?_)
      refine zJ_le (ih (j + 1) (setL g 49 j v) (by omega) (fr_setL hf rfl) (fun i hi => ?_)) (And.intro rfl (And.intro rfl (And.intro rfl (And.intro rfl trivial)))) rfl rfl
      rw [setL_at]
      by_cases hij : i = j
      · rw [if_pos ⟨rfl, hij⟩]
      · rw [if_neg (fun q => hij q.2)]
        exact hv i (by omega)
  refine zrun_sound t_J7_fill_d0a16 C E [6] 40 _ _ _ _ ?_
  exact loop 60 0 h (by omega) (fr_rfl _ _) (fun i hi => absurd hi (by omega))
theorem c_fillL_50 {d : Nat} (h : zH) (v : Int64) : zC d k_J7_fill_d0a16 [sR 50, sL v] h (fun o g => o = none ∧ fr (fun c _ => c == 50) h g ∧ ∀ i, i < 60 → g.2 50 i = v) := by
  refine zC_of (by decide +kernel) (Nat.le_of_ble_eq_true rfl) (fun X C E => ?_)
  have loop : ∀ (f j : Nat) (g : zH), j + f = 60 → fr (fun c _ => c == 50) h g → (∀ i, i < j → g.2 50 i = v) → zJ X 6 [some (sR 50), some (sL v), none, some (sI j), some (sI (60 : Nat))] [] g := by
    intro f
    induction f with
    | zero =>
      intro j g hj hf hv
      refine zrun_sound t_J7_fill_d0a16 C E [] 40 _ _ _ _ ?_
      refine And.intro (by omega) (And.intro (by omega) (And.intro (fun c => ?_) (fun c => absurd c (by omega))))
      exact And.intro rfl (And.intro hf (fun i hi => hv i (by omega)))
    | succ f ih =>
      intro j g hj hf hv
      refine zrun_sound t_J7_fill_d0a16 C E [6] 40 _ _ _ _ ?_
      refine And.intro (by omega) (And.intro (by omega) (And.intro (fun c => absurd c (by omega)) (fun c => ?_)))
      refine And.intro (by omega) (And.intro (by omega) ?_)
      refine zJ_le (ih (j + 1) (setL g 50 j v) (by omega) (fr_setL hf rfl) (fun i hi => ?_)) (And.intro rfl (And.intro rfl (And.intro rfl (And.intro rfl trivial)))) rfl rfl
      rw [setL_at]
      by_cases hij : i = j
      · rw [if_pos ⟨rfl, hij⟩]
      · rw [if_neg (fun q => hij q.2)]
        exact hv i (by omega)
  refine zrun_sound t_J7_fill_d0a16 C E [6] 40 _ _ _ _ ?_
  exact loop 60 0 h (by omega) (fr_rfl _ _) (fun i hi => absurd hi (by omega))
theorem c_fillL_51 {d : Nat} (h : zH) (v : Int64) : zC d k_J7_fill_d0a16 [sR 51, sL v] h (fun o g => o = none ∧ fr (fun c _ => c == 51) h g ∧ ∀ i, i < 60 → g.2 51 i = v) := by
  refine zC_of (by decide +kernel) (Nat.le_of_ble_eq_true rfl) (fun X C E => ?_)
  have loop : ∀ (f j : Nat) (g : zH), j + f = 60 → fr (fun c _ => c == 51) h g → (∀ i, i < j → g.2 51 i = v) → zJ X 6 [some (sR 51), some (sL v), none, some (sI j), some (sI (60 : Nat))] [] g := by
    intro f
    induction f with
    | zero =>
      intro j g hj hf hv
      refine zrun_sound t_J7_fill_d0a16 C E [] 40 _ _ _ _ ?_
      refine And.intro (by omega) (And.intro (by omega) (And.intro (fun c => ?_) (fun c => absurd c (by omega))))
      exact And.intro rfl (And.intro hf (fun i hi => hv i (by omega)))
    | succ f ih =>
      intro j g hj hf hv
      refine zrun_sound t_J7_fill_d0a16 C E [6] 40 _ _ _ _ ?_
      refine And.intro (by omega) (And.intro (by omega) (And.intro (fun c => absurd c (by omega)) (fun c => ?_)))
      refine And.intro (by omega) (And.intro (by omega) ?_)
      refine zJ_le (ih (j + 1) (setL g 51 j v) (by omega) (fr_setL hf rfl) (fun i hi => ?_)) (And.intro rfl (And.intro rfl (And.intro rfl (And.intro rfl trivial)))) rfl rfl
      rw [setL_at]
      by_cases hij : i = j
      · rw [if_pos ⟨rfl, hij⟩]
      · rw [if_neg (fun q => hij q.2)]
        exact hv i (by omega)
  refine zrun_sound t_J7_fill_d0a16 C E [6] 40 _ _ _ _ ?_
  exact loop 60 0 h (by omega) (fr_rfl _ _) (fun i hi => absurd hi (by omega))
def clampM (m : Int) : Int := max 0 (min 1439 m)
theorem c_X4_raise {d : Nat} (hd : 1 ≤ d) (h : zH) (l ea : Int) (hl : -99 ≤ l ∧ l ≤ 99) (hea : -60 ≤ ea ∧ ea ≤ 60) (ht : ∀ m : Nat, m < 1440 → 0 ≤ h.1 33 m ∧ h.1 33 m ≤ 999) (hr : ∀ m : Nat, m < 1440 → -1000 ≤ h.1 34 m ∧ h.1 34 m ≤ 1098) :
    zC d k_X4_raise [sR 3, sI l, sI ea] h (fun o g => o = none ∧ fr (fun c _ => c == 34) h g ∧ ∀ m : Nat, m < 1440 → g.1 34 m = max (h.1 34 m) (h.1 33 (clampM (m + ea)).toNat + l)) := by
  refine zC_of (by decide +kernel) (Nat.le_of_ble_eq_true rfl) (fun X C E => ?_)
  have loop : ∀ (f j : Nat) (g : zH), j + f = 1440 → fr (fun c _ => c == 34) h g → (∀ m : Nat, m < j → g.1 34 m = max (h.1 34 m) (h.1 33 (clampM (m + ea)).toNat + l)) → (∀ m : Nat, j ≤ m → m < 1440 → g.1 34 m = h.1 34 m) → zJ X 2 [some (sR 3), some (sI l), some (sI ea), some (sI j)] [] g := by
    intro f
    induction f with
    | zero =>
      intro j g hj hf h1 h2
      refine zrun_sound t_X4_raise C E [] 60 _ _ _ _ ?_
      refine And.intro (by omega) (And.intro (by omega) (And.intro (fun c => ?_) (fun c => absurd c (by omega))))
      exact And.intro rfl (And.intro hf (fun i hi => h1 i (by omega)))
    | succ f ih =>
      intro j g hj hf h1 h2
      have ej : ((j : Int)).toNat = j := rfl
      have ec : max 0 (min 1439 ((j : Int) + ea)) = clampM (j + ea) := rfl
      have hc : 0 ≤ clampM (j + ea) ∧ clampM (j + ea) ≤ 1439 := by unfold clampM; omega
      have b1 := ht (clampM (j + ea)).toNat (by omega)
      have b2 := hr j (by omega)
      have e33 : g.1 33 (clampM (j + ea)).toNat = h.1 33 (clampM (j + ea)).toNat := (hf 33 _ rfl).1
      have e34 := h2 j (Nat.le_refl _) (by omega)
      refine zrun_sound t_X4_raise C E [2] 80 _ _ _ _ ?_
      refine And.intro (by omega) (And.intro (by omega) (And.intro (fun c => absurd c (by omega)) (fun c => ?_)))
      refine And.intro (by omega) (And.intro (by omega) (And.intro (by omega) ?_))
      refine And.intro (by omega) (And.intro (by omega) (And.intro (by omega) ?_))
      refine And.intro (by omega) (And.intro (by omega) ?_)
      refine And.intro (by rw [ec]; omega) (And.intro (by rw [ec]; omega) ?_)
      refine And.intro (by omega) (And.intro (by rw [ej, e34]; omega) (And.intro (by rw [ec, e33]; omega) ?_))
      refine And.intro (by omega) (And.intro (by omega) ?_)
      refine zJ_le (ih (j + 1) (setI g 34 j (max (g.1 34 j) (g.1 33 (clampM (j + ea)).toNat + l))) (by omega) (fr_setI hf rfl) (fun m hm => ?_) (fun m hm hm2 => ?_)) (And.intro rfl (And.intro rfl (And.intro rfl (And.intro rfl trivial)))) rfl rfl
      · rw [setI_at]
        by_cases hij : m = j
        · rw [if_pos ⟨rfl, hij⟩, hij, e33, e34]
        · rw [if_neg (fun q => hij q.2)]
          exact h1 m (by omega)
      · rw [setI_at, if_neg (fun q => by omega)]
        exact h2 m (by omega) hm2
  refine zrun_sound t_X4_raise C E [2] 40 _ _ _ _ ?_
  exact loop 1440 0 h (by omega) (fr_rfl _ _) (fun m hm => absurd hm (by omega)) (fun m _ _ => rfl)
