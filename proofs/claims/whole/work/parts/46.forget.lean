theorem cpI_ne {h : zH} {a sp b dp n c : Nat} (hc : c ≠ b) : (cpI h a sp b dp n).1 c = h.1 c := funext fun i => by
  show (if c = b then va_cpy (h.1 a) (h.1 b) sp dp n i else h.1 c i) = _
  rw [if_neg hc]
theorem cpI_1 {h : zH} {b n i : Nat} (hi : i < n) : (cpI h b 1 b 0 n).1 b i = h.1 b (i + 1) := by
  show (if b = b then va_cpy (h.1 b) (h.1 b) 1 0 n i else h.1 b i) = _
  rw [if_pos rfl]
  unfold va_cpy
  rw [if_pos (by omega), show 1 + (i - 0) = i + 1 by omega]
def fgt (h : zH) : zH := cpI (cpI (cpI (cpI (setI h 6 5 39) 40 1 40 0 39) 41 1 41 0 39) 42 1 42 0 39) 43 1 43 0 39
theorem fgt_ne {h : zH} {c : Nat} (hc : c ≠ 6 ∧ c ≠ 40 ∧ c ≠ 41 ∧ c ≠ 42 ∧ c ≠ 43) : (fgt h).1 c = h.1 c := by
  unfold fgt
  rw [cpI_ne (by omega), cpI_ne (by omega), cpI_ne (by omega), cpI_ne (by omega), setI_ne (by omega)]
theorem fgt_at {h : zH} {c i : Nat} (hc : c = 40 ∨ c = 41 ∨ c = 42 ∨ c = 43) (hi : i < 39) : (fgt h).1 c i = h.1 c (i + 1) := by
  unfold fgt
  rcases hc with rfl | rfl | rfl | rfl
  · rw [cpI_ne (by omega), cpI_ne (by omega), cpI_ne (by omega), cpI_1 hi, setI_ne (by omega)]
  · rw [cpI_ne (by omega), cpI_ne (by omega), cpI_1 hi, cpI_ne (by omega), setI_ne (by omega)]
  · rw [cpI_ne (by omega), cpI_1 hi, cpI_ne (by omega), cpI_ne (by omega), setI_ne (by omega)]
  · rw [cpI_1 hi, cpI_ne (by omega), cpI_ne (by omega), cpI_ne (by omega), setI_ne (by omega)]
theorem fgt_65 {h : zH} : (fgt h).1 6 5 = 39 := by
  unfold fgt
  rw [cpI_ne (by omega), cpI_ne (by omega), cpI_ne (by omega), cpI_ne (by omega), setI_eq]
theorem c_X1_forgetOldest {d : Nat} (hd : 2 ≤ d) (h : zH) : zC d k_X1_forgetOldest [sR 6] h (fun x g => x = none ∧ g = fgt h) := by
  refine zC_of (by decide +kernel) (Nat.le_of_ble_eq_true rfl) (fun X C E => zrun_sound t_X1_forgetOldest C E [] 60 _ _ _ _ ?_)
  have a0 : (0 : Int) ≤ 39 := by decide
  have a1 : (0 : Int) ≤ 1 := by decide
  have a2 : (0 : Int) ≤ 0 := by decide
  have a3 : (1 : Int) + 39 ≤ ((40 : Nat) : Int) := by decide
  have a4 : (0 : Int) + 39 ≤ ((40 : Nat) : Int) := by decide
  have hd1 : 1 ≤ d := by omega
  refine And.intro hd1 (And.intro a1 (And.intro a2 (And.intro a0 (And.intro a3 (And.intro a4 ?_)))))
  refine And.intro hd1 (And.intro a1 (And.intro a2 (And.intro a0 (And.intro a3 (And.intro a4 ?_)))))
  refine And.intro hd1 (And.intro a1 (And.intro a2 (And.intro a0 (And.intro a3 (And.intro a4 ?_)))))
  refine And.intro hd1 (And.intro a1 (And.intro a2 (And.intro a0 (And.intro a3 (And.intro a4 ?_)))))
  exact And.intro rfl rfl
/-- what is told is told: a number becomes v (the class's side), not as it was -/
def tldC (h g : zH) (w : Int) (rc j : Nat) (v : Int) : Prop := (∀ c, c ≠ 6 → c ≠ 40 → c ≠ 41 → c ≠ 42 → c ≠ 43 → c ≠ rc → g.1 c = h.1 c) ∧ g.2 = h.2 ∧ (∀ i, g.1 rc i = if i = j then v else h.1 rc i) ∧
  ∃ m s : Nat, ((h.1 6 5 = 40 ∧ m = 39 ∧ s = 1) ∨ (h.1 6 5 < 40 ∧ h.1 6 5 = m ∧ s = 0)) ∧ g.1 6 5 = m + 1 ∧ g.1 6 6 = m + 1 ∧ (∀ c i, c = 40 ∨ c = 41 ∨ c = 42 ∨ c = 43 → i < m → g.1 c i = h.1 c (i + s)) ∧ g.1 40 m = w ∧ g.1 41 m = j ∧ g.1 42 m = h.1 rc j ∧ g.1 43 m = v
def endT (h : zH) (m : Nat) (w j a b : Int) : zH := setI (setI (setI (setI (setI (setI h 40 m w) 41 m j) 42 m a) 43 m b) 6 5 ((m : Int) + 1)) 6 6 ((m : Int) + 1)
theorem endT_ne {h : zH} {m c : Nat} {w j a b : Int} (hc : c ≠ 6 ∧ c ≠ 40 ∧ c ≠ 41 ∧ c ≠ 42 ∧ c ≠ 43) : (endT h m w j a b).1 c = h.1 c := by
  unfold endT
  rw [setI_ne (by omega), setI_ne (by omega), setI_ne (by omega), setI_ne (by omega), setI_ne (by omega), setI_ne (by omega)]
theorem endT_old {h : zH} {m c i : Nat} {w j a b : Int} (hc : c = 40 ∨ c = 41 ∨ c = 42 ∨ c = 43) (hi : i < m) : (endT h m w j a b).1 c i = h.1 c i := by
  unfold endT
  rcases hc with rfl | rfl | rfl | rfl
  · rw [setI_ne (by omega), setI_ne (by omega), setI_ne (by omega), setI_ne (by omega), setI_ne (by omega), setI_n2 (by omega)]
  · rw [setI_ne (by omega), setI_ne (by omega), setI_ne (by omega), setI_ne (by omega), setI_n2 (by omega), setI_ne (by omega)]
  · rw [setI_ne (by omega), setI_ne (by omega), setI_ne (by omega), setI_n2 (by omega), setI_ne (by omega), setI_ne (by omega)]
  · rw [setI_ne (by omega), setI_ne (by omega), setI_n2 (by omega), setI_ne (by omega), setI_ne (by omega), setI_ne (by omega)]
theorem endT_at {h : zH} {m : Nat} {w j a b : Int} : (endT h m w j a b).1 6 5 = m + 1 ∧ (endT h m w j a b).1 6 6 = m + 1 ∧ (endT h m w j a b).1 40 m = w ∧ (endT h m w j a b).1 41 m = j ∧ (endT h m w j a b).1 42 m = a ∧ (endT h m w j a b).1 43 m = b := by
  unfold endT
  refine ⟨?_, ?_, ?_, ?_, ?_, ?_⟩
  · rw [setI_n2 (by omega), setI_eq]
  · rw [setI_eq]
  · rw [setI_ne (by omega), setI_ne (by omega), setI_ne (by omega), setI_ne (by omega), setI_ne (by omega), setI_eq]
  · rw [setI_ne (by omega), setI_ne (by omega), setI_ne (by omega), setI_ne (by omega), setI_eq]
  · rw [setI_ne (by omega), setI_ne (by omega), setI_ne (by omega), setI_eq]
  · rw [setI_ne (by omega), setI_ne (by omega), setI_eq]
