theorem c_X8_within {d : Nat} (h : zH) (v lo hi : Int) (hv : inR v) (hl : inR lo) (hh : inR hi) : zC d k_X8_within [sI v, sI lo, sI hi] h (fun o g => g = h ∧ o = some (sI (if lo ≤ v ∧ v ≤ hi then 1 else 0))) := by
  refine zC_of (by decide +kernel) (Nat.le_of_ble_eq_true rfl) (fun X C E => zrun_sound t_X8_within C E [] 20 _ _ _ _ ?_)
  refine And.intro hv (And.intro hl (And.intro (fun c1 => ?_) (fun c1 => ?_)))
  · refine And.intro (Or.inl rfl) (And.intro rfl ?_)
    rw [if_neg (by omega)]
  · refine And.intro hv (And.intro hh (And.intro (fun c2 => ?_) (fun c2 => ?_)))
    · refine And.intro (Or.inl rfl) (And.intro rfl ?_)
      rw [if_neg (by omega)]
    · refine And.intro (Or.inr rfl) (And.intro rfl ?_)
      rw [if_pos (by omega)]
theorem c_X2_taking {d : Nat} (h : zH) (way sort weary : Int) (hw : 0 ≤ way ∧ way < 24) (hs : 0 ≤ sort ∧ sort < 4) (hy : 0 ≤ weary ∧ weary ≤ 3) (hl : 1 ≤ h.1 28 way.toNat ∧ h.1 28 way.toNat ≤ 90) (hh : 50 ≤ h.1 32 sort.toNat ∧ h.1 32 sort.toNat ≤ 400) : zC d k_X2_taking [sR 2, sI way, sI sort, sI weary] h (fun o g => g = h ∧ o = some (sI ((h.1 28 way.toNat * (h.1 32 sort.toNat + 10 * weary) + 99) / 100))) := by
  refine zC_of (by decide +kernel) (Nat.le_of_ble_eq_true rfl) (fun X C E => zrun_sound t_X2_taking C E [] 40 _ _ _ _ ?_)
  refine And.intro (by omega) (And.intro (by omega) ?_)
  refine And.intro (by omega) (And.intro (by omega) ?_)
  refine And.intro ?_ ?_
  · trace_state
    sorry
  · trace_state
    sorry
