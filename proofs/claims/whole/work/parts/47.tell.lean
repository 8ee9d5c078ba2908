theorem tldC_A {h : zH} {w v : Int} {rc j m : Nat} (hrc : rc = 25 ∨ rc = 29 ∨ rc = 30 ∨ rc = 31 ∨ rc = 32) (hm : h.1 6 5 = m) (h40 : m < 40) : tldC h (endT (setI h rc j v) m w j (h.1 rc j) v) w rc j v := by
  obtain ⟨e1, e2, e3, e4, e5, e6⟩ := @endT_at (setI h rc j v) m w j (h.1 rc j) v
  refine ⟨fun c a1 a2 a3 a4 a5 a6 => by rw [endT_ne ⟨a1, a2, a3, a4, a5⟩, setI_ne a6], rfl, fun i => ?_, m, 0, Or.inr ⟨by omega, hm, rfl⟩, e1, e2, fun c i hc hi => ?_, e3, e4, e5, e6⟩
  · rw [endT_ne (by omega), setI_at]
    by_cases q : i = j
    · rw [if_pos ⟨rfl, q⟩, if_pos q]
    · rw [if_neg (fun z => q z.2), if_neg q]
  · rw [endT_old hc hi, setI_ne (by omega), Nat.add_zero]
theorem tldC_B {h : zH} {w v : Int} {rc j : Nat} (hrc : rc = 25 ∨ rc = 29 ∨ rc = 30 ∨ rc = 31 ∨ rc = 32) (hm : h.1 6 5 = 40) : tldC h (endT (fgt (setI h rc j v)) 39 w j (h.1 rc j) v) w rc j v := by
  obtain ⟨e1, e2, e3, e4, e5, e6⟩ := @endT_at (fgt (setI h rc j v)) 39 w j (h.1 rc j) v
  refine ⟨fun c a1 a2 a3 a4 a5 a6 => by rw [endT_ne ⟨a1, a2, a3, a4, a5⟩, fgt_ne ⟨a1, a2, a3, a4, a5⟩, setI_ne a6], rfl, fun i => ?_, 39, 1, Or.inl ⟨hm, rfl, rfl⟩, e1, e2, fun c i hc hi => ?_, e3, e4, e5, e6⟩
  · rw [endT_ne (by omega), fgt_ne (by omega), setI_at]
    by_cases q : i = j
    · rw [if_pos ⟨rfl, q⟩, if_pos q]
    · rw [if_neg (fun z => q z.2), if_neg q]
  · rw [endT_old hc hi, fgt_at hc hi, setI_ne (by omega)]
set_option maxHeartbeats 1000000 in
theorem c_X1_tell {d : Nat} (hd : 4 ≤ d) (h : zH) (w v : Int) (rc o j : Nat) (hr : rowOK w rc o j) (hv : inR v) (hold : inR (h.1 rc j)) (hn : 0 ≤ h.1 6 5 ∧ h.1 6 5 ≤ 40) :
    zC d k_X1_tell [sR 6, sI w, sI j, sI v] h (fun x g => (h.1 rc j = v ∧ g = h ∧ x = some (sI v)) ∨ (¬ h.1 rc j = v ∧ tldC h g w rc j v ∧ x = some (sI (h.1 rc j)))) := by
  refine zC_of (by decide +kernel) (Nat.le_of_ble_eq_true rfl) (fun X C E => ?_)
  have rest : ∀ (H : zH) (m : Nat), H.1 6 5 = m → m < 40 → ¬ h.1 rc j = v → tldC h (endT H m w j (h.1 rc j) v) w rc j v → zJ X 43 [some (sR 6), some (sI w), some (sI j), some (sI v), none, some (sI (h.1 rc j))] [] H := by
    intro H m hm h40 hne ht
    have k1 : 0 ≤ H.1 6 5 := by omega
    have k2 : H.1 6 5 < 40 := by omega
    refine zrun_sound t_X1_tell C E [] 60 _ _ _ _ ?_
    refine And.intro k1 (And.intro k2 (And.intro k1 (And.intro k2 (And.intro k1 (And.intro k2 (And.intro k1 (And.intro k2 ?_)))))))
    refine Or.inr ⟨hne, ?_, rfl⟩
    have e : setI (setI (setI (setI (setI (setI H 40 (H.1 6 5).toNat w) 41 (H.1 6 5).toNat j) 42 (H.1 6 5).toNat (h.1 rc j)) 43 (H.1 6 5).toNat v) 6 5 (H.1 6 5 + 1)) 6 6 (H.1 6 5 + 1) = endT H m w j (h.1 rc j) v := by
      rw [hm]
      rfl
    rw [← e] at ht
    exact ht
  have ne6 : 6 ≠ rc := by
    unfold rowOK at hr
    omega
  have rA : h.1 6 5 < 40 → ¬ h.1 rc j = v → zJ X 43 [some (sR 6), some (sI w), some (sI j), some (sI v), none, some (sI (h.1 rc j))] [] (setI h rc j v) := fun c2 c => rest (setI h rc j v) (h.1 6 5).toNat (by rw [setI_ne ne6]; omega) (by omega) c (tldC_A (m := (h.1 6 5).toNat) (by unfold rowOK at hr; omega) (by omega) (by omega))
  have rB : ¬ h.1 6 5 < 40 → ¬ h.1 rc j = v → zJ X 43 [some (sR 6), some (sI w), some (sI j), some (sI v), none, some (sI (h.1 rc j))] [] (fgt (setI h rc j v)) := fun c2 c => rest (fgt (setI h rc j v)) 39 fgt_65 (by omega) c (tldC_B (by unfold rowOK at hr; omega) (by omega))
  have hd2 : d - 1 + 1 ≤ d := by omega
  have hd3 : 2 ≤ d - 1 := by omega
  have h65 : inR (h.1 6 5) := by omega
  have i40 : inR 40 := by decide
  clear rest
  refine zrun_sound t_X1_tell C E [43] 60 _ _ _ _ ?_
  refine zcall_i (d' := d - 1) hd2 (c_X2_rowOf h w rc o j hr) ?_
  rintro _ _ ⟨rfl, rfl⟩
  have j0 : (0 : Int) ≤ (j : Int) := by omega
  unfold rowOK at hr
  rcases hr with ⟨-, rfl, -, q⟩ | ⟨-, rfl, -, q⟩ | ⟨-, rfl, -, q⟩ | ⟨-, rfl, -, q⟩ | ⟨-, rfl, -, q⟩
  all_goals
    refine And.intro j0 (And.intro (by omega) (And.intro hold (And.intro hv (And.intro (fun c => ?_) (fun c => Or.inl ⟨c, rfl, congrArg (fun z => some (sI z)) c⟩)))))
    refine And.intro j0 (And.intro (by omega) (And.intro h65 (And.intro i40 (And.intro (fun c2 => ?_) (fun c2 => ?_)))))
    · exact zJ_le (rA c2 c) (And.intro rfl (And.intro rfl (And.intro rfl (And.intro rfl (And.intro rfl trivial))))) rfl rfl
    · refine zcall_i (d' := d - 1) hd2 (c_X1_forgetOldest hd3 _) ?_
      rintro _ _ ⟨rfl, rfl⟩
      exact zJ_le (rB c2 c) (And.intro rfl (And.intro rfl (And.intro rfl (And.intro rfl (And.intro rfl trivial))))) rfl rfl
