theorem c_X1_again {d : Nat} (hd : 3 ≤ d) (h : zH) (rc o j : Nat) (hn : 0 ≤ h.1 6 5 ∧ h.1 6 5 ≤ h.1 6 6 ∧ h.1 6 6 ≤ 40) (hr : ¬ h.1 6 5 = h.1 6 6 → rowOK (h.1 40 (h.1 6 5).toNat) rc o j ∧ h.1 41 (h.1 6 5).toNat = j) :
    zC d k_X1_again [sR 6] h (fun x g => (h.1 6 5 = h.1 6 6 ∧ g = h ∧ x = some (sI 0)) ∨ (¬ h.1 6 5 = h.1 6 6 ∧ g = setI (setI h rc j (h.1 43 (h.1 6 5).toNat)) 6 5 (h.1 6 5 + 1) ∧ x = some (sI 1))) := by
  refine zC_of (by decide +kernel) (Nat.le_of_ble_eq_true rfl) (fun X C E => zrun_sound t_X1_again C E [] 60 _ _ _ _ ?_)
  refine And.intro (by omega) (And.intro (by omega) (And.intro (fun c => ?_) (fun c => ?_)))
  · obtain ⟨hr1, hr2⟩ := hr c
    have k1 : 0 ≤ h.1 6 5 := by omega
    have k2 : h.1 6 5 < 40 := by omega
    have j1 : 0 ≤ h.1 41 (h.1 6 5).toNat := by omega
    have jn : (h.1 41 (h.1 6 5).toNat).toNat = j := by omega
    refine And.intro k1 (And.intro k2 ?_)
    refine zcall_i (d' := d - 1) (by omega) (c_X2_rowOf h _ rc o j hr1) ?_
    rintro _ _ ⟨rfl, rfl⟩
    have fin : setI (setI h rc (h.1 41 (h.1 6 5).toNat).toNat (h.1 43 (h.1 6 5).toNat)) 6 5 (h.1 6 5 + 1) = setI (setI h rc j (h.1 43 (h.1 6 5).toNat)) 6 5 (h.1 6 5 + 1) := by rw [jn]
    unfold rowOK at hr1
    rcases hr1 with ⟨-, rfl, -, q⟩ | ⟨-, rfl, -, q⟩ | ⟨-, rfl, -, q⟩ | ⟨-, rfl, -, q⟩ | ⟨-, rfl, -, q⟩
    · have j2 : h.1 41 (h.1 6 5).toNat < 24 := by omega
      exact And.intro k1 (And.intro k2 (And.intro k1 (And.intro k2 (And.intro j1 (And.intro j2 (And.intro (Or.inr rfl) (Or.inr ⟨c, fin, rfl⟩)))))))
    · have j2 : h.1 41 (h.1 6 5).toNat < 24 := by omega
      exact And.intro k1 (And.intro k2 (And.intro k1 (And.intro k2 (And.intro j1 (And.intro j2 (And.intro (Or.inr rfl) (Or.inr ⟨c, fin, rfl⟩)))))))
    · have j2 : h.1 41 (h.1 6 5).toNat < 24 := by omega
      exact And.intro k1 (And.intro k2 (And.intro k1 (And.intro k2 (And.intro j1 (And.intro j2 (And.intro (Or.inr rfl) (Or.inr ⟨c, fin, rfl⟩)))))))
    · have j2 : h.1 41 (h.1 6 5).toNat < 12 := by omega
      exact And.intro k1 (And.intro k2 (And.intro k1 (And.intro k2 (And.intro j1 (And.intro j2 (And.intro (Or.inr rfl) (Or.inr ⟨c, fin, rfl⟩)))))))
    · have j2 : h.1 41 (h.1 6 5).toNat < 4 := by omega
      exact And.intro k1 (And.intro k2 (And.intro k1 (And.intro k2 (And.intro j1 (And.intro j2 (And.intro (Or.inr rfl) (Or.inr ⟨c, fin, rfl⟩)))))))
  · exact And.intro (Or.inl rfl) (Or.inl ⟨by omega, rfl, rfl⟩)
theorem c_X8_redo {d : Nat} (hd : 4 ≤ d) (h : zH) (rc o j : Nat) (hn : 0 ≤ h.1 6 5 ∧ h.1 6 5 ≤ h.1 6 6 ∧ h.1 6 6 ≤ 40) (hr : ¬ h.1 6 5 = h.1 6 6 → rowOK (h.1 40 (h.1 6 5).toNat) rc o j ∧ h.1 41 (h.1 6 5).toNat = j) :
    zC d k_X8_redo [sR 0] h (fun x g => (h.1 6 5 = h.1 6 6 ∧ g = h ∧ x = some (sI (-5))) ∨ (¬ h.1 6 5 = h.1 6 6 ∧ g = setI (setI h rc j (h.1 43 (h.1 6 5).toNat)) 6 5 (h.1 6 5 + 1) ∧ x = some (sI (h.1 6 6 - (h.1 6 5 + 1))))) := by
  refine zC_of (by decide +kernel) (Nat.le_of_ble_eq_true rfl) (fun X C E => zrun_sound t_X8_redo C E [] 60 _ _ _ _ ?_)
  refine zcall_i (d' := d - 1) (by omega) (c_X1_again (by omega) h rc o j hn hr) ?_
  rintro x g (⟨c, rfl, rfl⟩ | ⟨c, rfl, rfl⟩)
  · refine And.intro (by decide) (And.intro (fun _ => ?_) (fun c3 => absurd rfl c3))
    exact Or.inl ⟨c, rfl, rfl⟩
  · refine And.intro (by decide) (And.intro (fun c3 => absurd c3 (by decide)) (fun _ => ?_))
    refine Or.inr ⟨c, rfl, ?_⟩
    have hne : 6 ≠ rc := by
      have := (hr c).1
      unfold rowOK at this
      omega
    show some (sI ((setI h rc j (h.1 43 (h.1 6 5).toNat)).1 6 6 - (h.1 6 5 + 1))) = _
    rw [setI_ne hne]
theorem c_X9_redo {d : Nat} (h : zH) (k : Nat) (hn : 0 ≤ h.1 52 5 ∧ h.1 52 5 ≤ h.1 52 4 ∧ h.1 52 4 ≤ 40) (hr : ¬ h.1 52 5 = h.1 52 4 → h.1 54 (h.1 52 5).toNat = k ∧ k < 88) :
    zC d k_X9_redo [sR 52] h (fun x g => (h.1 52 5 = h.1 52 4 ∧ g = h ∧ x = some (sI (-5))) ∨ (¬ h.1 52 5 = h.1 52 4 ∧ g = setI (setI h 53 k (h.1 56 (h.1 52 5).toNat)) 52 5 (h.1 52 5 + 1) ∧ x = some (sI (h.1 52 4 - (h.1 52 5 + 1))))) := by
  refine zC_of (by decide +kernel) (Nat.le_of_ble_eq_true rfl) (fun X C E => zrun_sound t_X9_redo C E [] 60 _ _ _ _ ?_)
  refine And.intro (by omega) (And.intro (by omega) (And.intro (fun c => ?_) (fun c => ?_)))
  · obtain ⟨hr1, hr2⟩ := hr c
    have k1 : 0 ≤ h.1 52 5 := by omega
    have k2 : h.1 52 5 < 40 := by omega
    have j1 : 0 ≤ h.1 54 (h.1 52 5).toNat := by omega
    have j2 : h.1 54 (h.1 52 5).toNat < 88 := by omega
    have fin : setI (setI h 53 (h.1 54 (h.1 52 5).toNat).toNat (h.1 56 (h.1 52 5).toNat)) 52 5 (h.1 52 5 + 1) = setI (setI h 53 k (h.1 56 (h.1 52 5).toNat)) 52 5 (h.1 52 5 + 1) := by rw [hr1]; rfl
    exact And.intro k1 (And.intro k2 (And.intro k1 (And.intro k2 (And.intro j1 (And.intro j2 (Or.inr ⟨c, fin, rfl⟩))))))
  · exact Or.inl ⟨by omega, rfl, rfl⟩
theorem pr_redo {d : Nat} (hd : 4 ≤ d) : Pair2 d k_X8_redo k_X9_redo [] := fun h hI => by
  have hI2 := hI
  obtain ⟨⟨i1, i2, i3, i4, i5, ⟨c1, c2, ⟨c3, c4, c5⟩, c6⟩, i7, i8, i9, i10⟩, i11⟩ := hI
  by_cases z : h.1 6 5 = h.1 6 6
  · refine zC_mono (c_X8_redo hd h 0 0 0 (by omega) (fun q => absurd z q)) ?_
    rintro x g (⟨q, rfl, rfl⟩ | ⟨q, -, -⟩)
    · refine ⟨_, rfl, zC_mono (c_X9_redo g 0 (by omega) (fun q2 => absurd (by omega) q2)) ?_⟩
      rintro x g' (⟨q2, rfl, rfl⟩ | ⟨q2, -, -⟩)
      · exact ⟨rfl, hI2⟩
      · exact absurd (by omega) q2
    · exact absurd z q
  · obtain ⟨k, hk⟩ : ∃ k : Nat, h.1 6 5 = k := ⟨(h.1 6 5).toNat, by omega⟩
    obtain ⟨d1, d2, d3, d4, d5, d6, d7⟩ := c6 k (by omega)
    obtain ⟨rc, o, hro, ho⟩ := rowOK_of d1 d2
    have hkt : (h.1 6 5).toNat = k := by omega
    obtain ⟨j, ej, ej2⟩ := nat_of d2.1
    rw [ej2] at hro
    have hro2 := hro
    unfold rowOK at hro2
    have hb := c_X8_redo hd h rc o j (by omega) (fun _ => by rw [hkt]; exact ⟨hro, ej⟩)
    rw [hkt] at hb
    refine zC_mono hb ?_
    rintro x g (⟨q, -, -⟩ | ⟨q, rfl, rfl⟩)
    · exact absurd q z
    · have rr : ∀ c, c = 52 ∨ c = 54 ∨ c = 56 → (setI (setI h rc j (h.1 43 k)) 6 5 (h.1 6 5 + 1)).1 c = h.1 c := fun c q2 => by
        rw [setI_ne (by omega), setI_ne (by omega)]
      have r52 := rr 52 (by omega)
      have r54 := rr 54 (by omega)
      have r56 := rr 56 (by omega)
      have hm := c_X9_redo (d := d) (setI (setI h rc j (h.1 43 k)) 6 5 (h.1 6 5 + 1)) (o + j) (by rw [r52]; omega) (fun _ => by rw [r52, c1, hkt, r54, d3, ho, ej]; omega)
      rw [r52, c1, c2, hkt, r56, d5] at hm
      refine ⟨_, rfl, zC_mono hm ?_⟩
      rintro x g' (⟨q2, -, -⟩ | ⟨q2, rfl, rfl⟩)
      · exact absurd q2 z
      · refine ⟨rfl, Inv_row (rc := rc) (o := o) (j := j) (v := h.1 43 k) hI2 hro d7 (fun c q3 => ?_) rfl (fun i q3 q4 => ?_) (fun c i q3 => ?_) (fun i => ?_) ?_⟩
        · simp [chgB] at q3
          rw [setI_ne (by omega), setI_ne (by omega), setI_ne (by omega), setI_ne (by omega)]
        · rw [setI_n2 (by omega), setI_ne (by omega), setI_ne (by omega), setI_ne (by omega)]
        · rw [setI_ne (by omega), setI_ne (by omega), setI_ne (by omega), setI_at]
        · rw [setI_ne (by omega), setI_at, setI_ne (by omega), setI_ne (by omega)]
          by_cases q3 : i = o + j
          · rw [if_pos ⟨rfl, q3⟩, if_pos q3]
          · rw [if_neg (fun q4 => q3 q4.2), if_neg q3]
        · have k40 : ∀ c, c = 40 ∨ c = 41 ∨ c = 42 ∨ c = 43 ∨ c = 54 ∨ c = 55 ∨ c = 56 → (setI (setI (setI (setI h rc j (h.1 43 k)) 6 5 (h.1 6 5 + 1)) 53 (o + j) (h.1 43 k)) 52 5 (h.1 6 5 + 1)).1 c = h.1 c := fun c q3 => by
            rw [setI_ne (by omega), setI_ne (by omega), setI_ne (by omega), setI_ne (by omega)]
          have k524 : (setI (setI (setI (setI h rc j (h.1 43 k)) 6 5 (h.1 6 5 + 1)) 53 (o + j) (h.1 43 k)) 52 5 (h.1 6 5 + 1)).1 52 4 = h.1 52 4 := by
            rw [setI_n2 (by omega), setI_ne (by omega), setI_ne (by omega), setI_ne (by omega)]
          have k525 : (setI (setI (setI (setI h rc j (h.1 43 k)) 6 5 (h.1 6 5 + 1)) 53 (o + j) (h.1 43 k)) 52 5 (h.1 6 5 + 1)).1 52 5 = h.1 6 5 + 1 := setI_eq
          have k65 : (setI (setI (setI (setI h rc j (h.1 43 k)) 6 5 (h.1 6 5 + 1)) 53 (o + j) (h.1 43 k)) 52 5 (h.1 6 5 + 1)).1 6 5 = h.1 6 5 + 1 := by
            rw [setI_ne (by omega), setI_ne (by omega), setI_eq]
          have k66 : (setI (setI (setI (setI h rc j (h.1 43 k)) 6 5 (h.1 6 5 + 1)) 53 (o + j) (h.1 43 k)) 52 5 (h.1 6 5 + 1)).1 6 6 = h.1 6 6 := by
            rw [setI_ne (by omega), setI_ne (by omega), setI_n2 (by omega), setI_ne (by omega)]
          unfold Ichg
          rw [k524, k525, k65, k66, k40 40 (by omega), k40 41 (by omega), k40 42 (by omega), k40 43 (by omega), k40 54 (by omega), k40 55 (by omega), k40 56 (by omega)]
          exact ⟨rfl, c2, ⟨by omega, by omega, c5⟩, c6⟩
