theorem c_X1_back {d : Nat} (hd : 3 ≤ d) (h : zH) (rc o j : Nat) (hn : 0 ≤ h.1 6 5 ∧ h.1 6 5 ≤ 40) (hr : ¬ h.1 6 5 = 0 → rowOK (h.1 40 (h.1 6 5 - 1).toNat) rc o j ∧ h.1 41 (h.1 6 5 - 1).toNat = j) :
    zC d k_X1_back [sR 6] h (fun x g => (h.1 6 5 = 0 ∧ g = h ∧ x = some (sI 0)) ∨ (¬ h.1 6 5 = 0 ∧ g = setI (setI h 6 5 (h.1 6 5 - 1)) rc j (h.1 42 (h.1 6 5 - 1).toNat) ∧ x = some (sI 1))) := by
  refine zC_of (by decide +kernel) (Nat.le_of_ble_eq_true rfl) (fun X C E => zrun_sound t_X1_back C E [] 60 _ _ _ _ ?_)
  refine And.intro (by omega) (And.intro (fun c => ?_) (fun c => ?_))
  · obtain ⟨hr1, hr2⟩ := hr c
    have k1 : 0 ≤ h.1 6 5 - 1 := by omega
    have k2 : h.1 6 5 - 1 < 40 := by omega
    have j1 : 0 ≤ h.1 41 (h.1 6 5 - 1).toNat := by omega
    have jn : (h.1 41 (h.1 6 5 - 1).toNat).toNat = j := by omega
    refine And.intro k1 (And.intro k2 ?_)
    refine zcall_i (d' := d - 1) (by omega) (c_X2_rowOf (setI h 6 5 (h.1 6 5 - 1)) _ rc o j hr1) ?_
    rintro _ _ ⟨rfl, rfl⟩
    have fin : (setI (setI h 6 5 (h.1 6 5 - 1)) rc (h.1 41 (h.1 6 5 - 1).toNat).toNat (h.1 42 (h.1 6 5 - 1).toNat)) = (setI (setI h 6 5 (h.1 6 5 - 1)) rc j (h.1 42 (h.1 6 5 - 1).toNat)) := by rw [jn]
    unfold rowOK at hr1
    rcases hr1 with ⟨-, rfl, -, q⟩ | ⟨-, rfl, -, q⟩ | ⟨-, rfl, -, q⟩ | ⟨-, rfl, -, q⟩ | ⟨-, rfl, -, q⟩
    · have j2 : h.1 41 (h.1 6 5 - 1).toNat < 24 := by omega
      exact And.intro k1 (And.intro k2 (And.intro k1 (And.intro k2 (And.intro j1 (And.intro j2 (And.intro (Or.inr rfl) (Or.inr ⟨c, fin, rfl⟩)))))))
    · have j2 : h.1 41 (h.1 6 5 - 1).toNat < 24 := by omega
      exact And.intro k1 (And.intro k2 (And.intro k1 (And.intro k2 (And.intro j1 (And.intro j2 (And.intro (Or.inr rfl) (Or.inr ⟨c, fin, rfl⟩)))))))
    · have j2 : h.1 41 (h.1 6 5 - 1).toNat < 24 := by omega
      exact And.intro k1 (And.intro k2 (And.intro k1 (And.intro k2 (And.intro j1 (And.intro j2 (And.intro (Or.inr rfl) (Or.inr ⟨c, fin, rfl⟩)))))))
    · have j2 : h.1 41 (h.1 6 5 - 1).toNat < 12 := by omega
      exact And.intro k1 (And.intro k2 (And.intro k1 (And.intro k2 (And.intro j1 (And.intro j2 (And.intro (Or.inr rfl) (Or.inr ⟨c, fin, rfl⟩)))))))
    · have j2 : h.1 41 (h.1 6 5 - 1).toNat < 4 := by omega
      exact And.intro k1 (And.intro k2 (And.intro k1 (And.intro k2 (And.intro j1 (And.intro j2 (And.intro (Or.inr rfl) (Or.inr ⟨c, fin, rfl⟩)))))))
  · exact And.intro (Or.inl rfl) (Or.inl ⟨by omega, rfl, rfl⟩)
theorem c_X8_undo {d : Nat} (hd : 4 ≤ d) (h : zH) (rc o j : Nat) (hn : 0 ≤ h.1 6 5 ∧ h.1 6 5 ≤ 40) (hr : ¬ h.1 6 5 = 0 → rowOK (h.1 40 (h.1 6 5 - 1).toNat) rc o j ∧ h.1 41 (h.1 6 5 - 1).toNat = j) :
    zC d k_X8_undo [sR 0] h (fun x g => (h.1 6 5 = 0 ∧ g = h ∧ x = some (sI (-5))) ∨ (¬ h.1 6 5 = 0 ∧ g = setI (setI h 6 5 (h.1 6 5 - 1)) rc j (h.1 42 (h.1 6 5 - 1).toNat) ∧ x = some (sI (h.1 6 5 - 1)))) := by
  refine zC_of (by decide +kernel) (Nat.le_of_ble_eq_true rfl) (fun X C E => zrun_sound t_X8_undo C E [] 60 _ _ _ _ ?_)
  refine zcall_i (d' := d - 1) (by omega) (c_X1_back (by omega) h rc o j hn hr) ?_
  rintro x g (⟨c, rfl, rfl⟩ | ⟨c, rfl, rfl⟩)
  · refine And.intro (by decide) (And.intro (fun _ => ?_) (fun c3 => absurd rfl c3))
    exact Or.inl ⟨c, rfl, rfl⟩
  · refine And.intro (by decide) (And.intro (fun c3 => absurd c3 (by decide)) (fun _ => ?_))
    refine Or.inr ⟨c, rfl, ?_⟩
    have hne : 6 ≠ rc := by
      have := (hr c).1
      unfold rowOK at this
      omega
    show some (sI ((setI (setI h 6 5 (h.1 6 5 - 1)) rc j (h.1 42 (h.1 6 5 - 1).toNat)).1 6 5)) = _
    rw [setI_ne hne]
    rfl
theorem c_X9_undo {d : Nat} (h : zH) (k : Nat) (hn : 0 ≤ h.1 52 5 ∧ h.1 52 5 ≤ 40) (hr : ¬ h.1 52 5 = 0 → h.1 54 (h.1 52 5 - 1).toNat = k ∧ k < 88) :
    zC d k_X9_undo [sR 52] h (fun x g => (h.1 52 5 = 0 ∧ g = h ∧ x = some (sI (-5))) ∨ (¬ h.1 52 5 = 0 ∧ g = setI (setI h 52 5 (h.1 52 5 - 1)) 53 k (h.1 55 (h.1 52 5 - 1).toNat) ∧ x = some (sI (h.1 52 5 - 1)))) := by
  refine zC_of (by decide +kernel) (Nat.le_of_ble_eq_true rfl) (fun X C E => zrun_sound t_X9_undo C E [] 60 _ _ _ _ ?_)
  refine And.intro (by omega) (And.intro (fun c => ?_) (fun c => ?_))
  · obtain ⟨hr1, hr2⟩ := hr c
    have k1 : 0 ≤ h.1 52 5 - 1 := by omega
    have k2 : h.1 52 5 - 1 < 40 := by omega
    have j1 : 0 ≤ h.1 54 (h.1 52 5 - 1).toNat := by omega
    have j2 : h.1 54 (h.1 52 5 - 1).toNat < 88 := by omega
    have fin : (setI (setI h 52 5 (h.1 52 5 - 1)) 53 (h.1 54 (h.1 52 5 - 1).toNat).toNat (h.1 55 (h.1 52 5 - 1).toNat)) = (setI (setI h 52 5 (h.1 52 5 - 1)) 53 k (h.1 55 (h.1 52 5 - 1).toNat)) := by rw [hr1]; rfl
    exact And.intro k1 (And.intro k2 (And.intro k1 (And.intro k2 (And.intro j1 (And.intro j2 (Or.inr ⟨c, fin, rfl⟩))))))
  · exact Or.inl ⟨by omega, rfl, rfl⟩
theorem pr_undo {d : Nat} (hd : 4 ≤ d) : Pair2 d k_X8_undo k_X9_undo [] := fun h hI => by
  have hI2 := hI
  obtain ⟨⟨i1, i2, i3, i4, i5, ⟨c1, c2, ⟨c3, c4, c5⟩, c6⟩, i7, i8, i9, i10⟩, i11⟩ := hI
  by_cases z : h.1 6 5 = 0
  · refine zC_mono (c_X8_undo hd h 0 0 0 (by omega) (fun q => absurd z q)) ?_
    rintro x g (⟨q, rfl, rfl⟩ | ⟨q, -, -⟩)
    · refine ⟨_, rfl, zC_mono (c_X9_undo g 0 (by omega) (fun q2 => absurd (c1.trans q) q2)) ?_⟩
      rintro x g' (⟨q2, rfl, rfl⟩ | ⟨q2, -, -⟩)
      · exact ⟨rfl, hI2⟩
      · exact absurd (c1.trans q) q2
    · exact absurd z q
  · obtain ⟨k, hk⟩ : ∃ k : Nat, h.1 6 5 - 1 = k := ⟨(h.1 6 5 - 1).toNat, by omega⟩
    obtain ⟨d1, d2, d3, d4, d5, d6, d7⟩ := c6 k (by omega)
    obtain ⟨rc, o, hro, ho⟩ := rowOK_of d1 d2
    have hkt : (h.1 6 5 - 1).toNat = k := by omega
    obtain ⟨j, ej, ej2⟩ := nat_of d2.1
    rw [ej2] at hro
    have hro2 := hro
    unfold rowOK at hro2
    have hb := c_X8_undo hd h rc o j (by omega) (fun _ => by rw [hkt]; exact ⟨hro, ej⟩)
    rw [hkt, hk] at hb
    refine zC_mono hb ?_
    rintro x g (⟨q, -, -⟩ | ⟨q, rfl, rfl⟩)
    · exact absurd q z
    · have r5 : (setI (setI h 6 5 (k : Int)) rc j (h.1 42 k)).1 52 5 = h.1 6 5 := by
        rw [setI_ne (by omega)]
        exact c1
      have r54 : (setI (setI h 6 5 (k : Int)) rc j (h.1 42 k)).1 54 k = h.1 54 k := by
        rw [setI_ne (by omega)]
        rfl
      have r55 : (setI (setI h 6 5 (k : Int)) rc j (h.1 42 k)).1 55 k = h.1 42 k := by
        rw [setI_ne (by omega)]
        exact d4
      have hm := c_X9_undo (d := d) (setI (setI h 6 5 (k : Int)) rc j (h.1 42 k)) (o + j) (by omega) (fun _ => by rw [r5, hkt, r54, d3, ho, ej]; omega)
      rw [r5, hkt, hk, r55] at hm
      refine ⟨_, rfl, zC_mono hm ?_⟩
      rintro x g' (⟨q2, -, -⟩ | ⟨q2, rfl, rfl⟩)
      · exact absurd q2 z
      · refine ⟨rfl, Inv_row (rc := rc) (o := o) (j := j) (v := h.1 42 k) hI2 hro d6 (fun c q3 => ?_) rfl (fun i q3 q4 => ?_) (fun c i q3 => ?_) (fun i => ?_) ?_⟩
        · simp [chgB] at q3
          rw [setI_ne (by omega), setI_ne (by omega), setI_ne (by omega), setI_ne (by omega)]
        · rw [setI_ne (by omega), setI_n2 (by omega), setI_ne (by omega), setI_ne (by omega)]
        · rw [setI_ne (by omega), setI_ne (by omega), setI_at, setI_ne (by omega)]
        · rw [setI_at, setI_ne (by omega), setI_ne (by omega), setI_ne (by omega)]
          by_cases q3 : i = o + j
          · rw [if_pos ⟨rfl, q3⟩, if_pos q3]
          · rw [if_neg (fun q4 => q3 q4.2), if_neg q3]
        · have k40 : ∀ c, c = 40 ∨ c = 41 ∨ c = 42 ∨ c = 43 ∨ c = 54 ∨ c = 55 ∨ c = 56 → (setI (setI (setI (setI h 6 5 (k : Int)) rc j (h.1 42 k)) 52 5 (k : Int)) 53 (o + j) (h.1 42 k)).1 c = h.1 c := fun c q3 => by
            rw [setI_ne (by omega), setI_ne (by omega), setI_ne (by omega), setI_ne (by omega)]
          have k6 : (setI (setI (setI (setI h 6 5 (k : Int)) rc j (h.1 42 k)) 52 5 (k : Int)) 53 (o + j) (h.1 42 k)).1 6 = (setI h 6 5 (k : Int)).1 6 := by
            rw [setI_ne (by omega), setI_ne (by omega), setI_ne (by omega)]
          have k524 : (setI (setI (setI (setI h 6 5 (k : Int)) rc j (h.1 42 k)) 52 5 (k : Int)) 53 (o + j) (h.1 42 k)).1 52 4 = h.1 52 4 := by
            rw [setI_ne (by omega), setI_n2 (by omega), setI_ne (by omega), setI_ne (by omega)]
          have k525 : (setI (setI (setI (setI h 6 5 (k : Int)) rc j (h.1 42 k)) 52 5 (k : Int)) 53 (o + j) (h.1 42 k)).1 52 5 = k := by
            rw [setI_ne (by omega), setI_eq]
          have k65 : (setI h 6 5 (k : Int)).1 6 5 = k := setI_eq
          have k66 : (setI h 6 5 (k : Int)).1 6 6 = h.1 6 6 := setI_n2 (by omega)
          unfold Ichg
          rw [k524, k525, k6, k65, k66, k40 40 (by omega), k40 41 (by omega), k40 42 (by omega), k40 43 (by omega), k40 54 (by omega), k40 55 (by omega), k40 56 (by omega)]
          exact ⟨rfl, c2, ⟨by omega, by omega, c5⟩, c6⟩
