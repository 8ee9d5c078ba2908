/-! ===== dawn and dark; a place more ===== -/
theorem c_X8_light {d : Nat} (hd : 4 ≤ d) (h : zH) (a b : Int) (ha : inR a) (hb : inR b) (hV : VV h) : zC d k_X8_light [sR 0, sI a, sI b] h (fun o g => ((¬ (a = 0 ∧ 0 ≤ b ∧ b ≤ h.1 2 19) ∧ ¬ (a = 1 ∧ h.1 2 18 ≤ b ∧ b ≤ 1439)) ∧ g = h ∧ o = some (sI (-1))) ∨ ((a = 0 ∧ 0 ≤ b ∧ b ≤ h.1 2 19) ∧ g = setI h 2 18 b ∧ o = some (sI (h.1 2 18))) ∨ ((a = 1 ∧ h.1 2 18 ≤ b ∧ b ≤ 1439) ∧ g = setI h 2 19 b ∧ o = some (sI (h.1 2 19)))) := by
  obtain ⟨⟨hv1, hv2, hv3, hv4, hv5⟩, -⟩ := id hV
  refine zC_of (by decide +kernel) (Nat.le_of_ble_eq_true rfl) (fun X C E => ?_)
  have no : (¬ (a = 0 ∧ 0 ≤ b ∧ b ≤ h.1 2 19) ∧ ¬ (a = 1 ∧ h.1 2 18 ≤ b ∧ b ≤ 1439)) → zJ X 45 [some (sR 0), some (sI a), some (sI b)] [] h := by
    intro q
    exact zrun_sound t_X8_light C E [] 60 _ _ _ _ (Or.inl ⟨q, rfl, rfl⟩)
  have yes : (a = 0 ∧ 0 ≤ b ∧ b ≤ h.1 2 19) ∨ (a = 1 ∧ h.1 2 18 ≤ b ∧ b ≤ 1439) → zJ X 47 [some (sR 0), some (sI a), some (sI b)] [] h := by
    intro q
    refine zrun_sound t_X8_light C E [] 60 _ _ _ _ ?_
    refine And.intro ha (And.intro (fun c => ?_) (fun c => ?_))
    · exact Or.inr (Or.inr ⟨by omega, rfl, rfl⟩)
    · exact Or.inr (Or.inl ⟨by omega, rfl, rfl⟩)
  refine zrun_sound t_X8_light C E [45, 47] 60 _ _ _ _ ?_
  refine zcall_i (d' := d - 1) (by omega) (c_X8_within h a 0 1 ha (by omega) (by omega)) ?_
  rintro _ _ ⟨rfl, rfl⟩
  refine And.intro g_in (And.intro (fun c1 => no ⟨fun z => g_f c1 (by omega), fun z => g_f c1 (by omega)⟩) (fun c1 => ?_))
  refine zcall_i (d' := d - 1) (by omega) (c_X8_isMinute (by omega) h b hb) ?_
  rintro _ _ ⟨rfl, rfl⟩
  refine And.intro g_in (And.intro (fun c2 => no ⟨fun z => g_f c2 (by omega), fun z => g_f c2 (by omega)⟩) (fun c2 => ?_))
  have q1 := g_t c1
  have q2 := g_t c2
  refine And.intro ha (And.intro (fun c3 => ?_) (fun c3 => ?_))
  · refine And.intro hb (And.intro (by omega) (And.intro (fun c4 => ?_) (fun c4 => ?_)))
    · exact yes (Or.inr ⟨by omega, by omega, by omega⟩)
    · exact no ⟨fun z => by omega, fun z => by omega⟩
  · refine And.intro hb (And.intro (by omega) (And.intro (fun c4 => ?_) (fun c4 => ?_)))
    · exact yes (Or.inl ⟨by omega, by omega, by omega⟩)
    · exact no ⟨fun z => by omega, fun z => by omega⟩
theorem c_X9_light {d : Nat} (hd : 4 ≤ d) (h : zH) (a b : Int) (ha : inR a) (hb : inR b) (hv : 0 ≤ h.1 52 25 ∧ h.1 52 25 ≤ h.1 52 26 ∧ h.1 52 26 ≤ 1439) : zC d k_X9_light [sR 52, sI a, sI b] h (fun o g => ((¬ (a = 0 ∧ 0 ≤ b ∧ b ≤ h.1 52 26) ∧ ¬ (a = 1 ∧ h.1 52 25 ≤ b ∧ b ≤ 1439)) ∧ g = h ∧ o = some (sI (-1))) ∨ ((a = 0 ∧ 0 ≤ b ∧ b ≤ h.1 52 26) ∧ g = setI h 52 25 b ∧ o = some (sI (h.1 52 25))) ∨ ((a = 1 ∧ h.1 52 25 ≤ b ∧ b ≤ 1439) ∧ g = setI h 52 26 b ∧ o = some (sI (h.1 52 26)))) := by
  refine zC_of (by decide +kernel) (Nat.le_of_ble_eq_true rfl) (fun X C E => ?_)
  have two : ¬ (a = 0 ∧ 0 ≤ b ∧ b ≤ h.1 52 26) → zJ X 30 [some (sR 52), some (sI a), some (sI b)] [] h := by
    intro q
    refine zrun_sound t_X9_light C E [] 60 _ _ _ _ ?_
    refine And.intro ha (And.intro (by omega) (And.intro (fun c => ?_) (fun c => ?_)))
    · exact Or.inl ⟨⟨q, fun z => c z.1⟩, rfl, rfl⟩
    · refine zcall_i (d' := d - 1) (by omega) (c_X9_within h (i2l b) (i2l (h.1 52 25)) 1439 b (h.1 52 25) 1439 (i2l_toInt hb) (i2l_toInt (by omega)) (by decide)) ?_
      rintro _ _ ⟨rfl, rfl⟩
      refine And.intro g_in (And.intro (fun c2 => ?_) (fun c2 => ?_))
      · exact Or.inl ⟨⟨q, fun z => g_f c2 z.2⟩, rfl, rfl⟩
      · have q2 := g_t c2
        exact Or.inr (Or.inr ⟨⟨by omega, q2⟩, rfl, rfl⟩)
  refine zrun_sound t_X9_light C E [30] 60 _ _ _ _ ?_
  refine And.intro ha (And.intro (fun c1 => two (fun z => c1 z.1)) (fun c1 => ?_))
  refine zcall_i (d' := d - 1) (by omega) (c_X9_within h (i2l b) 0 (i2l (h.1 52 26)) b 0 (h.1 52 26) (i2l_toInt hb) (by decide) (i2l_toInt (by omega))) ?_
  rintro _ _ ⟨rfl, rfl⟩
  refine And.intro g_in (And.intro (fun c2 => two (fun z => g_f c2 z.2)) (fun c2 => ?_))
  have q2 := g_t c2
  exact Or.inr (Or.inl ⟨⟨by omega, q2⟩, rfl, rfl⟩)
theorem pr_light {d : Nat} (hd : 4 ≤ d) {a b : Int} (ha : inR a) (hb : inR b) : Pair2 d k_X8_light k_X9_light [sI a, sI b] := fun h hI => by
  have hI2 := hI
  obtain ⟨⟨⟨⟨hv1, hv2, hv3, hv4, hv5⟩, v2, v3, v4, v5, v6, v7⟩, ⟨⟨x1, x2, x3, x4, x5, x6⟩, e1, e2, e3, e4, e5, e6⟩, i3, i4, i5, i6, i7, i8, i9, i10⟩, i11⟩ := hI
  refine zC_mono (c_X8_light hd h a b ha hb hI2.1.1) ?_
  rintro o g (⟨q, rfl, rfl⟩ | ⟨q, rfl, rfl⟩ | ⟨q, rfl, rfl⟩)
  · refine ⟨_, rfl, zC_mono (c_X9_light hd g a b ha hb (by omega)) ?_⟩
    rw [x5, x6]
    rintro o g' (⟨z, rfl, rfl⟩ | ⟨z, rfl, rfl⟩ | ⟨z, rfl, rfl⟩)
    · exact ⟨rfl, hI2⟩
    · exact absurd z q.1
    · exact absurd z q.2
  · have f5 : (setI h 2 18 b).1 52 25 = h.1 2 18 := x5
    have f6 : (setI h 2 18 b).1 52 26 = h.1 2 19 := x6
    refine ⟨_, rfl, zC_mono (c_X9_light hd _ a b ha hb (by omega)) ?_⟩
    rw [f5, f6]
    rintro o g' (⟨z, rfl, rfl⟩ | ⟨z, rfl, rfl⟩ | ⟨z, rfl, rfl⟩)
    · exact absurd q z.1
    · refine ⟨rfl, ⟨⟨⟨hv1, hv2, hv3, hv4, ⟨q.2.1, q.2.2, hv5.2.2⟩⟩, v2, v3, v4, v5, v6, v7⟩, ⟨⟨x1, x2, x3, x4, rfl, x6⟩, e1, e2, e3, e4, e5, e6⟩, i3, i4, i5, i6, i7, i8, ?_, i10⟩, i11⟩
      exact Ishf_c i9 (fun k hk => ⟨by rw [setI_ne (by omega), setI_ne (by omega)], rfl⟩) rfl rfl rfl rfl
    · omega
  · have f5 : (setI h 2 19 b).1 52 25 = h.1 2 18 := x5
    have f6 : (setI h 2 19 b).1 52 26 = h.1 2 19 := x6
    refine ⟨_, rfl, zC_mono (c_X9_light hd _ a b ha hb (by omega)) ?_⟩
    rw [f5, f6]
    rintro o g' (⟨z, rfl, rfl⟩ | ⟨z, rfl, rfl⟩ | ⟨z, rfl, rfl⟩)
    · exact absurd q z.2
    · omega
    · refine ⟨rfl, ⟨⟨⟨hv1, hv2, hv3, hv4, ⟨hv5.1, q.2.1, q.2.2⟩⟩, v2, v3, v4, v5, v6, v7⟩, ⟨⟨x1, x2, x3, x4, x5, rfl⟩, e1, e2, e3, e4, e5, e6⟩, i3, i4, i5, i6, i7, i8, ?_, i10⟩, i11⟩
      exact Ishf_c i9 (fun k hk => ⟨by rw [setI_ne (by omega), setI_ne (by omega)], rfl⟩) rfl rfl rfl rfl
theorem c_X8_place {d : Nat} (hd : 4 ≤ d) (h : zH) (a : Int) (ha : inR a) (hn : 0 ≤ h.1 2 8 ∧ h.1 2 8 ≤ 12) : zC d k_X8_place [sR 0, sI a] h (fun o g => (¬ (0 ≤ a ∧ a ≤ 999) ∧ g = h ∧ o = some (sI (-1))) ∨ ((0 ≤ a ∧ a ≤ 999) ∧ h.1 2 8 = 12 ∧ g = h ∧ o = some (sI (-3))) ∨ ((0 ≤ a ∧ a ≤ 999) ∧ h.1 2 8 < 12 ∧ g = setI (setI h 25 (h.1 2 8).toNat a) 2 8 (h.1 2 8 + 1) ∧ o = some (sI (h.1 2 8 + 1 - 1)))) := by
  refine zC_of (by decide +kernel) (Nat.le_of_ble_eq_true rfl) (fun X C E => zrun_sound t_X8_place C E [] 60 _ _ _ _ ?_)
  refine zcall_i (d' := d - 1) (by omega) (c_X8_within h a 0 999 ha (by omega) (by omega)) ?_
  rintro _ _ ⟨rfl, rfl⟩
  refine And.intro g_in (And.intro (fun c1 => ?_) (fun c1 => Or.inl ⟨fun z => g_f c1 z, rfl, rfl⟩))
  have q1 := g_t c1
  refine And.intro (by omega) (And.intro (by omega) (And.intro (fun c => ?_) (fun c => ?_)))
  · refine And.intro (by omega) (And.intro (by omega) ?_)
    exact Or.inr (Or.inr ⟨q1, c, rfl, rfl⟩)
  · exact Or.inr (Or.inl ⟨q1, by omega, rfl, rfl⟩)
theorem c_X9_place {d : Nat} (hd : 4 ≤ d) (h : zH) (a : Int) (ha : inR a) (hn : 0 ≤ h.1 52 20 ∧ h.1 52 20 ≤ 12) : zC d k_X9_place [sR 52, sI a] h (fun o g => (¬ (0 ≤ a ∧ a ≤ 999) ∧ g = h ∧ o = some (sI (-1))) ∨ ((0 ≤ a ∧ a ≤ 999) ∧ h.1 52 20 = 12 ∧ g = h ∧ o = some (sI (-3))) ∨ ((0 ≤ a ∧ a ≤ 999) ∧ h.1 52 20 < 12 ∧ g = setI (setI h 53 (h.1 52 20).toNat a) 52 20 (h.1 52 20 + 1) ∧ o = some (sI (h.1 52 20 + 1 - 1)))) := by
  refine zC_of (by decide +kernel) (Nat.le_of_ble_eq_true rfl) (fun X C E => zrun_sound t_X9_place C E [] 60 _ _ _ _ ?_)
  refine zcall_i (d' := d - 1) (by omega) (c_X9_within h (i2l a) 0 999 a 0 999 (i2l_toInt ha) (by decide) (by decide)) ?_
  rintro _ _ ⟨rfl, rfl⟩
  refine And.intro g_in (And.intro (fun c1 => ?_) (fun c1 => Or.inl ⟨fun z => g_f c1 z, rfl, rfl⟩))
  have q1 := g_t c1
  refine And.intro (by omega) (And.intro (by omega) (And.intro (fun c => ?_) (fun c => ?_)))
  · refine And.intro (by omega) (And.intro (by omega) ?_)
    exact Or.inr (Or.inr ⟨q1, by omega, rfl, rfl⟩)
  · exact Or.inr (Or.inl ⟨q1, by omega, rfl, rfl⟩)
theorem pr_place {d : Nat} (hd : 4 ≤ d) {a : Int} (ha : inR a) : Pair2 d k_X8_place k_X9_place [sI a] := fun h hI => by
  have hI2 := hI
  obtain ⟨⟨⟨⟨hv1, hv2, hv3, hv4, hv5⟩, v2, v3, v4, v5, v6, v7⟩, ⟨⟨x1, x2, x3, x4, x5, x6⟩, e1, e2, e3, e4, e5, e6⟩, i3, i4, i5, i6, ⟨m1, m2, m3, m4⟩, i8, i9, i10⟩, i11⟩ := hI
  refine zC_mono (c_X8_place hd h a ha hv3) ?_
  rintro o g (⟨q, rfl, rfl⟩ | ⟨q, q2, rfl, rfl⟩ | ⟨q, q2, rfl, rfl⟩)
  · refine ⟨_, rfl, zC_mono (c_X9_place hd g a ha (by omega)) ?_⟩
    rintro o g' (⟨z, rfl, rfl⟩ | ⟨z, z2, rfl, rfl⟩ | ⟨z, z2, rfl, rfl⟩)
    · exact ⟨rfl, hI2⟩
    · exact absurd z q
    · exact absurd z q
  · refine ⟨_, rfl, zC_mono (c_X9_place hd g a ha (by omega)) ?_⟩
    rintro o g' (⟨z, rfl, rfl⟩ | ⟨z, z2, rfl, rfl⟩ | ⟨z, z2, rfl, rfl⟩)
    · exact absurd q z
    · exact ⟨rfl, hI2⟩
    · omega
  · obtain ⟨n, hn⟩ : ∃ n : Nat, h.1 2 8 = n := ⟨(h.1 2 8).toNat, by omega⟩
    rw [hn, show ((n : Int)).toNat = n from rfl]
    have f20 : (setI (setI h 25 n a) 2 8 ((n : Int) + 1)).1 52 20 = n := x3.trans hn
    refine ⟨_, rfl, zC_mono (c_X9_place hd _ a ha (by omega)) ?_⟩
    rw [f20, show ((n : Int)).toNat = n from rfl]
    rintro o g' (⟨z, rfl, rfl⟩ | ⟨z, z2, rfl, rfl⟩ | ⟨z, z2, rfl, rfl⟩)
    · exact absurd q z
    · omega
    · refine ⟨rfl, ⟨⟨⟨hv1, hv2, ⟨?_, ?_⟩, hv4, hv5⟩, v2, v3, fun p hp => ?_, fun w hw => ?_, v6, v7⟩, ⟨⟨x1, x2, rfl, x4, x5, x6⟩, e1, e2, e3, fun i hi => ?_, fun i hi => ?_, fun i hi => ?_⟩, i3, i4, i5, i6, ⟨m1, m2, fun i hi => ⟨(m3 i hi).1, (m3 i hi).2.1, ?_, (m3 i hi).2.2.2⟩, m4⟩, i8, ?_, i10⟩, i11⟩
      · show 0 ≤ (n : Int) + 1
        omega
      · show (n : Int) + 1 ≤ 12
        omega
      · show 0 ≤ (setI h 25 n a).1 25 p ∧ (setI h 25 n a).1 25 p ≤ 999
        by_cases e : p = n
        · subst e
          rw [setI_eq]
          exact q
        · rw [setI_n2 e]
          exact v4 p hp
      · obtain ⟨y1, y2, y3⟩ := v5 w hw
        exact ⟨⟨y1.1, by show h.1 26 w < (n : Int) + 1; omega⟩, ⟨y2.1, by show h.1 27 w < (n : Int) + 1; omega⟩, y3⟩
      · show (setI (setI (setI h 25 n a) 2 8 ((n : Int) + 1)) 53 n a).1 53 i = (setI h 25 n a).1 25 i
        by_cases e : i = n
        · subst e
          rw [setI_eq, setI_eq]
        · rw [setI_n2 e, setI_n2 e]
          exact e4 i hi
      · obtain ⟨y1, y2, y3, y4, y5, y6⟩ := e5 i hi
        refine ⟨y1, y2, y3, ?_, ?_, ?_⟩
        · show (setI (setI (setI h 25 n a) 2 8 ((n : Int) + 1)) 53 n a).1 53 (12 + i) = h.1 29 i
          rw [setI_n2 (by omega)]
          exact y4
        · show (setI (setI (setI h 25 n a) 2 8 ((n : Int) + 1)) 53 n a).1 53 (36 + i) = h.1 30 i
          rw [setI_n2 (by omega)]
          exact y5
        · show (setI (setI (setI h 25 n a) 2 8 ((n : Int) + 1)) 53 n a).1 53 (60 + i) = h.1 31 i
          rw [setI_n2 (by omega)]
          exact y6
      · show (setI (setI (setI h 25 n a) 2 8 ((n : Int) + 1)) 53 n a).1 53 (84 + i) = h.1 32 i
        rw [setI_n2 (by omega)]
        exact e6 i hi
      · have := (m3 i hi).2.2.1
        show h.1 15 i / 10000 < (n : Int) + 1
        omega
      · exact Ishf_c i9 (fun k hk => ⟨by rw [setI_ne (by omega), setI_ne (by omega), setI_ne (by omega), setI_ne (by omega)], rfl⟩) rfl rfl rfl rfl
