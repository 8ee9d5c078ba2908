/-! ===== a wind more; a way more ===== -/
def wiC (h : zH) (n : Nat) (a b c : Int) : zH := setI (setI (setI (setI h 22 n a) 23 n b) 24 n c) 2 4 ((n : Int) + 1)
def wiM (h : zH) (n : Nat) (a b c : Int) : zH := setI (setI (setI (setI h 63 n a) 64 n b) 65 n c) 52 16 ((n : Int) + 1)
def okI (a b c : Int) : Prop := (-99 ≤ a ∧ a ≤ 99) ∧ (-60 ≤ b ∧ b ≤ 60) ∧ 1 ≤ c ∧ c ≤ 99
theorem c_X2_addWind {d : Nat} (h : zH) (n : Nat) (a b c : Int) (hn : h.1 2 4 = n) (h5 : n < 5) : zC d k_X2_addWind [sR 2, sI a, sI b, sI c] h (fun o g => g = wiC h n a b c ∧ o = some (sI n)) := by
  have k1 : 0 ≤ h.1 2 4 := by omega
  have k2 : h.1 2 4 < 5 := by omega
  refine zC_of (by decide +kernel) (Nat.le_of_ble_eq_true rfl) (fun X C E => zrun_sound t_X2_addWind C E [] 60 _ _ _ _ ?_)
  refine And.intro k1 (And.intro k2 (And.intro k1 (And.intro k2 (And.intro k1 (And.intro k2 ?_)))))
  refine And.intro ?_ ?_
  · show setI (setI (setI (setI h 22 (h.1 2 4).toNat a) 23 (h.1 2 4).toNat b) 24 (h.1 2 4).toNat c) 2 4 (h.1 2 4 + 1) = _
    rw [hn]
    rfl
  · show some (sI (h.1 2 4 + 1 - 1)) = _
    rw [hn, Int.add_sub_cancel]
theorem c_X8_wind {d : Nat} (hd : 4 ≤ d) (h : zH) (n : Nat) (a b c : Int) (ha : inR a) (hb : inR b) (hc : inR c) (hn : h.1 2 4 = n) (h5 : n ≤ 5) : zC d k_X8_wind [sR 0, sI a, sI b, sI c] h (fun o g => (¬ okI a b c ∧ g = h ∧ o = some (sI (-1))) ∨ (okI a b c ∧ n = 5 ∧ g = h ∧ o = some (sI (-3))) ∨ (okI a b c ∧ n < 5 ∧ g = wiC h n a b c ∧ o = some (sI n))) := by
  refine zC_of (by decide +kernel) (Nat.le_of_ble_eq_true rfl) (fun X C E => zrun_sound t_X8_wind C E [] 60 _ _ _ _ ?_)
  refine zcall_i (d' := d - 1) (by omega) (c_X8_within h a (-99) 99 ha (by omega) (by omega)) ?_
  rintro _ _ ⟨rfl, rfl⟩
  refine And.intro g_in (And.intro (fun c1 => Or.inl ⟨fun z => g_f c1 z.1, rfl, rfl⟩) (fun c1 => ?_))
  refine zcall_i (d' := d - 1) (by omega) (c_X8_within h b (-60) 60 hb (by omega) (by omega)) ?_
  rintro _ _ ⟨rfl, rfl⟩
  refine And.intro g_in (And.intro (fun c2 => Or.inl ⟨fun z => g_f c2 z.2.1, rfl, rfl⟩) (fun c2 => ?_))
  refine zcall_i (d' := d - 1) (by omega) (c_X8_within h c 1 99 hc (by omega) (by omega)) ?_
  rintro _ _ ⟨rfl, rfl⟩
  refine And.intro g_in (And.intro (fun c3 => ?_) (fun c3 => Or.inl ⟨fun z => g_f c3 z.2.2, rfl, rfl⟩))
  have q : okI a b c := ⟨g_t c1, g_t c2, g_t c3⟩
  refine And.intro (by omega) (And.intro (by omega) (And.intro (fun c4 => ?_) (fun c4 => ?_)))
  · refine zcall_i (d' := d - 1) (by omega) (c_X2_addWind h n a b c hn (by omega)) ?_
    rintro o g ⟨rfl, rfl⟩
    exact Or.inr (Or.inr ⟨q, by omega, rfl, rfl⟩)
  · exact Or.inr (Or.inl ⟨q, by omega, rfl, rfl⟩)
theorem c_X9_wind {d : Nat} (hd : 4 ≤ d) (h : zH) (n : Nat) (a b c : Int) (ha : inR a) (hb : inR b) (hc : inR c) (hn : h.1 52 16 = n) (h5 : n ≤ 5) : zC d k_X9_wind [sR 52, sI a, sI b, sI c] h (fun o g => (¬ okI a b c ∧ g = h ∧ o = some (sI (-1))) ∨ (okI a b c ∧ n = 5 ∧ g = h ∧ o = some (sI (-3))) ∨ (okI a b c ∧ n < 5 ∧ g = wiM h n a b c ∧ o = some (sI n))) := by
  refine zC_of (by decide +kernel) (Nat.le_of_ble_eq_true rfl) (fun X C E => zrun_sound t_X9_wind C E [] 60 _ _ _ _ ?_)
  refine zcall_i (d' := d - 1) (by omega) (c_X9_within h (i2l a) (-99) 99 a (-99) 99 (i2l_toInt ha) (by decide) (by decide)) ?_
  rintro _ _ ⟨rfl, rfl⟩
  refine And.intro g_in (And.intro (fun c1 => Or.inl ⟨fun z => g_f c1 z.1, rfl, rfl⟩) (fun c1 => ?_))
  refine zcall_i (d' := d - 1) (by omega) (c_X9_within h (i2l b) (-60) 60 b (-60) 60 (i2l_toInt hb) (by decide) (by decide)) ?_
  rintro _ _ ⟨rfl, rfl⟩
  refine And.intro g_in (And.intro (fun c2 => Or.inl ⟨fun z => g_f c2 z.2.1, rfl, rfl⟩) (fun c2 => ?_))
  refine zcall_i (d' := d - 1) (by omega) (c_X9_within h (i2l c) 1 99 c 1 99 (i2l_toInt hc) (by decide) (by decide)) ?_
  rintro _ _ ⟨rfl, rfl⟩
  refine And.intro g_in (And.intro (fun c3 => ?_) (fun c3 => Or.inl ⟨fun z => g_f c3 z.2.2, rfl, rfl⟩))
  have q : okI a b c := ⟨g_t c1, g_t c2, g_t c3⟩
  refine And.intro (by omega) (And.intro (by omega) (And.intro (fun c4 => ?_) (fun c4 => ?_)))
  · have k1 : 0 ≤ h.1 52 16 := by omega
    have k2 : h.1 52 16 < 5 := by omega
    refine And.intro k1 (And.intro k2 (And.intro k1 (And.intro k2 (And.intro k1 (And.intro k2 ?_)))))
    refine Or.inr (Or.inr ⟨q, by omega, ?_, ?_⟩)
    · show setI (setI (setI (setI h 63 (h.1 52 16).toNat a) 64 (h.1 52 16).toNat b) 65 (h.1 52 16).toNat c) 52 16 (h.1 52 16 + 1) = _
      rw [hn]
      rfl
    · show some (sI (h.1 52 16 + 1 - 1)) = _
      rw [hn, Int.add_sub_cancel]
  · exact Or.inr (Or.inl ⟨q, by omega, rfl, rfl⟩)
theorem pr_wind {d : Nat} (hd : 4 ≤ d) {a b c : Int} (ha : inR a) (hb : inR b) (hc : inR c) : Pair2 d k_X8_wind k_X9_wind [sI a, sI b, sI c] := fun h hI => by
  have hI2 := hI
  obtain ⟨⟨⟨⟨hv1, hv2, hv3, hv4, hv5⟩, v2, v3, v4, v5, v6, v7⟩, ⟨⟨x1, x2, x3, x4, x5, x6⟩, e1, e2, e3, e4, e5, e6⟩, i3, i4, i5, i6, i7, i8, i9, i10⟩, i11⟩ := hI
  obtain ⟨n, hn⟩ : ∃ n : Nat, h.1 2 4 = n := ⟨(h.1 2 4).toNat, by omega⟩
  refine zC_mono (c_X8_wind hd h n a b c ha hb hc hn (by omega)) ?_
  rintro o g (⟨q, rfl, rfl⟩ | ⟨q, q2, rfl, rfl⟩ | ⟨q, q2, rfl, rfl⟩)
  · refine ⟨_, rfl, zC_mono (c_X9_wind hd g n a b c ha hb hc (by omega) (by omega)) ?_⟩
    rintro o g' (⟨z, rfl, rfl⟩ | ⟨z, z2, rfl, rfl⟩ | ⟨z, z2, rfl, rfl⟩)
    · exact ⟨rfl, hI2⟩
    · exact absurd z q
    · exact absurd z q
  · refine ⟨_, rfl, zC_mono (c_X9_wind hd g n a b c ha hb hc (by omega) (by omega)) ?_⟩
    rintro o g' (⟨z, rfl, rfl⟩ | ⟨z, z2, rfl, rfl⟩ | ⟨z, z2, rfl, rfl⟩)
    · exact absurd q z
    · exact ⟨rfl, hI2⟩
    · omega
  · refine ⟨_, rfl, zC_mono (c_X9_wind hd _ n a b c ha hb hc (x2.trans hn) (by omega)) ?_⟩
    rintro o g' (⟨z, rfl, rfl⟩ | ⟨z, z2, rfl, rfl⟩ | ⟨z, z2, rfl, rfl⟩)
    · exact absurd q z
    · omega
    · have r22 : ∀ w, w ≠ n → (setI h 22 n a).1 22 w = h.1 22 w := fun w e => setI_n2 e
      have r23 : ∀ w, w ≠ n → (setI h 23 n b).1 23 w = h.1 23 w := fun w e => setI_n2 e
      have r24 : ∀ w, w ≠ n → (setI h 24 n c).1 24 w = h.1 24 w := fun w e => setI_n2 e
      refine ⟨rfl, ⟨⟨⟨hv1, ⟨?_, ?_⟩, hv3, hv4, hv5⟩, v2, fun w hw => ?_, v4, v5, v6, v7⟩, ⟨⟨x1, rfl, x3, x4, x5, x6⟩, e1, e2, fun i hi => ?_, e4, e5, e6⟩, ?_, i4, i5, i6, i7, i8, ?_, i10⟩, i11⟩
      · show 1 ≤ (n : Int) + 1
        omega
      · show (n : Int) + 1 ≤ 5
        omega
      · replace hw : (w : Int) < (n : Int) + 1 := hw
        show (-99 ≤ (setI h 22 n a).1 22 w ∧ (setI h 22 n a).1 22 w ≤ 99) ∧ (-60 ≤ (setI h 23 n b).1 23 w ∧ (setI h 23 n b).1 23 w ≤ 60) ∧ (1 ≤ (setI h 24 n c).1 24 w ∧ (setI h 24 n c).1 24 w ≤ 99)
        by_cases e : w = n
        · subst e
          rw [setI_eq, setI_eq, setI_eq]
          exact q
        · rw [r22 w e, r23 w e, r24 w e]
          exact v3 w (by omega)
      · show (setI h 63 n a).1 63 i = (setI h 22 n a).1 22 i ∧ (setI h 64 n b).1 64 i = (setI h 23 n b).1 23 i ∧ (setI h 65 n c).1 65 i = (setI h 24 n c).1 24 i
        by_cases e : i = n
        · subst e
          rw [setI_eq, setI_eq, setI_eq, setI_eq, setI_eq, setI_eq]
          exact ⟨rfl, rfl, rfl⟩
        · rw [setI_n2 e, setI_n2 e, setI_n2 e, setI_n2 e, setI_n2 e, setI_n2 e]
          exact e3 i hi
      · rcases i3 with y | ⟨t, s, n', y1, y2, y3, y4, y5, y6, y7, y8⟩
        · exact Or.inl y
        · have : n' = n := by omega
          subst this
          refine Or.inr ⟨t, s, n' + 1, y1, y2, by show (n' : Int) + 1 = ((n' + 1 : Nat) : Int); omega, y4, y5, by rw [Nat.pow_succ]; omega, y7, fun m hm => ?_⟩
          refine (y8 m hm).trans ?_
          rw [hiF_more y6 1]
          refine hiF_ext n' (fun w hw _ => ?_)
          show tideF (h.1 19) (h.1 20) (h.1 21) t (max 0 (min 1439 ((m : Int) + h.1 23 w))) + h.1 22 w = tideF (h.1 19) (h.1 20) (h.1 21) t (max 0 (min 1439 ((m : Int) + (setI h 23 n' b).1 23 w))) + (setI h 22 n' a).1 22 w
          rw [r22 w (by omega), r23 w (by omega)]
      · exact Ishf_c i9 (fun k hk => ⟨by unfold wiM wiC; rw [setI_ne (by omega), setI_ne (by omega), setI_ne (by omega), setI_ne (by omega), setI_ne (by omega), setI_ne (by omega), setI_ne (by omega), setI_ne (by omega)], rfl⟩) rfl rfl rfl rfl
