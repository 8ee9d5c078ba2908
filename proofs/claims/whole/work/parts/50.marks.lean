/-! ===== marks; bodies are kept; the trace ===== -/
def okK (P n l a : Int) : Prop := (0 ≤ a ∧ a / 10000 < P ∧ a % 10000 ≤ 1439) ∧ ¬ (0 < n ∧ a % 10000 ≤ l % 10000)
set_option maxHeartbeats 1000000 in
theorem c_X8_mark {d : Nat} (hd : 4 ≤ d) (h : zH) (a P l : Int) (n : Nat) (ha : inR a) (eP : h.1 2 8 = P) (hP : 0 ≤ P ∧ P ≤ 12) (hn : h.1 0 9 = n) (h6 : n ≤ 6) (hl : ∀ k : Nat, n = k + 1 → h.1 15 k = l ∧ 0 ≤ l ∧ l ≤ 2147483647) :
    zC d k_X8_mark [sR 0, sI a] h (fun o g => (¬ okK P n l a ∧ g = h ∧ o = some (sI (-1))) ∨ (okK P n l a ∧ n = 6 ∧ g = h ∧ o = some (sI (-3))) ∨ (okK P n l a ∧ n < 6 ∧ g = setI (setI h 15 n a) 0 9 ((n : Int) + 1) ∧ o = some (sI ((n : Int) + 1)))) := by
  subst eP
  refine zC_of (by decide +kernel) (Nat.le_of_ble_eq_true rfl) (fun X C E => ?_)
  have bad : ¬ okK (h.1 2 8) n l a → zJ X 38 [some (sR 0), some (sI a)] [] h := fun q => zrun_sound t_X8_mark C E [] 60 _ _ _ _ (Or.inl ⟨q, rfl, rfl⟩)
  have good : okK (h.1 2 8) n l a → zJ X 40 [some (sR 0), some (sI a)] [] h := by
    intro q
    refine zrun_sound t_X8_mark C E [] 60 _ _ _ _ ?_
    refine And.intro (by omega) (And.intro (by omega) (And.intro (fun c => ?_) (fun c => ?_)))
    · have k0 : 0 ≤ h.1 0 9 := by omega
      have k1 : h.1 0 9 < 6 := c
      refine And.intro k0 (And.intro k1 ?_)
      refine Or.inr (Or.inr ⟨q, by omega, ?_, ?_⟩)
      · show setI (setI h 15 (h.1 0 9).toNat a) 0 9 (h.1 0 9 + 1) = _
        rw [hn]
        rfl
      · show some (sI (h.1 0 9 + 1)) = _
        rw [hn]
    · exact Or.inr (Or.inl ⟨q, by omega, rfl, rfl⟩)
  refine zrun_sound t_X8_mark C E [38, 40] 60 _ _ _ _ ?_
  refine zcall_i (d' := d - 1) (by omega) (c_X8_isFrom (by omega) h a ha hP) ?_
  rintro _ _ ⟨rfl, rfl⟩
  refine And.intro g_in (And.intro (fun c1 => bad (fun z => g_f c1 z.1)) (fun c1 => ?_))
  have q1 := g_t c1
  refine And.intro (by omega) (And.intro (fun c2 => good ⟨q1, fun z => by omega⟩) (fun c2 => ?_))
  obtain ⟨k, hk⟩ : ∃ k : Nat, n = k + 1 := ⟨n - 1, by omega⟩
  obtain ⟨l1, l2, l3⟩ := hl k hk
  have tn : (h.1 0 9 - 1).toNat = k := by omega
  have k0 : 0 ≤ h.1 0 9 - 1 := by omega
  have k1 : h.1 0 9 - 1 < 6 := by omega
  refine And.intro (by omega) (And.intro (by omega) (And.intro k0 (And.intro k1 ?_)))
  rw [tn, l1]
  refine And.intro ⟨l2, l3⟩ (And.intro (by omega) (And.intro (by omega) (And.intro (by omega) (And.intro (fun c3 => ?_) (fun c3 => ?_)))))
  · exact good ⟨q1, fun z => by omega⟩
  · exact bad (fun z => z.2 ⟨by omega, by omega⟩)
set_option maxHeartbeats 1000000 in
theorem c_X9_mark {d : Nat} (hd : 4 ≤ d) (h : zH) (a P l : Int) (n : Nat) (ha : inR a) (eP : h.1 52 20 = P) (hP : 0 ≤ P ∧ P ≤ 12) (hn : h.1 52 42 = n) (h6 : n ≤ 6) (hl : ∀ k : Nat, n = k + 1 → h.1 75 k = l ∧ 0 ≤ l ∧ l ≤ 2147483647) :
    zC d k_X9_mark [sR 52, sI a] h (fun o g => (¬ okK P n l a ∧ g = h ∧ o = some (sI (-1))) ∨ (okK P n l a ∧ n = 6 ∧ g = h ∧ o = some (sI (-3))) ∨ (okK P n l a ∧ n < 6 ∧ g = setI (setI h 75 n a) 52 42 ((n : Int) + 1) ∧ o = some (sI ((n : Int) + 1)))) := by
  subst eP
  refine zC_of (by decide +kernel) (Nat.le_of_ble_eq_true rfl) (fun X C E => ?_)
  have bad : ¬ okK (h.1 52 20) n l a → zJ X 38 [some (sR 52), some (sI a)] [] h := fun q => zrun_sound t_X9_mark C E [] 60 _ _ _ _ (Or.inl ⟨q, rfl, rfl⟩)
  have good : okK (h.1 52 20) n l a → zJ X 40 [some (sR 52), some (sI a)] [] h := by
    intro q
    refine zrun_sound t_X9_mark C E [] 60 _ _ _ _ ?_
    refine And.intro (by omega) (And.intro (by omega) (And.intro (fun c => ?_) (fun c => ?_)))
    · have k0 : 0 ≤ h.1 52 42 := by omega
      have k1 : h.1 52 42 < 6 := by
        have : ¬ h.1 52 42 = 6 := c
        omega
      refine And.intro k0 (And.intro k1 ?_)
      refine Or.inr (Or.inr ⟨q, by omega, ?_, ?_⟩)
      · show setI (setI h 75 (h.1 52 42).toNat a) 52 42 (h.1 52 42 + 1) = _
        rw [hn]
        rfl
      · show some (sI (h.1 52 42 + 1)) = _
        rw [hn]
    · exact Or.inr (Or.inl ⟨q, by omega, rfl, rfl⟩)
  refine zrun_sound t_X9_mark C E [38, 40] 60 _ _ _ _ ?_
  refine zcall_i (d' := d - 1) (by omega) (c_X9_isFrom (by omega) h a ha hP) ?_
  rintro _ _ ⟨rfl, rfl⟩
  refine And.intro g_in (And.intro (fun c1 => bad (fun z => g_f c1 z.1)) (fun c1 => ?_))
  have q1 := g_t c1
  refine And.intro (by omega) (And.intro (fun c2 => good ⟨q1, fun z => by omega⟩) (fun c2 => ?_))
  obtain ⟨k, hk⟩ : ∃ k : Nat, n = k + 1 := ⟨n - 1, by omega⟩
  obtain ⟨l1, l2, l3⟩ := hl k hk
  have tn : (h.1 52 42 - 1).toNat = k := by omega
  have k0 : 0 ≤ h.1 52 42 - 1 := by omega
  have k1 : h.1 52 42 - 1 < 6 := by omega
  refine And.intro (by omega) (And.intro (by omega) (And.intro k0 (And.intro k1 ?_)))
  rw [tn, l1]
  refine And.intro ⟨l2, l3⟩ (And.intro (by omega) (And.intro (by omega) (And.intro (by omega) (And.intro (fun c3 => ?_) (fun c3 => ?_)))))
  · exact good ⟨q1, fun z => by omega⟩
  · exact bad (fun z => z.2 ⟨by omega, by omega⟩)
theorem pr_mark {d : Nat} (hd : 4 ≤ d) {a : Int} (ha : inR a) : Pair2 d k_X8_mark k_X9_mark [sI a] := fun h hI => by
  have hI2 := hI
  obtain ⟨⟨i1, i2, i3, i4, i5, i6, ⟨m1, m2, m3, m4⟩, i8, i9, i10⟩, i11⟩ := hI
  have hv3 := i1.1.2.2.1
  have x3 := i2.1.2.2.1
  obtain ⟨n, hn⟩ : ∃ n : Nat, h.1 0 9 = n := ⟨(h.1 0 9).toNat, by omega⟩
  have hl : ∀ k : Nat, n = k + 1 → h.1 15 k = h.1 15 (n - 1) ∧ 0 ≤ h.1 15 (n - 1) ∧ h.1 15 (n - 1) ≤ 2147483647 := fun k hk => by
    have := (m3 k (by omega)).2
    rw [show n - 1 = k by omega]
    exact ⟨rfl, by omega, by omega⟩
  have hl2 : ∀ k : Nat, n = k + 1 → h.1 75 k = h.1 15 (n - 1) ∧ 0 ≤ h.1 15 (n - 1) ∧ h.1 15 (n - 1) ≤ 2147483647 := fun k hk => by
    have a1 := (m3 k (by omega)).1
    have a2 := hl k hk
    exact ⟨a1.trans a2.1, a2.2⟩
  refine zC_mono (c_X8_mark hd h a _ _ n ha rfl hv3 hn (by omega) hl) ?_
  rintro o g (⟨q, rfl, rfl⟩ | ⟨q, q2, rfl, rfl⟩ | ⟨q, q2, rfl, rfl⟩)
  · refine ⟨_, rfl, zC_mono (c_X9_mark hd g a _ _ n ha x3 hv3 (m1.trans hn) (by omega) hl2) ?_⟩
    rintro o g' (⟨z, rfl, rfl⟩ | ⟨z, z2, rfl, rfl⟩ | ⟨z, z2, rfl, rfl⟩)
    · exact ⟨rfl, hI2⟩
    · exact absurd z q
    · exact absurd z q
  · refine ⟨_, rfl, zC_mono (c_X9_mark hd g a _ _ n ha x3 hv3 (m1.trans hn) (by omega) hl2) ?_⟩
    rintro o g' (⟨z, rfl, rfl⟩ | ⟨z, z2, rfl, rfl⟩ | ⟨z, z2, rfl, rfl⟩)
    · exact absurd q z
    · exact ⟨rfl, hI2⟩
    · omega
  · refine ⟨_, rfl, zC_mono (c_X9_mark hd (setI (setI h 15 n a) 0 9 ((n : Int) + 1)) a _ _ n ha x3 hv3 (m1.trans hn) (by omega) hl2) ?_⟩
    rintro o g' (⟨z, rfl, rfl⟩ | ⟨z, z2, rfl, rfl⟩ | ⟨z, z2, rfl, rfl⟩)
    · exact absurd q z
    · omega
    · refine ⟨rfl, ⟨i1, i2, i3, i4, i5, i6, ⟨rfl, ⟨?_, ?_⟩, fun i hi => ?_, fun i hi => ?_⟩, i8, ?_, i10⟩, i11⟩
      · show 0 ≤ (n : Int) + 1
        omega
      · show (n : Int) + 1 ≤ 6
        omega
      · replace hi : (i : Int) < (n : Int) + 1 := hi
        show (setI h 75 n a).1 75 i = (setI h 15 n a).1 15 i ∧ (0 ≤ (setI h 15 n a).1 15 i ∧ (setI h 15 n a).1 15 i / 10000 < h.1 2 8 ∧ (setI h 15 n a).1 15 i % 10000 ≤ 1439)
        by_cases e : i = n
        · subst e
          rw [setI_eq, setI_eq]
          exact ⟨rfl, q.1⟩
        · rw [setI_n2 e, setI_n2 e]
          exact m3 i (by omega)
      · replace hi : (i : Int) + 1 < (n : Int) + 1 := hi
        show (setI h 15 n a).1 15 i % 10000 < (setI h 15 n a).1 15 (i + 1) % 10000
        rw [setI_n2 (by omega : i ≠ n)]
        by_cases e : i + 1 = n
        · subst e
          rw [setI_eq]
          have q3 := q.2
          rw [show i + 1 - 1 = i by omega] at q3
          have : ¬ a % 10000 ≤ h.1 15 i % 10000 := fun z => q3 ⟨by omega, z⟩
          omega
        · rw [setI_n2 e]
          exact m4 i (by omega)
      · exact Ishf_c i9 (fun k hk => ⟨by rw [setI_ne (by omega), setI_ne (by omega), setI_ne (by omega), setI_ne (by omega)], rfl⟩) rfl rfl rfl rfl
theorem c_X8_unmark {d : Nat} (h : zH) : zC d k_X8_unmark [sR 0] h (fun o g => g = setI h 0 9 0 ∧ o = some (sI (h.1 0 9))) :=
  zC_of (by decide +kernel) (Nat.le_of_ble_eq_true rfl) (fun X C E => zrun_sound t_X8_unmark C E [] 60 _ _ _ _ (And.intro rfl rfl))
theorem c_X9_unmark {d : Nat} (h : zH) : zC d k_X9_unmark [sR 52] h (fun o g => g = setI h 52 42 0 ∧ o = some (sI (h.1 52 42))) :=
  zC_of (by decide +kernel) (Nat.le_of_ble_eq_true rfl) (fun X C E => zrun_sound t_X9_unmark C E [] 60 _ _ _ _ (And.intro rfl rfl))
theorem pr_unmark {d : Nat} : Pair2 d k_X8_unmark k_X9_unmark [] := fun h hI => by
  refine zC_mono (c_X8_unmark h) ?_
  rintro o g ⟨rfl, rfl⟩
  refine ⟨_, rfl, zC_mono (c_X9_unmark _) ?_⟩
  rintro o g' ⟨rfl, rfl⟩
  obtain ⟨⟨i1, i2, i3, i4, i5, i6, ⟨m1, -⟩, i8, i9, i10⟩, i11⟩ := hI
  refine ⟨by rw [← m1]; rfl, ⟨i1, i2, i3, i4, i5, i6, ⟨rfl, ⟨(by decide : (0 : Int) ≤ 0), (by decide : (0 : Int) ≤ 6)⟩, fun i hi => absurd hi (by show ¬ (i : Int) < 0; omega), fun i hi => absurd hi (by show ¬ (i : Int) + 1 < 0; omega)⟩, i8, ?_, i10⟩, i11⟩
  exact Ishf_c i9 (fun k hk => ⟨by rw [setI_ne (by omega), setI_ne (by omega)], rfl⟩) rfl rfl rfl rfl
theorem c_X8_body {d : Nat} (hd : 4 ≤ d) (h : zH) (a : Int) (n : Nat) (ha : inR a) (hn : h.1 7 1 = n) (h5 : n ≤ 50) :
    zC d k_X8_body [sR 0, sI a] h (fun o g => (¬ (0 ≤ a ∧ a ≤ 6) ∧ g = h ∧ o = some (sI (-1))) ∨ ((0 ≤ a ∧ a ≤ 6) ∧ n = 50 ∧ g = h ∧ o = some (sI (-3))) ∨ ((0 ≤ a ∧ a ≤ 6) ∧ n < 50 ∧ g = setI (setI h 44 n a) 7 1 ((n : Int) + 1) ∧ o = some (sI n))) := by
  have hadd : h.1 7 1 < 50 → zC (d - 1) k_X0_add [sR 7, sI a] h (fun o g => g = setI (setI h 44 n a) 7 1 ((n : Int) + 1) ∧ o = some (sI n)) := by
    intro c
    have k0 : 0 ≤ h.1 7 1 := by omega
    refine zC_of (by decide +kernel) (Nat.le_of_ble_eq_true rfl) (fun X C E => zrun_sound t_X0_add C E [] 60 _ _ _ _ ?_)
    refine And.intro k0 (And.intro c ?_)
    refine And.intro ?_ ?_
    · show setI (setI h 44 (h.1 7 1).toNat a) 7 1 (h.1 7 1 + 1) = _
      rw [hn]
      rfl
    · show some (sI (h.1 7 1 + 1 - 1)) = _
      rw [hn, Int.add_sub_cancel]
  refine zC_of (by decide +kernel) (Nat.le_of_ble_eq_true rfl) (fun X C E => zrun_sound t_X8_body C E [] 60 _ _ _ _ ?_)
  refine zcall_i (d' := d - 1) (by omega) (c_X8_within h a 0 6 ha (by omega) (by omega)) ?_
  rintro _ _ ⟨rfl, rfl⟩
  refine And.intro g_in (And.intro (fun c1 => ?_) (fun c1 => Or.inl ⟨fun z => g_f c1 z, rfl, rfl⟩))
  have q1 := g_t c1
  refine And.intro (by omega) (And.intro (by omega) (And.intro (fun c => ?_) (fun c => ?_)))
  · refine zcall_i (d' := d - 1) (by omega) (hadd c) ?_
    rintro o g ⟨rfl, rfl⟩
    exact Or.inr (Or.inr ⟨q1, by omega, rfl, rfl⟩)
  · exact Or.inr (Or.inl ⟨q1, by omega, rfl, rfl⟩)
theorem c_X9_body {d : Nat} (hd : 4 ≤ d) (h : zH) (a : Int) (n : Nat) (ha : inR a) (hn : h.1 52 44 = n) (h5 : n ≤ 50) :
    zC d k_X9_body [sR 52, sI a] h (fun o g => (¬ (0 ≤ a ∧ a ≤ 6) ∧ g = h ∧ o = some (sI (-1))) ∨ ((0 ≤ a ∧ a ≤ 6) ∧ n = 50 ∧ g = h ∧ o = some (sI (-3))) ∨ ((0 ≤ a ∧ a ≤ 6) ∧ n < 50 ∧ g = setI (setI h 76 n a) 52 44 ((n : Int) + 1) ∧ o = some (sI n))) := by
  refine zC_of (by decide +kernel) (Nat.le_of_ble_eq_true rfl) (fun X C E => zrun_sound t_X9_body C E [] 60 _ _ _ _ ?_)
  refine zcall_i (d' := d - 1) (by omega) (c_X9_within h (i2l a) 0 6 a 0 6 (i2l_toInt ha) (by decide) (by decide)) ?_
  rintro _ _ ⟨rfl, rfl⟩
  refine And.intro g_in (And.intro (fun c1 => ?_) (fun c1 => Or.inl ⟨fun z => g_f c1 z, rfl, rfl⟩))
  have q1 := g_t c1
  refine And.intro (by omega) (And.intro (by omega) (And.intro (fun c => ?_) (fun c => ?_)))
  · have k0 : 0 ≤ h.1 52 44 := by omega
    have k1 : h.1 52 44 < 50 := by
      have : ¬ h.1 52 44 = 50 := c
      omega
    refine And.intro k0 (And.intro k1 ?_)
    refine Or.inr (Or.inr ⟨q1, by omega, ?_, ?_⟩)
    · show setI (setI h 76 (h.1 52 44).toNat a) 52 44 (h.1 52 44 + 1) = _
      rw [hn]
      rfl
    · show some (sI (h.1 52 44 + 1 - 1)) = _
      rw [hn, Int.add_sub_cancel]
  · exact Or.inr (Or.inl ⟨q1, by omega, rfl, rfl⟩)
theorem Ishf_up {h g : zH} (hI : Ishf h) (e : ∀ k, k < 6 → g.1 (8 + k) = h.1 (8 + k) ∧ g.2 (46 + k) = h.2 (46 + k)) (e7 : h.1 7 1 ≤ g.1 7 1) (e78 : g.1 78 = h.1 78) (e79 : g.1 79 = h.1 79) (e80 : g.2 80 = h.2 80) : Ishf g := by
  intro k hk
  rw [(e k hk).1, (e k hk).2, e78, e79, e80]
  rcases hI k hk with a | ⟨a, b, c, f⟩ | a
  · exact Or.inl a
  · exact Or.inr (Or.inl ⟨a, b, c, by omega⟩)
  · exact Or.inr (Or.inr a)
theorem pr_body {d : Nat} (hd : 4 ≤ d) {a : Int} (ha : inR a) : Pair2 d k_X8_body k_X9_body [sI a] := fun h hI => by
  have hI2 := hI
  obtain ⟨⟨i1, i2, i3, i4, i5, i6, i7, ⟨m1, m2, m3, m4, m5, m6⟩, i9, i10⟩, i11⟩ := hI
  obtain ⟨n, hn⟩ : ∃ n : Nat, h.1 7 1 = n := ⟨(h.1 7 1).toNat, by omega⟩
  refine zC_mono (c_X8_body hd h a n ha hn (by omega)) ?_
  rintro o g (⟨q, rfl, rfl⟩ | ⟨q, q2, rfl, rfl⟩ | ⟨q, q2, rfl, rfl⟩)
  · refine ⟨_, rfl, zC_mono (c_X9_body hd g a n ha (m1.trans hn) (by omega)) ?_⟩
    rintro o g' (⟨z, rfl, rfl⟩ | ⟨z, z2, rfl, rfl⟩ | ⟨z, z2, rfl, rfl⟩)
    · exact ⟨rfl, hI2⟩
    · exact absurd z q
    · exact absurd z q
  · refine ⟨_, rfl, zC_mono (c_X9_body hd g a n ha (m1.trans hn) (by omega)) ?_⟩
    rintro o g' (⟨z, rfl, rfl⟩ | ⟨z, z2, rfl, rfl⟩ | ⟨z, z2, rfl, rfl⟩)
    · exact absurd q z
    · exact ⟨rfl, hI2⟩
    · omega
  · refine ⟨_, rfl, zC_mono (c_X9_body hd (setI (setI h 44 n a) 7 1 ((n : Int) + 1)) a n ha (m1.trans hn) (by omega)) ?_⟩
    rintro o g' (⟨z, rfl, rfl⟩ | ⟨z, z2, rfl, rfl⟩ | ⟨z, z2, rfl, rfl⟩)
    · exact absurd q z
    · omega
    · refine ⟨rfl, ⟨i1, i2, i3, i4, i5, i6, i7, ⟨rfl, ⟨?_, ?_⟩, fun i hi => ?_, m4, m5, m6⟩, ?_, i10⟩, i11⟩
      · show 0 ≤ (n : Int) + 1
        omega
      · show (n : Int) + 1 ≤ 50
        omega
      · replace hi : (i : Int) < (n : Int) + 1 := hi
        show (setI h 76 n a).1 76 i = (setI h 44 n a).1 44 i ∧ (0 ≤ (setI h 44 n a).1 44 i ∧ (setI h 44 n a).1 44 i ≤ 6)
        by_cases e : i = n
        · subst e
          rw [setI_eq, setI_eq]
          exact ⟨rfl, q⟩
        · rw [setI_n2 e, setI_n2 e]
          exact m3 i (by omega)
      · exact Ishf_up i9 (fun k hk => ⟨by rw [setI_ne (by omega), setI_ne (by omega), setI_ne (by omega), setI_ne (by omega)], rfl⟩) (by show h.1 7 1 ≤ (n : Int) + 1; omega) rfl rfl rfl
def traceF (h : zH) (a : Int) : Int := if 0 ≤ a ∧ a < h.1 7 3 ∧ a < 24 then h.1 45 a.toNat else -1
theorem c_X8_trace {d : Nat} (hd : 4 ≤ d) (h : zH) (a : Int) (ha : inR a) (hr : 0 ≤ h.1 7 3 ∧ h.1 7 3 ≤ 1000000) : zC d k_X8_trace [sR 0, sI a] h (fun o g => g = h ∧ o = some (sI (traceF h a))) := by
  refine zC_of (by decide +kernel) (Nat.le_of_ble_eq_true rfl) (fun X C E => zrun_sound t_X8_trace C E [] 60 _ _ _ _ ?_)
  have hd1 : 1 ≤ d := by omega
  refine And.intro hd1 (And.intro (by omega) (And.intro (by omega) ?_))
  refine zcall_i (d' := d - 1) (by omega) (c_X8_within h a 0 (min (h.1 7 3) 24 - 1) ha (by omega) (by omega)) ?_
  rintro _ _ ⟨rfl, rfl⟩
  refine And.intro g_in (And.intro (fun c1 => ?_) (fun c1 => ?_))
  · refine And.intro rfl ?_
    have := g_f c1
    unfold traceF
    rw [if_neg (by omega)]
  · have q := g_t c1
    have k0 : 0 ≤ a := by omega
    have k1 : a < 24 := by omega
    refine And.intro k0 (And.intro k1 (And.intro rfl ?_))
    unfold traceF
    rw [if_pos (by omega)]
theorem c_X9_trace {d : Nat} (h : zH) (a r : Int) (ha : inR a) (er : h.1 52 47 = r) (hr : 0 ≤ r ∧ r ≤ 1000000) : zC d k_X9_trace [sR 52, sI a] h (fun o g => g = h ∧ o = some (sI (if 0 ≤ a ∧ a < r ∧ a < 24 then h.1 77 a.toNat else -1))) := by
  subst er
  refine zC_of (by decide +kernel) (Nat.le_of_ble_eq_true rfl) (fun X C E => ?_)
  have bad : ¬ (0 ≤ a ∧ a < h.1 52 47 ∧ a < 24) → zJ X 27 [some (sR 52), some (sI a)] [] h := fun q => zrun_sound t_X9_trace C E [] 60 _ _ _ _ (And.intro rfl (by rw [if_neg q]))
  refine zrun_sound t_X9_trace C E [27] 60 _ _ _ _ ?_
  refine And.intro ha (And.intro (fun c => bad (fun z => by omega)) (fun c => ?_))
  refine And.intro ha (And.intro (by omega) (And.intro (fun c2 => ?_) (fun c2 => ?_)))
  · replace c2 : h.1 52 47 ≤ a := c2
    exact bad (fun z => by omega)
  · replace c2 : ¬ h.1 52 47 ≤ a := c2
    refine And.intro ha (And.intro (by omega) (And.intro (fun c3 => bad (fun z => by omega)) (fun c3 => ?_)))
    have k0 : 0 ≤ a := by omega
    have k1 : a < 24 := by omega
    exact And.intro k0 (And.intro k1 (And.intro rfl (by rw [if_pos (by omega)])))
theorem pr_trace {d : Nat} (hd : 4 ≤ d) {a : Int} (ha : inR a) : Pair2 d k_X8_trace k_X9_trace [sI a] := fun h hI => by
  obtain ⟨m1, m2, m3, m4, m5, m6⟩ := id hI.1.2.2.2.2.2.2.2.1
  refine zC_mono (c_X8_trace hd h a ha m5) ?_
  rintro o g ⟨rfl, rfl⟩
  refine ⟨_, rfl, zC_mono (c_X9_trace g a _ ha m4 m5) ?_⟩
  rintro o g' ⟨rfl, rfl⟩
  refine ⟨?_, hI⟩
  unfold traceF
  by_cases q : 0 ≤ a ∧ a < g'.1 7 3 ∧ a < 24
  · rw [if_pos q, if_pos q, (m6 a.toNat (by omega) (by omega)).1]
  · rw [if_neg q, if_neg q]
