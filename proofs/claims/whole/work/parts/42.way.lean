/-! ===== a way more ===== -/
def waC (h : zH) (n : Nat) (p q l s : Int) : zH := setI (setI (setI (setI (setI (setI (setI h 26 n p) 27 n q) 28 n l) 29 n s) 30 n 0) 31 n 1439) 2 10 ((n : Int) + 1)
def waM (h : zH) (n : Nat) (p q l s : Int) : zH := setI (setI (setI (setI (setI (setI (setI h 66 n p) 67 n q) 68 n l) 53 (12 + n) s) 53 (36 + n) 0) 53 (60 + n) 1439) 52 21 ((n : Int) + 1)
def okL (h : zH) (a b : Int) : Prop := ok2 h a ∧ 0 ≤ b ∧ 1 ≤ b / 1000 ∧ b / 1000 ≤ 90
theorem c_X2_addWay {d : Nat} (h : zH) (n : Nat) (p q l s : Int) (hn : h.1 2 10 = n) (h5 : n < 24) : zC d k_X2_addWay [sR 2, sI p, sI q, sI l, sI s] h (fun o g => g = waC h n p q l s ∧ o = some (sI n)) := by
  have k1 : 0 ≤ h.1 2 10 := by omega
  have k2 : h.1 2 10 < 24 := by omega
  refine zC_of (by decide +kernel) (Nat.le_of_ble_eq_true rfl) (fun X C E => zrun_sound t_X2_addWay C E [] 80 _ _ _ _ ?_)
  refine And.intro k1 (And.intro k2 (And.intro k1 (And.intro k2 (And.intro k1 (And.intro k2 ?_)))))
  refine And.intro k1 (And.intro k2 (And.intro k1 (And.intro k2 (And.intro k1 (And.intro k2 ?_)))))
  refine And.intro ?_ ?_
  · show setI (setI (setI (setI (setI (setI (setI h 26 (h.1 2 10).toNat p) 27 (h.1 2 10).toNat q) 28 (h.1 2 10).toNat l) 29 (h.1 2 10).toNat s) 30 (h.1 2 10).toNat 0) 31 (h.1 2 10).toNat 1439) 2 10 (h.1 2 10 + 1) = _
    rw [hn]
    rfl
  · show some (sI (h.1 2 10 + 1 - 1)) = _
    rw [hn, Int.add_sub_cancel]
theorem c_X8_way {d : Nat} (hd : 4 ≤ d) (h : zH) (n : Nat) (a b : Int) (ha : inR a) (hb : inR b) (hp : 0 ≤ h.1 2 8 ∧ h.1 2 8 ≤ 12) (hn : h.1 2 10 = n) (h5 : n ≤ 24) : zC d k_X8_way [sR 0, sI a, sI b] h (fun o g => (¬ okL h a b ∧ g = h ∧ o = some (sI (-1))) ∨ (okL h a b ∧ n = 24 ∧ g = h ∧ o = some (sI (-3))) ∨ (okL h a b ∧ n < 24 ∧ g = waC h n (a / 100) (a % 100) (b / 1000) (b % 1000) ∧ o = some (sI n))) := by
  refine zC_of (by decide +kernel) (Nat.le_of_ble_eq_true rfl) (fun X C E => zrun_sound t_X8_way C E [] 60 _ _ _ _ ?_)
  refine zcall_i (d' := d - 1) (by omega) (c_X8_isPair (by omega) h a ha hp) ?_
  rintro _ _ ⟨rfl, rfl⟩
  refine And.intro g_in (And.intro (fun c1 => Or.inl ⟨fun z => g_f c1 z.1, rfl, rfl⟩) (fun c1 => ?_))
  refine And.intro hb (And.intro (fun c2 => Or.inl ⟨fun z => by have := z.2.1; omega, rfl, rfl⟩) (fun c2 => ?_))
  refine And.intro (by omega) (And.intro (by omega) ?_)
  refine zcall_i (d' := d - 1) (by omega) (c_X8_within h (b / 1000) 1 90 (by omega) (by omega) (by omega)) ?_
  rintro _ _ ⟨rfl, rfl⟩
  refine And.intro g_in (And.intro (fun c3 => ?_) (fun c3 => Or.inl ⟨fun z => g_f c3 z.2.2, rfl, rfl⟩))
  have q1 := g_t c1
  have q : okL h a b := ⟨q1, by omega, g_t c3⟩
  refine And.intro (by omega) (And.intro (by omega) (And.intro (fun c4 => ?_) (fun c4 => ?_)))
  · refine And.intro (by omega) (And.intro (by omega) (And.intro (by omega) (And.intro (by omega) ?_)))
    refine And.intro (by omega) (And.intro (by omega) (And.intro (by omega) (And.intro (by omega) ?_)))
    refine zcall_i (d' := d - 1) (by omega) (c_X2_addWay h n _ _ _ _ hn (by omega)) ?_
    rintro o g ⟨rfl, rfl⟩
    exact Or.inr (Or.inr ⟨q, by omega, rfl, rfl⟩)
  · exact Or.inr (Or.inl ⟨q, by omega, rfl, rfl⟩)
def okLm (h : zH) (a b : Int) : Prop := (0 ≤ a ∧ a / 100 < h.1 52 20 ∧ a % 100 < h.1 52 20 ∧ a / 100 ≠ a % 100) ∧ 0 ≤ b ∧ 1 ≤ b / 1000 ∧ b / 1000 ≤ 90
theorem c_X9_way {d : Nat} (hd : 4 ≤ d) (h : zH) (n : Nat) (a b : Int) (ha : inR a) (hb : inR b) (hp : 0 ≤ h.1 52 20 ∧ h.1 52 20 ≤ 12) (hn : h.1 52 21 = n) (h5 : n ≤ 24) : zC d k_X9_way [sR 52, sI a, sI b] h (fun o g => (¬ okLm h a b ∧ g = h ∧ o = some (sI (-1))) ∨ (okLm h a b ∧ n = 24 ∧ g = h ∧ o = some (sI (-3))) ∨ (okLm h a b ∧ n < 24 ∧ g = waM h n (a / 100) (a % 100) (b / 1000) (b % 1000) ∧ o = some (sI n))) := by
  refine zC_of (by decide +kernel) (Nat.le_of_ble_eq_true rfl) (fun X C E => zrun_sound t_X9_way C E [] 90 _ _ _ _ ?_)
  refine zcall_i (d' := d - 1) (by omega) (c_X9_areTwo (by omega) h a ha hp) ?_
  rintro _ _ ⟨rfl, rfl⟩
  refine And.intro g_in (And.intro (fun c1 => Or.inl ⟨fun z => g_f c1 z.1, rfl, rfl⟩) (fun c1 => ?_))
  refine And.intro hb (And.intro (fun c2 => Or.inl ⟨fun z => by have := z.2.1; omega, rfl, rfl⟩) (fun c2 => ?_))
  refine And.intro (by omega) (And.intro (by omega) ?_)
  refine zcall_i (d' := d - 1) (by omega) (c_X9_within h (i2l (b / 1000)) 1 90 (b / 1000) 1 90 (i2l_toInt (by omega)) (by decide) (by decide)) ?_
  rintro _ _ ⟨rfl, rfl⟩
  refine And.intro g_in (And.intro (fun c3 => ?_) (fun c3 => Or.inl ⟨fun z => g_f c3 z.2.2, rfl, rfl⟩))
  have q1 := g_t c1
  have q : okLm h a b := ⟨q1, by omega, g_t c3⟩
  refine And.intro (by omega) (And.intro (by omega) (And.intro (fun c4 => ?_) (fun c4 => ?_)))
  · have k1 : 0 ≤ h.1 52 21 := by omega
    have k2 : h.1 52 21 < 24 := by omega
    have a1 : 0 ≤ 12 + h.1 52 21 := by omega
    have a2 : 12 + h.1 52 21 < 88 := by omega
    have b1 : 0 ≤ 36 + h.1 52 21 := by omega
    have b2 : 36 + h.1 52 21 < 88 := by omega
    have d1 : 0 ≤ 60 + h.1 52 21 := by omega
    have d2 : 60 + h.1 52 21 < 88 := by omega
    refine And.intro (by omega) (And.intro (by omega) (And.intro k1 (And.intro k2 ?_)))
    refine And.intro (by omega) (And.intro (by omega) (And.intro k1 (And.intro k2 ?_)))
    refine And.intro (by omega) (And.intro (by omega) (And.intro k1 (And.intro k2 ?_)))
    refine And.intro (by omega) (And.intro (by omega) (And.intro a1 (And.intro a2 ?_)))
    refine And.intro b1 (And.intro b2 (And.intro d1 (And.intro d2 ?_)))
    refine Or.inr (Or.inr ⟨q, by omega, ?_, ?_⟩)
    · show setI (setI (setI (setI (setI (setI (setI h 66 (h.1 52 21).toNat (a / 100)) 67 (h.1 52 21).toNat (a % 100)) 68 (h.1 52 21).toNat (b / 1000)) 53 (12 + h.1 52 21).toNat (b % 1000)) 53 (36 + h.1 52 21).toNat 0) 53 (60 + h.1 52 21).toNat 1439) 52 21 (h.1 52 21 + 1) = _
      rw [hn, show (12 + (n : Int)).toNat = 12 + n by omega, show (36 + (n : Int)).toNat = 36 + n by omega, show (60 + (n : Int)).toNat = 60 + n by omega]
      rfl
    · show some (sI (h.1 52 21 + 1 - 1)) = _
      rw [hn, Int.add_sub_cancel]
  · exact Or.inr (Or.inl ⟨q, by omega, rfl, rfl⟩)
theorem waM_53 {h : zH} {n : Nat} {p q l s : Int} (i : Nat) : (waM h n p q l s).1 53 i = if i = 60 + n then 1439 else if i = 36 + n then 0 else if i = 12 + n then s else h.1 53 i := by
  show (setI (setI (setI (setI (setI (setI h 66 n p) 67 n q) 68 n l) 53 (12 + n) s) 53 (36 + n) 0) 53 (60 + n) 1439).1 53 i = _
  by_cases e1 : i = 60 + n
  · rw [if_pos e1, e1, setI_eq]
  · rw [if_neg e1, setI_n2 e1]
    by_cases e2 : i = 36 + n
    · rw [if_pos e2, e2, setI_eq]
    · rw [if_neg e2, setI_n2 e2]
      by_cases e3 : i = 12 + n
      · rw [if_pos e3, e3, setI_eq]
      · rw [if_neg e3, setI_n2 e3]
        rfl
theorem pr_way {d : Nat} (hd : 4 ≤ d) {a b : Int} (ha : inR a) (hb : inR b) : Pair2 d k_X8_way k_X9_way [sI a, sI b] := fun h hI => by
  have hI2 := hI
  obtain ⟨⟨⟨⟨hv1, hv2, hv3, hv4, hv5⟩, v2, v3, v4, v5, v6, v7⟩, ⟨⟨x1, x2, x3, x4, x5, x6⟩, e1, e2, e3, e4, e5, e6⟩, i3, i4, ⟨p1, p2, p3⟩, i6, i7, i8, i9, i10⟩, i11⟩ := hI
  obtain ⟨n, hn⟩ : ∃ n : Nat, h.1 2 10 = n := ⟨(h.1 2 10).toNat, by omega⟩
  refine zC_mono (c_X8_way hd h n a b ha hb hv3 hn (by omega)) ?_
  rintro o g (⟨q, rfl, rfl⟩ | ⟨q, q2, rfl, rfl⟩ | ⟨q, q2, rfl, rfl⟩)
  · refine ⟨_, rfl, zC_mono (c_X9_way hd g n a b ha hb (by omega) (by omega) (by omega)) ?_⟩
    unfold okLm
    rw [x3]
    rintro o g' (⟨z, rfl, rfl⟩ | ⟨z, z2, rfl, rfl⟩ | ⟨z, z2, rfl, rfl⟩)
    · exact ⟨rfl, hI2⟩
    · exact absurd z q
    · exact absurd z q
  · refine ⟨_, rfl, zC_mono (c_X9_way hd g n a b ha hb (by omega) (by omega) (by omega)) ?_⟩
    unfold okLm
    rw [x3]
    rintro o g' (⟨z, rfl, rfl⟩ | ⟨z, z2, rfl, rfl⟩ | ⟨z, z2, rfl, rfl⟩)
    · exact absurd q z
    · exact ⟨rfl, hI2⟩
    · omega
  · have f20 : (waC h n (a / 100) (a % 100) (b / 1000) (b % 1000)).1 52 20 = h.1 2 8 := x3
    refine ⟨_, rfl, zC_mono (c_X9_way hd _ n a b ha hb (by omega) (x4.trans hn) (by omega)) ?_⟩
    unfold okLm
    rw [f20]
    rintro o g' (⟨z, rfl, rfl⟩ | ⟨z, z2, rfl, rfl⟩ | ⟨z, z2, rfl, rfl⟩)
    · exact absurd q z
    · omega
    · obtain ⟨⟨q11, q12, q13, q14⟩, q15, q16⟩ := q
      have R53 := @waM_53 (waC h n (a / 100) (a % 100) (b / 1000) (b % 1000)) n (a / 100) (a % 100) (b / 1000) (b % 1000)
      have K53 : ∀ i, (waC h n (a / 100) (a % 100) (b / 1000) (b % 1000)).1 53 i = h.1 53 i := fun i => rfl
      refine ⟨rfl, ⟨⟨⟨hv1, hv2, hv3, ⟨?_, ?_⟩, hv5⟩, v2, v3, v4, fun w hw => ?_, fun w hw => ?_, v7⟩, ⟨⟨x1, x2, x3, rfl, x5, x6⟩, e1, e2, e3, fun i hi => ?_, fun i hi => ?_, fun i hi => ?_⟩, i3, i4, ⟨p1, p2, fun i hi => ⟨(p3 i hi).1, ?_⟩⟩, i6, i7, i8, ?_, i10⟩, i11⟩
      · show 0 ≤ (n : Int) + 1
        omega
      · show (n : Int) + 1 ≤ 24
        omega
      · replace hw : (w : Int) < (n : Int) + 1 := hw
        show (0 ≤ (setI h 26 n (a / 100)).1 26 w ∧ (setI h 26 n (a / 100)).1 26 w < h.1 2 8) ∧ (0 ≤ (setI h 27 n (a % 100)).1 27 w ∧ (setI h 27 n (a % 100)).1 27 w < h.1 2 8) ∧ (setI h 26 n (a / 100)).1 26 w ≠ (setI h 27 n (a % 100)).1 27 w ∧ (1 ≤ (setI h 28 n (b / 1000)).1 28 w ∧ (setI h 28 n (b / 1000)).1 28 w ≤ 90)
        by_cases e : w = n
        · subst e
          rw [setI_eq, setI_eq, setI_eq]
          exact ⟨⟨by omega, q12⟩, ⟨by omega, q13⟩, q14, q16⟩
        · rw [setI_n2 e, setI_n2 e, setI_n2 e]
          exact v5 w (by omega)
      · show (0 ≤ (setI h 29 n (b % 1000)).1 29 w ∧ (setI h 29 n (b % 1000)).1 29 w ≤ 999) ∧ (0 ≤ (setI h 30 n 0).1 30 w ∧ (setI h 30 n 0).1 30 w ≤ 1439) ∧ (0 ≤ (setI h 31 n 1439).1 31 w ∧ (setI h 31 n 1439).1 31 w ≤ 1439)
        by_cases e : w = n
        · subst e
          rw [setI_eq, setI_eq, setI_eq]
          omega
        · rw [setI_n2 e, setI_n2 e, setI_n2 e]
          exact v6 w hw
      · rw [R53, if_neg (by omega), if_neg (by omega), if_neg (by omega)]
        exact e4 i hi
      · show (setI h 66 n (a / 100)).1 66 i = (setI h 26 n (a / 100)).1 26 i ∧ (setI h 67 n (a % 100)).1 67 i = (setI h 27 n (a % 100)).1 27 i ∧ (setI h 68 n (b / 1000)).1 68 i = (setI h 28 n (b / 1000)).1 28 i ∧ (waM (waC h n (a / 100) (a % 100) (b / 1000) (b % 1000)) n (a / 100) (a % 100) (b / 1000) (b % 1000)).1 53 (12 + i) = (setI h 29 n (b % 1000)).1 29 i ∧ (waM (waC h n (a / 100) (a % 100) (b / 1000) (b % 1000)) n (a / 100) (a % 100) (b / 1000) (b % 1000)).1 53 (36 + i) = (setI h 30 n 0).1 30 i ∧ (waM (waC h n (a / 100) (a % 100) (b / 1000) (b % 1000)) n (a / 100) (a % 100) (b / 1000) (b % 1000)).1 53 (60 + i) = (setI h 31 n 1439).1 31 i
        rw [R53, R53, R53]
        by_cases e : i = n
        · subst e
          rw [setI_eq, setI_eq, setI_eq, setI_eq, setI_eq, setI_eq, setI_eq, setI_eq, setI_eq, if_neg (by omega), if_neg (by omega), if_pos rfl, if_neg (by omega), if_pos rfl, if_pos rfl]
          exact ⟨rfl, rfl, rfl, rfl, rfl, rfl⟩
        · rw [setI_n2 e, setI_n2 e, setI_n2 e, setI_n2 e, setI_n2 e, setI_n2 e, setI_n2 e, setI_n2 e, setI_n2 e, if_neg (by omega), if_neg (by omega), if_neg (by omega), if_neg (by omega), if_neg (by omega), if_neg (by omega), if_neg (by omega), if_neg (by omega), if_neg (by omega)]
          exact e5 i hi
      · rw [R53, if_neg (by omega), if_neg (by omega), if_neg (by omega)]
        exact e6 i hi
      · have := (p3 i hi).2
        show (0 ≤ h.1 39 i ∧ h.1 39 i < (n : Int) + 1) ∨ (101 ≤ h.1 39 i ∧ h.1 39 i ≤ 340)
        omega
      · exact Ishf_c i9 (fun k hk => ⟨by unfold waM waC; rw [setI_ne (by omega), setI_ne (by omega), setI_ne (by omega), setI_ne (by omega), setI_ne (by omega), setI_ne (by omega), setI_ne (by omega), setI_ne (by omega), setI_ne (by omega), setI_ne (by omega), setI_ne (by omega), setI_ne (by omega), setI_ne (by omega), setI_ne (by omega)], rfl⟩) rfl rfl rfl rfl
