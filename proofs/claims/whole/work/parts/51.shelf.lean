/-! ===== shelves: keep, row ===== -/
def shB : Nat → Bool := fun c => (Nat.ble 8 c && Nat.ble c 13) || c == 78 || c == 79 || (Nat.ble 46 c && Nat.ble c 51)
theorem Inv_shf {h g : zH} (hI : Inv2 h) (e : ∀ c, shB c = false → g.1 c = h.1 c) (hs : Ishf g) : Inv2 g := by
  obtain ⟨⟨i1, i2, i3, i4, i5, i6, i7, i8, -, i10⟩, i11⟩ := hI
  refine ⟨⟨?_, ?_, ?_, ?_, ?_, ?_, ?_, ?_, hs, ?_⟩, ?_⟩
  · unfold VV Vn Vt Vw Vp Vy Vh Vs at *
    rw [e 2 rfl, e 19 rfl, e 20 rfl, e 21 rfl, e 22 rfl, e 23 rfl, e 24 rfl, e 25 rfl, e 26 rfl, e 27 rfl, e 28 rfl, e 29 rfl, e 30 rfl, e 31 rfl, e 32 rfl]
    exact i1
  · unfold Ieq at *
    rw [e 2 rfl, e 19 rfl, e 20 rfl, e 21 rfl, e 22 rfl, e 23 rfl, e 24 rfl, e 25 rfl, e 26 rfl, e 27 rfl, e 28 rfl, e 29 rfl, e 30 rfl, e 31 rfl, e 32 rfl, e 52 rfl, e 53 rfl, e 58 rfl, e 59 rfl, e 60 rfl, e 63 rfl, e 64 rfl, e 65 rfl, e 66 rfl, e 67 rfl, e 68 rfl]
    exact i2
  · exact Isea_c i3 (fun c a b => by
      rcases (by omega : c = 19 ∨ c = 20 ∨ c = 21 ∨ c = 22 ∨ c = 23) with rfl | rfl | rfl | rfl | rfl
      · exact e 19 rfl
      · exact e 20 rfl
      · exact e 21 rfl
      · exact e 22 rfl
      · exact e 23 rfl) (e 2 rfl) ⟨by rw [e 3 rfl], by rw [e 3 rfl]⟩ (e 33 rfl) (e 34 rfl)
  · unfold Itape at *
    rw [e 1 rfl, e 16 rfl, e 57 rfl, e 52 rfl]
    exact i4
  · unfold Iplan at *
    rw [e 2 rfl, e 5 rfl, e 39 rfl, e 74 rfl, e 52 rfl]
    exact i5
  · unfold Ichg at *
    rw [e 6 rfl, e 40 rfl, e 41 rfl, e 42 rfl, e 43 rfl, e 54 rfl, e 55 rfl, e 56 rfl, e 52 rfl]
    exact i6
  · unfold Imark at *
    rw [e 0 rfl, e 2 rfl, e 15 rfl, e 75 rfl, e 52 rfl]
    exact i7
  · unfold Ibod at *
    rw [e 7 rfl, e 44 rfl, e 45 rfl, e 76 rfl, e 77 rfl, e 52 rfl]
    exact i8
  · unfold Imisc at *
    rw [e 52 rfl]
    exact i10
  · rw [e 52 rfl]
    exact i11
theorem shB_no {c k : Nat} (hk : k < 6) (hc : shB c = false) : c ≠ 8 + k ∧ c ≠ 78 ∧ c ≠ 79 ∧ c ≠ 46 + k := by
  refine ⟨fun q => ?_, fun q => ?_, fun q => ?_, fun q => ?_⟩
  · subst q
    rcases (by omega : k = 0 ∨ k = 1 ∨ k = 2 ∨ k = 3 ∨ k = 4 ∨ k = 5) with rfl | rfl | rfl | rfl | rfl | rfl <;> cases hc
  · subst q
    cases hc
  · subst q
    cases hc
  · subst q
    rcases (by omega : k = 0 ∨ k = 1 ∨ k = 2 ∨ k = 3 ∨ k = 4 ∨ k = 5) with rfl | rfl | rfl | rfl | rfl | rfl <;> cases hc
def kpC (h : zH) (k : Nat) (b : Int) : zH := setI (setI h (8 + k) 0 (if 0 ≤ b then 5 else -1)) (8 + k) 1 (max 0 b)
def kpM (h : zH) (k : Nat) (b : Int) : zH := setI (setI h 78 k b) 79 k 0
theorem c_X6_holdBody {d : Nat} (hd : 1 ≤ d) (h : zH) (k : Nat) (b : Int) (hk : k < 6) (hb : inR b) : zC d k_X6_holdBody [sR (8 + k), sI b] h (fun o g => o = none ∧ g = kpC h k b) := by
  refine zC_of (by decide +kernel) (Nat.le_of_ble_eq_true rfl) (fun X C E => zrun_sound t_X6_holdBody C E [] 60 _ _ _ _ ?_)
  unfold kpC
  rcases (by omega : k = 0 ∨ k = 1 ∨ k = 2 ∨ k = 3 ∨ k = 4 ∨ k = 5) with rfl | rfl | rfl | rfl | rfl | rfl
  all_goals
    refine And.intro hb (And.intro (fun c => ?_) (fun c => ?_))
    · refine And.intro hd (And.intro (by decide) (And.intro hb ?_))
      exact And.intro rfl (by rw [if_pos c])
    · refine And.intro hd (And.intro (by decide) (And.intro hb ?_))
      exact And.intro rfl (by rw [if_neg c])
theorem c_X8_keep {d : Nat} (hd : 4 ≤ d) (h : zH) (a b : Int) (ha : inR a) (hb : inR b) (hn : 0 ≤ h.1 7 1 ∧ h.1 7 1 ≤ 50) :
    zC d k_X8_keep [sR 0, sI a, sI b] h (fun o g => (¬ ((0 ≤ a ∧ a ≤ 5) ∧ -1 ≤ b ∧ b < h.1 7 1) ∧ g = h ∧ o = some (sI (-1))) ∨ (((0 ≤ a ∧ a ≤ 5) ∧ -1 ≤ b ∧ b < h.1 7 1) ∧ g = kpC h a.toNat b ∧ o = some (sI 1))) := by
  refine zC_of (by decide +kernel) (Nat.le_of_ble_eq_true rfl) (fun X C E => zrun_sound t_X8_keep C E [] 60 _ _ _ _ ?_)
  refine zcall_i (d' := d - 1) (by omega) (c_X8_isShelf (by omega) h a ha) ?_
  rintro _ _ ⟨rfl, rfl⟩
  refine And.intro g_in (And.intro (fun c1 => Or.inl ⟨fun z => g_f c1 z.1, rfl, rfl⟩) (fun c1 => ?_))
  refine zcall_i (d' := d - 1) (by omega) (c_X8_within h b (-1) (h.1 7 1 - 1) hb (by omega) (by omega)) ?_
  rintro _ _ ⟨rfl, rfl⟩
  refine And.intro g_in (And.intro (fun c2 => ?_) (fun c2 => Or.inl ⟨fun z => g_f c2 (by omega), rfl, rfl⟩))
  have q1 := g_t c1
  have q2 := g_t c2
  have hd1 : 1 ≤ d - 1 := by omega
  have hd2 : d - 1 + 1 ≤ d := by omega
  refine And.intro q1.1 (And.intro (show a < 6 by omega) ?_)
  clear c1 c2
  rcases (by omega : a = 0 ∨ a = 1 ∨ a = 2 ∨ a = 3 ∨ a = 4 ∨ a = 5) with rfl | rfl | rfl | rfl | rfl | rfl
  · refine zcall_i (d' := d - 1) hd2 (c_X6_holdBody hd1 h 0 b (by omega) hb) ?_
    rintro _ _ ⟨rfl, rfl⟩
    exact Or.inr ⟨⟨q1, by omega⟩, rfl, rfl⟩
  · refine zcall_i (d' := d - 1) hd2 (c_X6_holdBody hd1 h 1 b (by omega) hb) ?_
    rintro _ _ ⟨rfl, rfl⟩
    exact Or.inr ⟨⟨q1, by omega⟩, rfl, rfl⟩
  · refine zcall_i (d' := d - 1) hd2 (c_X6_holdBody hd1 h 2 b (by omega) hb) ?_
    rintro _ _ ⟨rfl, rfl⟩
    exact Or.inr ⟨⟨q1, by omega⟩, rfl, rfl⟩
  · refine zcall_i (d' := d - 1) hd2 (c_X6_holdBody hd1 h 3 b (by omega) hb) ?_
    rintro _ _ ⟨rfl, rfl⟩
    exact Or.inr ⟨⟨q1, by omega⟩, rfl, rfl⟩
  · refine zcall_i (d' := d - 1) hd2 (c_X6_holdBody hd1 h 4 b (by omega) hb) ?_
    rintro _ _ ⟨rfl, rfl⟩
    exact Or.inr ⟨⟨q1, by omega⟩, rfl, rfl⟩
  · refine zcall_i (d' := d - 1) hd2 (c_X6_holdBody hd1 h 5 b (by omega) hb) ?_
    rintro _ _ ⟨rfl, rfl⟩
    exact Or.inr ⟨⟨q1, by omega⟩, rfl, rfl⟩
theorem c_X9_keep {d : Nat} (hd : 4 ≤ d) (h : zH) (a b n : Int) (ha : inR a) (hb : inR b) (en : h.1 52 44 = n) (hn : 0 ≤ n ∧ n ≤ 50) :
    zC d k_X9_keep [sR 52, sI a, sI b] h (fun o g => (¬ ((0 ≤ a ∧ a ≤ 5) ∧ -1 ≤ b ∧ b < n) ∧ g = h ∧ o = some (sI (-1))) ∨ (((0 ≤ a ∧ a ≤ 5) ∧ -1 ≤ b ∧ b < n) ∧ g = kpM h a.toNat b ∧ o = some (sI 1))) := by
  subst en
  refine zC_of (by decide +kernel) (Nat.le_of_ble_eq_true rfl) (fun X C E => ?_)
  have good : ((0 ≤ a ∧ a ≤ 5) ∧ -1 ≤ b ∧ b < h.1 52 44) → zJ X 22 [some (sR 52), some (sI a), some (sI b)] [] h := by
    intro q
    have k0 := q.1.1
    have k1 : a < 6 := by omega
    refine zrun_sound t_X9_keep C E [] 60 _ _ _ _ ?_
    exact And.intro k0 (And.intro k1 (And.intro k0 (And.intro k1 (Or.inr ⟨q, rfl, rfl⟩))))
  refine zrun_sound t_X9_keep C E [22] 60 _ _ _ _ ?_
  refine zcall_i (d' := d - 1) (by omega) (c_X9_isShelf (by omega) h a ha) ?_
  rintro _ _ ⟨rfl, rfl⟩
  refine And.intro g_in (And.intro (fun c1 => Or.inl ⟨fun z => g_f c1 z.1, rfl, rfl⟩) (fun c1 => ?_))
  have q1 := g_t c1
  refine And.intro hb (And.intro (by omega) (And.intro (fun c2 => good ⟨q1, by omega⟩) (fun c2 => ?_)))
  refine zcall_i (d' := d - 1) (by omega) (c_X9_isBody (by omega) h b hb hn) ?_
  rintro _ _ ⟨rfl, rfl⟩
  refine And.intro g_in (And.intro (fun c3 => ?_) (fun c3 => Or.inl ⟨fun z => g_f c3 (by omega), rfl, rfl⟩))
  have q3 := g_t c3
  exact good ⟨q1, by omega⟩
theorem pr_keep {d : Nat} (hd : 4 ≤ d) {a b : Int} (ha : inR a) (hb : inR b) : Pair2 d k_X8_keep k_X9_keep [sI a, sI b] := fun h hI => by
  obtain ⟨m1, m2, -⟩ := id hI.1.2.2.2.2.2.2.2.1
  have i9 := hI.1.2.2.2.2.2.2.2.2.1
  refine zC_mono (c_X8_keep hd h a b ha hb m2) ?_
  rintro o g (⟨q, rfl, rfl⟩ | ⟨q, rfl, rfl⟩)
  · refine ⟨_, rfl, zC_mono (c_X9_keep hd g a b _ ha hb m1 m2) ?_⟩
    rintro o g' (⟨z, rfl, rfl⟩ | ⟨z, -⟩)
    · exact ⟨rfl, hI⟩
    · exact absurd z q
  · have k6 : a.toNat < 6 := by omega
    have e44 : (kpC h a.toNat b).1 52 44 = h.1 7 1 := by
      unfold kpC
      rw [setI_ne (by omega), setI_ne (by omega)]
      exact m1
    refine ⟨_, rfl, zC_mono (c_X9_keep hd _ a b _ ha hb e44 m2) ?_⟩
    rintro o g' (⟨z, -, -⟩ | ⟨z, rfl, rfl⟩)
    · exact absurd q z
    · refine ⟨rfl, Inv_shf hI (fun c hc => ?_) (fun k hk => ?_)⟩
      · obtain ⟨n1, n2, n3, -⟩ := shB_no k6 hc
        unfold kpM kpC
        rw [setI_ne n3, setI_ne n2, setI_ne n1, setI_ne n1]
      · have e7 : (kpM (kpC h a.toNat b) a.toNat b).1 7 = h.1 7 := by
          unfold kpM kpC
          rw [setI_ne (by omega), setI_ne (by omega), setI_ne (by omega), setI_ne (by omega)]
        have e2 : (kpM (kpC h a.toNat b) a.toNat b).2 = h.2 := rfl
        have e78 : (kpM (kpC h a.toNat b) a.toNat b).1 78 k = if k = a.toNat then b else h.1 78 k := by
          unfold kpM kpC
          rw [setI_ne (by omega), setI_at, setI_ne (by omega), setI_ne (by omega)]
          by_cases e : k = a.toNat
          · rw [if_pos ⟨rfl, e⟩, if_pos e]
          · rw [if_neg (fun z => e z.2), if_neg e]
        have e79 : k ≠ a.toNat → (kpM (kpC h a.toNat b) a.toNat b).1 79 k = h.1 79 k := fun e => by
          unfold kpM kpC
          rw [setI_n2 e, setI_ne (by omega), setI_ne (by omega), setI_ne (by omega)]
        by_cases e : k = a.toNat
        · have f0 : (kpM (kpC h a.toNat b) a.toNat b).1 (8 + k) 0 = if 0 ≤ b then 5 else -1 := by
            unfold kpM kpC
            rw [e, setI_ne (by omega), setI_ne (by omega), setI_n2 (by omega), setI_eq]
          have f1 : (kpM (kpC h a.toNat b) a.toNat b).1 (8 + k) 1 = max 0 b := by
            unfold kpM kpC
            rw [e, setI_ne (by omega), setI_ne (by omega), setI_eq]
          rw [f0, f1, e78, if_pos e, e7]
          by_cases c : 0 ≤ b
          · rw [if_pos c]
            exact Or.inr (Or.inl ⟨rfl, by omega, by omega, by omega⟩)
          · rw [if_neg c]
            exact Or.inl ⟨rfl, by omega⟩
        · have f0 : (kpM (kpC h a.toNat b) a.toNat b).1 (8 + k) = h.1 (8 + k) := by
            unfold kpM kpC
            rw [setI_ne (by omega), setI_ne (by omega), setI_ne (by omega), setI_ne (by omega)]
          rw [f0, e7, e78, if_neg e, e79 e, e2]
          exact i9 k hk
def rwC (h g : zH) (k : Nat) (b n : Int) : Prop := (∀ c i, c ≠ 46 + k → ¬ (c = 8 + k ∧ (i = 0 ∨ i = 3)) → g.1 c i = h.1 c i) ∧ g.1 (8 + k) 0 = b ∧ g.1 (8 + k) 3 = n ∧ (∀ c, c ≠ 46 + k → g.2 c = h.2 c) ∧ ∀ i, i < 60 → g.2 (46 + k) i = 0
theorem rwC_fill {h g : zH} {k : Nat} {b n : Int} (hf : fr (fun c _ => c == 46 + k) (setI (setI h (8 + k) 0 b) (8 + k) 3 n) g) (h0 : ∀ i, i < 60 → g.2 (46 + k) i = 0) (hk : k < 6) : rwC h g k b n := by
  have e1 : ∀ c, c ≠ 46 + k → ∀ i, g.1 c i = (setI (setI h (8 + k) 0 b) (8 + k) 3 n).1 c i := fun c q i => (hf c i (by simpa using q)).1
  refine ⟨fun c i hc hi => ?_, ?_, ?_, fun c hc => funext fun i => (hf c i (by simpa using hc)).2, h0⟩
  · rw [e1 c hc i, setI_at, if_neg (fun z => hi ⟨z.1, Or.inr z.2⟩), setI_at, if_neg (fun z => hi ⟨z.1, Or.inl z.2⟩)]
  · rw [e1 _ (by omega), setI_n2 (by omega), setI_eq]
  · rw [e1 _ (by omega), setI_eq]
theorem c_X6_holdRow {d : Nat} (hd : 1 ≤ d) (h : zH) (k : Nat) (b n : Int) (hk : k < 6) : zC d k_X6_holdRow [sR (8 + k), sI b, sI n] h (fun o g => o = none ∧ rwC h g k b n) := by
  have hd2 : d - 1 + 1 ≤ d := by omega
  refine zC_of (by decide +kernel) (Nat.le_of_ble_eq_true rfl) (fun X C E => zrun_sound t_X6_holdRow C E [] 60 _ _ _ _ ?_)
  rcases (by omega : k = 0 ∨ k = 1 ∨ k = 2 ∨ k = 3 ∨ k = 4 ∨ k = 5) with rfl | rfl | rfl | rfl | rfl | rfl
  · refine zcall_i (d' := d - 1) hd2 (c_fillL_46 _ 0) ?_
    rintro _ g ⟨rfl, hf, h0⟩
    exact And.intro rfl (rwC_fill (k := 0) hf h0 hk)
  · refine zcall_i (d' := d - 1) hd2 (c_fillL_47 _ 0) ?_
    rintro _ g ⟨rfl, hf, h0⟩
    exact And.intro rfl (rwC_fill (k := 1) hf h0 hk)
  · refine zcall_i (d' := d - 1) hd2 (c_fillL_48 _ 0) ?_
    rintro _ g ⟨rfl, hf, h0⟩
    exact And.intro rfl (rwC_fill (k := 2) hf h0 hk)
  · refine zcall_i (d' := d - 1) hd2 (c_fillL_49 _ 0) ?_
    rintro _ g ⟨rfl, hf, h0⟩
    exact And.intro rfl (rwC_fill (k := 3) hf h0 hk)
  · refine zcall_i (d' := d - 1) hd2 (c_fillL_50 _ 0) ?_
    rintro _ g ⟨rfl, hf, h0⟩
    exact And.intro rfl (rwC_fill (k := 4) hf h0 hk)
  · refine zcall_i (d' := d - 1) hd2 (c_fillL_51 _ 0) ?_
    rintro _ g ⟨rfl, hf, h0⟩
    exact And.intro rfl (rwC_fill (k := 5) hf h0 hk)
def okR (a b n : Int) : Prop := (0 ≤ a ∧ a ≤ 5) ∧ (0 ≤ b ∧ b ≤ 4) ∧ n ≤ 60
theorem c_X8_row {d : Nat} (hd : 4 ≤ d) (h : zH) (a b n : Int) (ha : inR a) (hb : inR b) (hn : inR n) :
    zC d k_X8_row [sR 0, sI a, sI b, sI n] h (fun o g => (¬ okR a b n ∧ g = h ∧ o = some (sI (-1))) ∨ (okR a b n ∧ n < 0 ∧ g = h ∧ o = some (sI (-14))) ∨ (okR a b n ∧ 0 ≤ n ∧ rwC h g a.toNat b n ∧ o = some (sI 1))) := by
  refine zC_of (by decide +kernel) (Nat.le_of_ble_eq_true rfl) (fun X C E => zrun_sound t_X8_row C E [] 60 _ _ _ _ ?_)
  refine zcall_i (d' := d - 1) (by omega) (c_X8_isShelf (by omega) h a ha) ?_
  rintro _ _ ⟨rfl, rfl⟩
  refine And.intro g_in (And.intro (fun c1 => Or.inl ⟨fun z => g_f c1 z.1, rfl, rfl⟩) (fun c1 => ?_))
  refine zcall_i (d' := d - 1) (by omega) (c_X8_within h b 0 4 hb (by omega) (by omega)) ?_
  rintro _ _ ⟨rfl, rfl⟩
  refine And.intro g_in (And.intro (fun c2 => Or.inl ⟨fun z => g_f c2 z.2.1, rfl, rfl⟩) (fun c2 => ?_))
  have q1 := g_t c1
  have q2 := g_t c2
  refine And.intro hn (And.intro (by omega) (And.intro (fun c3 => ?_) (fun c3 => Or.inl ⟨fun z => c3 z.2.2, rfl, rfl⟩)))
  refine And.intro hn (And.intro (fun c4 => ?_) (fun c4 => Or.inr (Or.inl ⟨⟨q1, q2, c3⟩, by omega, rfl, rfl⟩)))
  have hd1 : 1 ≤ d - 1 := by omega
  have hd2 : d - 1 + 1 ≤ d := by omega
  refine And.intro q1.1 (And.intro (show a < 6 by omega) ?_)
  clear c1 c2
  rcases (by omega : a = 0 ∨ a = 1 ∨ a = 2 ∨ a = 3 ∨ a = 4 ∨ a = 5) with rfl | rfl | rfl | rfl | rfl | rfl
  · refine zcall_i (d' := d - 1) hd2 (c_X6_holdRow hd1 h 0 b n (by omega)) ?_
    rintro _ g ⟨rfl, hr⟩
    exact Or.inr (Or.inr ⟨⟨q1, q2, c3⟩, c4, hr, rfl⟩)
  · refine zcall_i (d' := d - 1) hd2 (c_X6_holdRow hd1 h 1 b n (by omega)) ?_
    rintro _ g ⟨rfl, hr⟩
    exact Or.inr (Or.inr ⟨⟨q1, q2, c3⟩, c4, hr, rfl⟩)
  · refine zcall_i (d' := d - 1) hd2 (c_X6_holdRow hd1 h 2 b n (by omega)) ?_
    rintro _ g ⟨rfl, hr⟩
    exact Or.inr (Or.inr ⟨⟨q1, q2, c3⟩, c4, hr, rfl⟩)
  · refine zcall_i (d' := d - 1) hd2 (c_X6_holdRow hd1 h 3 b n (by omega)) ?_
    rintro _ g ⟨rfl, hr⟩
    exact Or.inr (Or.inr ⟨⟨q1, q2, c3⟩, c4, hr, rfl⟩)
  · refine zcall_i (d' := d - 1) hd2 (c_X6_holdRow hd1 h 4 b n (by omega)) ?_
    rintro _ g ⟨rfl, hr⟩
    exact Or.inr (Or.inr ⟨⟨q1, q2, c3⟩, c4, hr, rfl⟩)
  · refine zcall_i (d' := d - 1) hd2 (c_X6_holdRow hd1 h 5 b n (by omega)) ?_
    rintro _ g ⟨rfl, hr⟩
    exact Or.inr (Or.inr ⟨⟨q1, q2, c3⟩, c4, hr, rfl⟩)
def rwM (h g : zH) (k : Nat) (b n : Int) (j : Nat) : Prop := g.1 = (setI (setI h 78 k (50 + b)) 79 k n).1 ∧ (∀ c, c ≠ 80 → g.2 c = h.2 c) ∧ ∀ i, g.2 80 i = if 60 * k ≤ i ∧ i < j then 0 else h.2 80 i
theorem rwM_s {h g : zH} {k j : Nat} {b n : Int} (hr : rwM h g k b n j) (hj : 60 * k ≤ j) : rwM h (setL g 80 j 0) k b n (j + 1) := by
  obtain ⟨a, b, c⟩ := hr
  refine ⟨a, fun c' hc => funext fun i => ?_, fun i => ?_⟩
  · rw [setL_at, if_neg (fun z => hc z.1), b c' hc]
  · rw [setL_at]
    by_cases q : i = j
    · rw [if_pos ⟨rfl, q⟩, if_pos (by omega)]
    · rw [if_neg (fun z => q z.2), c i]
      by_cases q2 : 60 * k ≤ i ∧ i < j
      · rw [if_pos q2, if_pos (by omega)]
      · rw [if_neg q2, if_neg (by omega)]
theorem c_X9_row {d : Nat} (hd : 4 ≤ d) (h : zH) (a b n : Int) (ha : inR a) (hb : inR b) (hn : inR n) :
    zC d k_X9_row [sR 52, sI a, sI b, sI n] h (fun o g => (¬ okR a b n ∧ g = h ∧ o = some (sI (-1))) ∨ (okR a b n ∧ n < 0 ∧ g = h ∧ o = some (sI (-14))) ∨ (okR a b n ∧ 0 ≤ n ∧ rwM h g a.toNat b n (60 * a.toNat + 60) ∧ o = some (sI 1))) := by
  refine zC_of (by decide +kernel) (Nat.le_of_ble_eq_true rfl) (fun X C E => ?_)
  have loop : okR a b n → 0 ≤ n → ∀ (f j : Nat) (H : zH), j + f = 60 * a.toNat + 60 → 60 * a.toNat ≤ j → rwM h H a.toNat b n j → zJ X 57 [some (sR 52), some (sI a), some (sI b), some (sI n), some (sI j)] [] H := by
    intro q hn0 f
    have q1 := q.1
    induction f with
    | zero =>
      intro j H hj hj2 hr
      refine zrun_sound t_X9_row C E [] 60 _ _ _ _ ?_
      refine And.intro (by omega) (And.intro (by omega) (And.intro (fun c => ?_) (fun c => absurd (by omega) c)))
      refine Or.inr (Or.inr ⟨q, hn0, ?_, rfl⟩)
      have : j = 60 * a.toNat + 60 := by omega
      subst this
      exact hr
    | succ f ih =>
      intro j H hj hj2 hr
      refine zrun_sound t_X9_row C E [57] 60 _ _ _ _ ?_
      refine And.intro (by omega) (And.intro (by omega) (And.intro (fun c => absurd c (by omega)) (fun c => ?_)))
      refine And.intro (by omega) (And.intro (by omega) ?_)
      exact zJ_le (ih (j + 1) _ (by omega) (by omega) (rwM_s hr hj2)) (And.intro rfl (And.intro rfl (And.intro rfl (And.intro rfl (And.intro rfl trivial))))) rfl rfl
  refine zrun_sound t_X9_row C E [57] 60 _ _ _ _ ?_
  refine zcall_i (d' := d - 1) (by omega) (c_X9_isShelf (by omega) h a ha) ?_
  rintro _ _ ⟨rfl, rfl⟩
  refine And.intro g_in (And.intro (fun c1 => Or.inl ⟨fun z => g_f c1 z.1, rfl, rfl⟩) (fun c1 => ?_))
  refine zcall_i (d' := d - 1) (by omega) (c_X9_within h (i2l b) 0 4 b 0 4 (i2l_toInt hb) (by decide) (by decide)) ?_
  rintro _ _ ⟨rfl, rfl⟩
  refine And.intro g_in (And.intro (fun c2 => Or.inl ⟨fun z => g_f c2 z.2.1, rfl, rfl⟩) (fun c2 => ?_))
  have q1 := g_t c1
  have q2 := g_t c2
  refine And.intro hn (And.intro (by omega) (And.intro (fun c3 => ?_) (fun c3 => Or.inl ⟨fun z => c3 z.2.2, rfl, rfl⟩)))
  refine And.intro hn (And.intro (fun c4 => ?_) (fun c4 => Or.inr (Or.inl ⟨⟨q1, q2, c3⟩, by omega, rfl, rfl⟩)))
  have k0 := q1.1
  have k1 : a < 6 := by omega
  refine And.intro k0 (And.intro k1 (And.intro k0 (And.intro k1 ?_)))
  refine zJ_le (loop ⟨q1, q2, c3⟩ c4 60 (60 * a.toNat) _ (by omega) (by omega) ⟨rfl, fun c _ => rfl, fun i => by rw [if_neg (by omega)]; rfl⟩) (And.intro rfl (And.intro rfl (And.intro rfl (And.intro rfl (And.intro (congrArg sI (by omega)) trivial))))) rfl rfl
theorem pr_row {d : Nat} (hd : 4 ≤ d) {a b n : Int} (ha : inR a) (hb : inR b) (hn : inR n) : Pair2 d k_X8_row k_X9_row [sI a, sI b, sI n] := fun h hI => by
  have i9 := hI.1.2.2.2.2.2.2.2.2.1
  refine zC_mono (c_X8_row hd h a b n ha hb hn) ?_
  rintro o g (⟨q, rfl, rfl⟩ | ⟨q, q2, rfl, rfl⟩ | ⟨q, q2, hr, rfl⟩)
  · refine ⟨_, rfl, zC_mono (c_X9_row hd g a b n ha hb hn) ?_⟩
    rintro o g' (⟨z, rfl, rfl⟩ | ⟨z, z2, rfl, rfl⟩ | ⟨z, z2, zr, rfl⟩)
    · exact ⟨rfl, hI⟩
    · exact absurd z q
    · exact absurd z q
  · refine ⟨_, rfl, zC_mono (c_X9_row hd g a b n ha hb hn) ?_⟩
    rintro o g' (⟨z, rfl, rfl⟩ | ⟨z, z2, rfl, rfl⟩ | ⟨z, z2, zr, rfl⟩)
    · exact absurd q z
    · exact ⟨rfl, hI⟩
    · omega
  · refine ⟨_, rfl, zC_mono (c_X9_row hd g a b n ha hb hn) ?_⟩
    rintro o g' (⟨z, -, -⟩ | ⟨z, z2, -, -⟩ | ⟨z, z2, zr, rfl⟩)
    · exact absurd q z
    · omega
    · obtain ⟨⟨qa, qa2⟩, qb, qn⟩ := q
      have k6 : a.toNat < 6 := by omega
      obtain ⟨r1, r2, r3, r4, r5⟩ := hr
      obtain ⟨s1, s2, s3⟩ := zr
      have gc : ∀ c, c ≠ 78 → c ≠ 79 → g'.1 c = g.1 c := fun c n1 n2 => by rw [s1, setI_ne n2, setI_ne n1]
      refine ⟨rfl, Inv_shf hI (fun c hc => ?_) (fun k hk => ?_)⟩
      · obtain ⟨n1, n2, n3, n4⟩ := shB_no k6 hc
        rw [gc c n2 n3]
        exact funext fun i => r1 c i n4 (fun z => n1 z.1)
      · have e7 : g'.1 7 1 = h.1 7 1 := by rw [gc 7 (by omega) (by omega), r1 7 1 (by omega) (by omega)]
        have e78 : g'.1 78 k = if k = a.toNat then 50 + b else h.1 78 k := by
          rw [s1, setI_ne (by omega), setI_at]
          by_cases e : k = a.toNat
          · rw [if_pos ⟨rfl, e⟩, if_pos e]
          · rw [if_neg (fun z => e z.2), if_neg e, r1 78 k (by omega) (by omega)]
        have e79 : g'.1 79 k = if k = a.toNat then n else h.1 79 k := by
          rw [s1, setI_at]
          by_cases e : k = a.toNat
          · rw [if_pos ⟨rfl, e⟩, if_pos e]
          · rw [if_neg (fun z => e z.2), if_neg e, setI_ne (by omega), r1 79 k (by omega) (by omega)]
        have eL : g'.2 (46 + k) = g.2 (46 + k) := s2 _ (by omega)
        by_cases e : k = a.toNat
        · rw [e78, e79, if_pos e, if_pos e, gc _ (by omega) (by omega), e, r2, r3]
          refine Or.inr (Or.inr ⟨qb, rfl, rfl, ⟨q2, qn⟩, fun i hi => ?_⟩)
          rw [s3, if_pos (by omega), ← e, eL, e, r5 i hi]
        · have f8 : g'.1 (8 + k) = h.1 (8 + k) := by
            rw [gc _ (by omega) (by omega)]
            exact funext fun i => r1 _ i (by omega) (by omega)
          rw [f8, e7, e78, e79, if_neg e, if_neg e, eL, r4 _ (by omega)]
          rcases i9 k hk with y | y | ⟨y1, y2, y3, y4, y5⟩
          · exact Or.inl y
          · exact Or.inr (Or.inl y)
          · refine Or.inr (Or.inr ⟨y1, y2, y3, y4, fun i hi => ?_⟩)
            rw [s3, if_neg (by omega), r4 80 (by omega)]
            exact y5 i hi
