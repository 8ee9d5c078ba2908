/-! ===== what both sides are is kept by what lays out only ===== -/
def Inv2 (h : zH) : Prop := Inv h ∧ (0 ≤ h.1 52 33 ∧ h.1 52 33 ≤ 200)
def own52 : Nat → Bool := fun c => c == 3 || c == 4 || c == 33 || c == 34 || c == 35 || c == 36 || c == 37 || c == 38 || c == 52 || c == 69 || c == 70 || c == 71 || c == 72 || c == 73
theorem Inv_keep {h g : zH} (hI : Inv2 h) (hs : Isea g) (e : ∀ c, own52 c = false → g.1 c = h.1 c) (eL : ∀ c, own52 c = false → g.2 c = h.2 c) (e5 : ∀ i, i ≠ 27 → g.1 52 i = h.1 52 i) : Inv2 g := by
  obtain ⟨⟨i1, i2, -, i4, i5, i6, i7, i8, i9, i10⟩, i11⟩ := hI
  refine ⟨⟨?_, ?_, hs, ?_, ?_, ?_, ?_, ?_, ?_, ?_⟩, ?_⟩
  · unfold VV Vn Vt Vw Vp Vy Vh Vs at *
    rw [e 2 rfl, e 19 rfl, e 20 rfl, e 21 rfl, e 22 rfl, e 23 rfl, e 24 rfl, e 25 rfl, e 26 rfl, e 27 rfl, e 28 rfl, e 29 rfl, e 30 rfl, e 31 rfl, e 32 rfl]
    exact i1
  · unfold Ieq at *
    rw [e 2 rfl, e 19 rfl, e 20 rfl, e 21 rfl, e 22 rfl, e 23 rfl, e 24 rfl, e 25 rfl, e 26 rfl, e 27 rfl, e 28 rfl, e 29 rfl, e 30 rfl, e 31 rfl, e 32 rfl, e 53 rfl, e 58 rfl, e 59 rfl, e 60 rfl, e 63 rfl, e 64 rfl, e 65 rfl, e 66 rfl, e 67 rfl, e 68 rfl, e5 8 (by omega), e5 16 (by omega), e5 20 (by omega), e5 21 (by omega), e5 25 (by omega), e5 26 (by omega)]
    exact i2
  · unfold Itape at *
    rw [e 1 rfl, e 16 rfl, e 57 rfl, e5 7 (by omega)]
    exact i4
  · unfold Iplan at *
    rw [e 2 rfl, e 5 rfl, e 39 rfl, e 74 rfl, e5 37 (by omega)]
    exact i5
  · unfold Ichg at *
    rw [e 6 rfl, e 40 rfl, e 41 rfl, e 42 rfl, e 43 rfl, e 54 rfl, e 55 rfl, e 56 rfl, e5 5 (by omega), e5 4 (by omega)]
    exact i6
  · unfold Imark at *
    rw [e 0 rfl, e 2 rfl, e 15 rfl, e 75 rfl, e5 42 (by omega)]
    exact i7
  · unfold Ibod at *
    rw [e 7 rfl, e 44 rfl, e 45 rfl, e 76 rfl, e 77 rfl, e5 44 (by omega), e5 47 (by omega)]
    exact i8
  · intro k hk
    have a := e (8 + k) (by simp [own52]; omega)
    have b := eL (46 + k) (by simp [own52]; omega)
    rw [a, b, e 7 rfl, e 78 rfl, e 79 rfl, eL 80 rfl]
    exact i9 k hk
  · unfold Imisc at *
    rw [e5 31 (by omega), e5 32 (by omega), e5 34 (by omega)]
    exact i10
  · rw [e5 33 (by omega)]
    exact i11
theorem Inv_K {h g : zH} (hI : Inv2 h) (hs : Isea g) (hf : fr frK h g) : Inv2 g := by
  refine Inv_keep hI hs (fun c q => funext fun i => (hf c i ?_).1) (fun c q => funext fun i => (hf c i ?_).2) (fun i q => (hf 52 i ?_).1)
  · simp [own52] at q
    simp [frK]
    omega
  · simp [own52] at q
    simp [frK]
    omega
  · simp [frK]
theorem Inv_R {h g : zH} (hI : Inv2 h) (hf : fr frR h g) : Inv2 g := by
  have e := fun c (q : ∀ i, frR c i = false) => (funext fun i => (hf c i (q i)).1 : g.1 c = h.1 c)
  refine Inv_keep hI (Isea_c hI.1.2.2.1 (fun c a b => e c (fun i => by simp [frR]; omega)) (e 2 (fun _ => rfl)) ⟨by rw [e 3 (fun _ => rfl)], by rw [e 3 (fun _ => rfl)]⟩ (e 33 (fun _ => rfl)) (e 34 (fun _ => rfl))) (fun c q => funext fun i => (hf c i ?_).1) (fun c q => funext fun i => (hf c i ?_).2) (fun i q => (hf 52 i ?_).1)
  · simp [own52] at q
    simp [frR]
    omega
  · simp [own52] at q
    simp [frR]
    omega
  · simp [frR]
    exact q
/-- both answer the same, and both are kept -/
def Pair (d : Nat) (kc km : zM) (As : List zV) : Prop := ∀ h : zH, Inv2 h → zC d kc (sR 0 :: As) h (fun o g => ∃ r : Int, o = some (sI r) ∧ Inv2 g ∧ zC d km (sR 52 :: As) g (fun o' g' => o' = some (sI r) ∧ Inv2 g'))
theorem SD_K {h g : zH} (hf : fr frK h g) (st s : Int) : SD g st s = SD h st s := by
  have e := fun c (q : ∀ i, frK c i = false) => (funext fun i => (hf c i (q i)).1 : g.1 c = h.1 c)
  unfold SD SQ hiQ seaC tkC
  rw [e 2 (fun _ => rfl), e 19 (fun _ => rfl), e 20 (fun _ => rfl), e 21 (fun _ => rfl), e 22 (fun _ => rfl), e 23 (fun _ => rfl), e 25 (fun _ => rfl), e 26 (fun _ => rfl), e 27 (fun _ => rfl), e 28 (fun _ => rfl), e 29 (fun _ => rfl), e 30 (fun _ => rfl), e 31 (fun _ => rfl), e 32 (fun _ => rfl)]
theorem soonA_K {h g : zH} (hf : fr frK h g) {a b c s r : Int} (x : soonA g a b c s r) : soonA h a b c s r := by
  have e2 : g.1 2 = h.1 2 := funext fun i => (hf 2 i rfl).1
  unfold soonA okF okP okT okW at *
  rw [SD_K hf, e2] at x
  exact x
theorem lastA_K {h g : zH} (hf : fr frK h g) {a c s r : Int} (x : lastA g a c s r) : lastA h a c s r := by
  have e2 : g.1 2 = h.1 2 := funext fun i => (hf 2 i rfl).1
  unfold lastA ok2 okT okW at *
  rw [SD_K hf, e2] at x
  exact x
theorem pr_soon {d : Nat} (hd : 6 ≤ d) {a b c e : Int} (ha : inR a) (hb : inR b) (hc : inR c) (he : inR e) : Pair d k_X8_soon k_X9_soon [sI a, sI b, sI c, sI e] := fun h hI => by
  refine zC_mono (c_X8_soon hd h a b c e ha hb hc he hI.1.1 hI.1.2.2.1) ?_
  rintro o g ⟨hf, hs, r, rfl, hr⟩
  have hg := Inv_K hI hs hf
  refine ⟨r, rfl, hg, zC_mono (c_X9_soon hd g a b c e ha hb hc he hg.1.1 hg.1.2.1 hg.1.2.2.2.2.2.2.2.2.2 hg.2) ?_⟩
  rintro o g' ⟨hf', r', rfl, hr'⟩
  rw [soonA_u hr (soonA_K hf hr')]
  exact ⟨rfl, Inv_R hg hf'⟩
theorem pr_last {d : Nat} (hd : 6 ≤ d) {a c e : Int} (ha : inR a) (hc : inR c) (he : inR e) : Pair d k_X8_last k_X9_last [sI a, sI c, sI e] := fun h hI => by
  refine zC_mono (c_X8_last hd h a c e ha hc he hI.1.1 hI.1.2.2.1) ?_
  rintro o g ⟨hf, hs, r, rfl, hr⟩
  have hg := Inv_K hI hs hf
  refine ⟨r, rfl, hg, zC_mono (c_X9_last hd g a c e ha hc he hg.1.1 hg.1.2.1 hg.1.2.2.2.2.2.2.2.2.2 hg.2) ?_⟩
  rintro o g' ⟨hf', r', rfl, hr'⟩
  rw [lastA_u hr (lastA_K hf hr')]
  exact ⟨rfl, Inv_R hg hf'⟩
