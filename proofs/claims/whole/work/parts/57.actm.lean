/-! the reference's acts -/
def modOK (h : zH) (K N : Int) : Prop := h.1 52 48 = K ∧ h.1 52 49 = N ∧ 0 ≤ h.1 52 47
theorem modOK_L {h : zH} {K N : Int} {l : List Int} (hb : modOK h K N) : modOK (nML h l) K N := by
  obtain ⟨a, b, c⟩ := hb
  refine ⟨(ntL_cc (by decide) (by decide) l h).trans a, (ntL_cc (by decide) (by decide) l h).trans b, ?_⟩
  rw [ntL_ran]
  omega
theorem modOK_1 {h : zH} {b : Int} {K N : Int} (hb : modOK h K N) : modOK (nM h b) K N := modOK_L (l := [b]) hb
theorem c_begins {d : Nat} (h : zH) (b : Int) (hr : 0 ≤ h.1 52 47 ∧ h.1 52 47 ≤ 1000) : zC d k_X9_begins [sR 52, sI b] h (fun o g => o = none ∧ g = nM h b) := by
  refine zC_of (by decide +kernel) (Nat.le_of_ble_eq_true rfl) (fun X C E => zrun_sound t_X9_begins C E [] 60 _ _ _ _ ?_)
  unfold nM ntG
  refine And.intro (by omega) (And.intro (by omega) (And.intro (fun c => ?_) (fun c => ?_)))
  · rw [if_neg (Int.not_lt.mpr c)]
    exact And.intro rfl rfl
  · rw [if_pos (Int.not_le.mp c)]
    exact And.intro hr.1 (And.intro (Int.not_le.mp c) (And.intro rfl rfl))
theorem zC_arg {d : Nat} {k : zM} {a b x : Int} {h : zH} {Q : zQ} (e : a = b) (hC : zC d k [sR 52, sI b, sI x] h Q) : zC d k [sR 52, sI a, sI x] h Q := by
  subst e
  exact hC
def mC (K N : Int) (D : Nat) (y : zM) (k : Int) (l : List Int) (V : Int → Int) : Prop := ∀ (d : Nat) (h : zH) (x : Int), D ≤ d → modOK h K N → h.1 52 47 + (l.length : Int) ≤ 1000 → zC d y [sR 52, sI k, sI x] h (fun o g => g = nML h l ∧ o = some (sI (V x)))
theorem mC_w {K N : Int} {D D' : Nat} {y : zM} {k : Int} {l : List Int} {V : Int → Int} (h : mC K N D y k l V) (hD : D ≤ D') : mC K N D' y k l V := fun d g x a1 a2 a3 => h d g x (by omega) a2 a3
theorem g0 {K N : Int} {k : Int} (hk : inR k) (h5 : ¬ k = 5) (h1 : ¬ k = 1) : mC K N 2 k_X9_goesAs k ([1]) (fun x => x + N) := by
  intro d h x hD hbo hran
  have hb1 := modOK_1 (b := 1) hbo
  have hr0 := hbo.2.2
  have hr1 : (nM h 1).1 52 47 = h.1 52 47 + 1 := ntG_ran
  simp only [List.length_cons, List.length_append, List.length_nil] at hran
  refine zC_of (by decide +kernel) (Nat.le_of_ble_eq_true rfl) (fun X C E => zrun_sound t_X9_goesAs C E [] 60 _ _ _ _ ?_)
  refine And.intro hk (And.intro (by decide) (And.intro (fun _ => ?_) (fun c => absurd c h5)))
  refine And.intro hk (And.intro (by decide) (And.intro (fun _ => ?_) (fun c => absurd c h1)))
  refine zcall_i (d' := d - 1) (by omega) (c_begins h 1 (by omega)) ?_
  rintro _ _ ⟨rfl, rfl⟩
  refine And.intro rfl ?_
  show some (sI (x + (nM h 1).1 52 49)) = _
  rw [hb1.2.1]
theorem g1 {K N : Int} : mC K N 3 k_X9_goesAs 1 ([20, 1]) (fun x => x + N + 3) := by
  intro d h x hD hbo hran
  have hb1 := modOK_1 (b := 20) hbo
  have hr0 := hbo.2.2
  have hr1 : (nM h 20).1 52 47 = h.1 52 47 + 1 := ntG_ran
  simp only [List.length_cons, List.length_append, List.length_nil] at hran
  refine zC_of (by decide +kernel) (Nat.le_of_ble_eq_true rfl) (fun X C E => zrun_sound t_X9_goesAs C E [] 60 _ _ _ _ ?_)
  refine And.intro (by decide) (And.intro (by decide) (And.intro (fun _ => ?_) (fun c => absurd c (by decide))))
  refine And.intro (by decide) (And.intro (by decide) (And.intro (fun c => absurd rfl c) (fun _ => ?_)))
  refine zcall_i (d' := d - 1) (by omega) (c_begins h 20 (by omega)) ?_
  rintro _ _ ⟨rfl, rfl⟩
  refine zcall_i (d' := d - 1) (by omega) ((g0 (k := 0) (by decide) (by decide) (by decide)) (d - 1) _ x (by omega) hb1 (by rw [hr1]; (try simp only [List.length_cons, List.length_append, List.length_nil]); omega)) ?_
  rintro _ _ ⟨rfl, rfl⟩
  exact And.intro rfl rfl
theorem g5 {K N : Int} : mC K N 4 k_X9_goesAs 5 ([60, 20, 1]) (fun x => (x + N + 3) * 2) := by
  intro d h x hD hbo hran
  have hb1 := modOK_1 (b := 60) hbo
  have hr0 := hbo.2.2
  have hr1 : (nM h 60).1 52 47 = h.1 52 47 + 1 := ntG_ran
  simp only [List.length_cons, List.length_append, List.length_nil] at hran
  refine zC_of (by decide +kernel) (Nat.le_of_ble_eq_true rfl) (fun X C E => zrun_sound t_X9_goesAs C E [] 60 _ _ _ _ ?_)
  refine And.intro (by decide) (And.intro (by decide) (And.intro (fun c => absurd rfl c) (fun _ => ?_)))
  refine zcall_i (d' := d - 1) (by omega) (c_begins h 60 (by omega)) ?_
  rintro _ _ ⟨rfl, rfl⟩
  refine zcall_i (d' := d - 1) (by omega) (g1 (d - 1) _ x (by omega) hb1 (by rw [hr1]; (try simp only [List.length_cons, List.length_append, List.length_nil]); omega)) ?_
  rintro _ _ ⟨rfl, rfl⟩
  exact And.intro rfl rfl
theorem gK {K N : Int} (hK : 0 ≤ K ∧ K ≤ 6) : mC K N 5 k_X9_goesAs K (lGo K) (fun x => vGo K N x) := by
  rcases K_of hK with rfl | rfl | rfl | rfl | rfl | rfl | rfl
  · exact mC_w (g0 (by decide) (by decide) (by decide)) (by decide)
  · exact mC_w g1 (by decide)
  · exact mC_w (g0 (by decide) (by decide) (by decide)) (by decide)
  · exact mC_w (g0 (by decide) (by decide) (by decide)) (by decide)
  · exact mC_w (g0 (by decide) (by decide) (by decide)) (by decide)
  · exact mC_w g5 (by decide)
  · exact mC_w (g0 (by decide) (by decide) (by decide)) (by decide)
theorem w0 {K N : Int} {k : Int} (hk : inR k) (h3 : ¬ k = 3) (h5 : ¬ k = 5) : mC K N 2 k_X9_wetsAs k ([11]) (fun x => xor32 x N) := by
  intro d h x hD hbo hran
  have hb1 := modOK_1 (b := 11) hbo
  have hr0 := hbo.2.2
  have hr1 : (nM h 11).1 52 47 = h.1 52 47 + 1 := ntG_ran
  simp only [List.length_cons, List.length_append, List.length_nil] at hran
  refine zC_of (by decide +kernel) (Nat.le_of_ble_eq_true rfl) (fun X C E => zrun_sound t_X9_wetsAs C E [] 60 _ _ _ _ ?_)
  refine And.intro hk (And.intro (by decide) (And.intro (fun _ => ?_) (fun c => absurd c h3)))
  refine And.intro hk (And.intro (by decide) (And.intro (fun _ => ?_) (fun c => absurd c h5)))
  refine zcall_i (d' := d - 1) (by omega) (c_begins h 11 (by omega)) ?_
  rintro _ _ ⟨rfl, rfl⟩
  refine And.intro rfl ?_
  show some (sI (xor32 x ((nM h 11).1 52 49))) = _
  rw [hb1.2.1]
theorem w3 {K N : Int} : mC K N 3 k_X9_wetsAs 3 ([40, 11]) (fun x => xor32 x N * 3) := by
  intro d h x hD hbo hran
  have hb1 := modOK_1 (b := 40) hbo
  have hr0 := hbo.2.2
  have hr1 : (nM h 40).1 52 47 = h.1 52 47 + 1 := ntG_ran
  simp only [List.length_cons, List.length_append, List.length_nil] at hran
  refine zC_of (by decide +kernel) (Nat.le_of_ble_eq_true rfl) (fun X C E => zrun_sound t_X9_wetsAs C E [] 60 _ _ _ _ ?_)
  refine And.intro (by decide) (And.intro (by decide) (And.intro (fun c => absurd rfl c) (fun _ => ?_)))
  refine zcall_i (d' := d - 1) (by omega) (c_begins h 40 (by omega)) ?_
  rintro _ _ ⟨rfl, rfl⟩
  refine zcall_i (d' := d - 1) (by omega) ((w0 (k := 2) (by decide) (by decide) (by decide)) (d - 1) _ x (by omega) hb1 (by rw [hr1]; (try simp only [List.length_cons, List.length_append, List.length_nil]); omega)) ?_
  rintro _ _ ⟨rfl, rfl⟩
  exact And.intro rfl rfl
theorem w5 {K N : Int} (hK : 0 ≤ K ∧ K ≤ 6) : mC K N 7 k_X9_wetsAs 5 (61 :: 11 :: lGo K) (fun x => xor32 x N + vGo K N 2) := by
  intro d h x hD hbo hran
  have hb1 := modOK_1 (b := 61) hbo
  have hr0 := hbo.2.2
  have hr1 : (nM h 61).1 52 47 = h.1 52 47 + 1 := ntG_ran
  simp only [List.length_cons, List.length_append, List.length_nil] at hran
  refine zC_of (by decide +kernel) (Nat.le_of_ble_eq_true rfl) (fun X C E => zrun_sound t_X9_wetsAs C E [] 60 _ _ _ _ ?_)
  refine And.intro (by decide) (And.intro (by decide) (And.intro (fun _ => ?_) (fun c => absurd c (by decide))))
  refine And.intro (by decide) (And.intro (by decide) (And.intro (fun c => absurd rfl c) (fun _ => ?_)))
  refine zcall_i (d' := d - 1) (by omega) (c_begins h 61 (by omega)) ?_
  rintro _ _ ⟨rfl, rfl⟩
  refine zcall_i (d' := d - 1) (by omega) ((w0 (k := 1) (by decide) (by decide) (by decide)) (d - 1) _ x (by omega) hb1 (by rw [hr1]; (try simp only [List.length_cons, List.length_append, List.length_nil]); omega)) ?_
  rintro _ _ ⟨rfl, rfl⟩
  refine zcall_i (d' := d - 1) (by omega) (zC_arg (modOK_L hb1).1 (gK hK (d - 1) _ 2 (by omega) (modOK_L hb1) (by rw [ntL_ran, hr1]; (try simp only [List.length_cons, List.length_append, List.length_nil]); omega))) ?_
  rintro _ _ ⟨rfl, rfl⟩
  exact And.intro (ntL_app _ _ _) rfl
theorem wK {K N : Int} (hK : 0 ≤ K ∧ K ≤ 6) : mC K N 8 k_X9_wetsAs K (lWe K) (fun x => vWe K N x) := by
  rcases K_of hK with rfl | rfl | rfl | rfl | rfl | rfl | rfl
  · exact mC_w (w0 (by decide) (by decide) (by decide)) (by decide)
  · exact mC_w (w0 (by decide) (by decide) (by decide)) (by decide)
  · exact mC_w (w0 (by decide) (by decide) (by decide)) (by decide)
  · exact mC_w w3 (by decide)
  · exact mC_w (w0 (by decide) (by decide) (by decide)) (by decide)
  · exact mC_w (w5 (by decide)) (by decide)
  · exact mC_w (w0 (by decide) (by decide) (by decide)) (by decide)
theorem a0 {K N : Int} (hK : 0 ≤ K ∧ K ≤ 6) {k : Int} (hk : inR k) (h3 : ¬ k = 3) (h2 : ¬ k = 2) (h6 : ¬ k = 6) : mC K N 8 k_X9_waitsAs k (10 :: lGo K) (fun x => vGo K N x * 2) := by
  intro d h x hD hbo hran
  have hb1 := modOK_1 (b := 10) hbo
  have hr0 := hbo.2.2
  have hr1 : (nM h 10).1 52 47 = h.1 52 47 + 1 := ntG_ran
  simp only [List.length_cons, List.length_append, List.length_nil] at hran
  refine zC_of (by decide +kernel) (Nat.le_of_ble_eq_true rfl) (fun X C E => zrun_sound t_X9_waitsAs C E [] 60 _ _ _ _ ?_)
  refine And.intro hk (And.intro (by decide) (And.intro (fun _ => ?_) (fun c => absurd c h3)))
  refine And.intro hk (And.intro (by decide) (And.intro (fun _ => ?_) (fun c => absurd c h2)))
  refine And.intro hk (And.intro (by decide) (And.intro (fun _ => ?_) (fun c => absurd c h6)))
  refine zcall_i (d' := d - 1) (by omega) (c_begins h 10 (by omega)) ?_
  rintro _ _ ⟨rfl, rfl⟩
  refine zcall_i (d' := d - 1) (by omega) (zC_arg hb1.1 (gK hK (d - 1) _ x (by omega) hb1 (by rw [hr1]; (try simp only [List.length_cons, List.length_append, List.length_nil]); omega))) ?_
  rintro _ _ ⟨rfl, rfl⟩
  exact And.intro rfl rfl
theorem a2 {K N : Int} (hK : 0 ≤ K ∧ K ≤ 6) : mC K N 9 k_X9_waitsAs 2 (30 :: 10 :: lGo K) (fun x => -(vGo K N x * 2)) := by
  intro d h x hD hbo hran
  have hb1 := modOK_1 (b := 30) hbo
  have hr0 := hbo.2.2
  have hr1 : (nM h 30).1 52 47 = h.1 52 47 + 1 := ntG_ran
  simp only [List.length_cons, List.length_append, List.length_nil] at hran
  refine zC_of (by decide +kernel) (Nat.le_of_ble_eq_true rfl) (fun X C E => zrun_sound t_X9_waitsAs C E [] 60 _ _ _ _ ?_)
  refine And.intro (by decide) (And.intro (by decide) (And.intro (fun _ => ?_) (fun c => absurd c (by decide))))
  refine And.intro (by decide) (And.intro (by decide) (And.intro (fun c => absurd rfl c) (fun _ => ?_)))
  refine zcall_i (d' := d - 1) (by omega) (c_begins h 30 (by omega)) ?_
  rintro _ _ ⟨rfl, rfl⟩
  refine zcall_i (d' := d - 1) (by omega) ((a0 (k := 0) hK (by decide) (by decide) (by decide) (by decide)) (d - 1) _ x (by omega) hb1 (by rw [hr1]; (try simp only [List.length_cons, List.length_append, List.length_nil]); omega)) ?_
  rintro _ _ ⟨rfl, rfl⟩
  exact And.intro rfl rfl
theorem a3 {K N : Int} (hK : 0 ≤ K ∧ K ≤ 6) : mC K N 10 k_X9_waitsAs 3 (41 :: 30 :: 10 :: lGo K) (fun x => -(vGo K N (x + 1) * 2)) := by
  intro d h x hD hbo hran
  have hb1 := modOK_1 (b := 41) hbo
  have hr0 := hbo.2.2
  have hr1 : (nM h 41).1 52 47 = h.1 52 47 + 1 := ntG_ran
  simp only [List.length_cons, List.length_append, List.length_nil] at hran
  refine zC_of (by decide +kernel) (Nat.le_of_ble_eq_true rfl) (fun X C E => zrun_sound t_X9_waitsAs C E [] 60 _ _ _ _ ?_)
  refine And.intro (by decide) (And.intro (by decide) (And.intro (fun c => absurd rfl c) (fun _ => ?_)))
  refine zcall_i (d' := d - 1) (by omega) (c_begins h 41 (by omega)) ?_
  rintro _ _ ⟨rfl, rfl⟩
  refine zcall_i (d' := d - 1) (by omega) (a2 hK (d - 1) _ (x + 1) (by omega) hb1 (by rw [hr1]; (try simp only [List.length_cons, List.length_append, List.length_nil]); omega)) ?_
  rintro _ _ ⟨rfl, rfl⟩
  exact And.intro rfl rfl
theorem a6 {K N : Int} (hK : 0 ≤ K ∧ K ≤ 6) : mC K N 11 k_X9_waitsAs 6 (70 :: (10 :: lGo K ++ lWe K)) (fun x => vGo K N x * 2 - vWe K N 2) := by
  intro d h x hD hbo hran
  have hb1 := modOK_1 (b := 70) hbo
  have hr0 := hbo.2.2
  have hr1 : (nM h 70).1 52 47 = h.1 52 47 + 1 := ntG_ran
  simp only [List.length_cons, List.length_append, List.length_nil] at hran
  refine zC_of (by decide +kernel) (Nat.le_of_ble_eq_true rfl) (fun X C E => zrun_sound t_X9_waitsAs C E [] 60 _ _ _ _ ?_)
  refine And.intro (by decide) (And.intro (by decide) (And.intro (fun _ => ?_) (fun c => absurd c (by decide))))
  refine And.intro (by decide) (And.intro (by decide) (And.intro (fun _ => ?_) (fun c => absurd c (by decide))))
  refine And.intro (by decide) (And.intro (by decide) (And.intro (fun c => absurd rfl c) (fun _ => ?_)))
  refine zcall_i (d' := d - 1) (by omega) (c_begins h 70 (by omega)) ?_
  rintro _ _ ⟨rfl, rfl⟩
  refine zcall_i (d' := d - 1) (by omega) ((a0 (k := 0) hK (by decide) (by decide) (by decide) (by decide)) (d - 1) _ x (by omega) hb1 (by rw [hr1]; (try simp only [List.length_cons, List.length_append, List.length_nil]); omega)) ?_
  rintro _ _ ⟨rfl, rfl⟩
  refine zcall_i (d' := d - 1) (by omega) (zC_arg (modOK_L hb1).1 (wK hK (d - 1) _ 2 (by omega) (modOK_L hb1) (by rw [ntL_ran, hr1]; (try simp only [List.length_cons, List.length_append, List.length_nil]); omega))) ?_
  rintro _ _ ⟨rfl, rfl⟩
  exact And.intro (ntL_app _ _ _) rfl
theorem aK {K N : Int} (hK : 0 ≤ K ∧ K ≤ 6) : mC K N 12 k_X9_waitsAs K (lWa K) (fun x => vWa K N x) := by
  rcases K_of hK with rfl | rfl | rfl | rfl | rfl | rfl | rfl
  · exact mC_w (a0 (by decide) (by decide) (by decide) (by decide) (by decide)) (by decide)
  · exact mC_w (a0 (by decide) (by decide) (by decide) (by decide) (by decide)) (by decide)
  · exact mC_w (a2 (by decide)) (by decide)
  · exact mC_w (a3 (by decide)) (by decide)
  · exact mC_w (a0 (by decide) (by decide) (by decide) (by decide) (by decide)) (by decide)
  · exact mC_w (a0 (by decide) (by decide) (by decide) (by decide) (by decide)) (by decide)
  · exact mC_w (a6 (by decide)) (by decide)
theorem t0 {K N : Int} (hK : 0 ≤ K ∧ K ≤ 6) {k : Int} (hk : inR k) (h4 : ¬ k = 4) : mC K N 14 k_X9_tellsAs k (2 :: (lWa K ++ lWe K)) (fun x => vWa K N x - vWe K N 1) := by
  intro d h x hD hbo hran
  have hb1 := modOK_1 (b := 2) hbo
  have hr0 := hbo.2.2
  have hr1 : (nM h 2).1 52 47 = h.1 52 47 + 1 := ntG_ran
  simp only [List.length_cons, List.length_append, List.length_nil] at hran
  refine zC_of (by decide +kernel) (Nat.le_of_ble_eq_true rfl) (fun X C E => zrun_sound t_X9_tellsAs C E [] 60 _ _ _ _ ?_)
  refine And.intro hk (And.intro (by decide) (And.intro (fun _ => ?_) (fun c => absurd c h4)))
  refine zcall_i (d' := d - 1) (by omega) (c_begins h 2 (by omega)) ?_
  rintro _ _ ⟨rfl, rfl⟩
  refine zcall_i (d' := d - 1) (by omega) (zC_arg hb1.1 (aK hK (d - 1) _ x (by omega) hb1 (by rw [hr1]; (try simp only [List.length_cons, List.length_append, List.length_nil]); omega))) ?_
  rintro _ _ ⟨rfl, rfl⟩
  refine zcall_i (d' := d - 1) (by omega) (zC_arg (modOK_L hb1).1 (wK hK (d - 1) _ 1 (by omega) (modOK_L hb1) (by rw [ntL_ran, hr1]; (try simp only [List.length_cons, List.length_append, List.length_nil]); omega))) ?_
  rintro _ _ ⟨rfl, rfl⟩
  exact And.intro (ntL_app _ _ _) rfl
theorem t4 {K N : Int} (hK : 0 ≤ K ∧ K ≤ 6) : mC K N 15 k_X9_tellsAs 4 (50 :: 2 :: (lWa K ++ lWe K)) (fun x => xor32 (vWa K N x - vWe K N 1) 5) := by
  intro d h x hD hbo hran
  have hb1 := modOK_1 (b := 50) hbo
  have hr0 := hbo.2.2
  have hr1 : (nM h 50).1 52 47 = h.1 52 47 + 1 := ntG_ran
  simp only [List.length_cons, List.length_append, List.length_nil] at hran
  refine zC_of (by decide +kernel) (Nat.le_of_ble_eq_true rfl) (fun X C E => zrun_sound t_X9_tellsAs C E [] 60 _ _ _ _ ?_)
  refine And.intro (by decide) (And.intro (by decide) (And.intro (fun c => absurd rfl c) (fun _ => ?_)))
  refine zcall_i (d' := d - 1) (by omega) (c_begins h 50 (by omega)) ?_
  rintro _ _ ⟨rfl, rfl⟩
  refine zcall_i (d' := d - 1) (by omega) (t0 (k := 0) hK (by decide) (by decide) (d - 1) _ x (by omega) hb1 (by rw [hr1]; (try simp only [List.length_cons, List.length_append, List.length_nil]); omega)) ?_
  rintro _ _ ⟨rfl, rfl⟩
  exact And.intro rfl rfl
theorem tK {K N : Int} (hK : 0 ≤ K ∧ K ≤ 6) : mC K N 16 k_X9_tellsAs K (lTe K) (fun x => vTe K N x) := by
  rcases K_of hK with rfl | rfl | rfl | rfl | rfl | rfl | rfl
  · exact mC_w (t0 (by decide) (by decide) (by decide)) (by decide)
  · exact mC_w (t0 (by decide) (by decide) (by decide)) (by decide)
  · exact mC_w (t0 (by decide) (by decide) (by decide)) (by decide)
  · exact mC_w (t0 (by decide) (by decide) (by decide)) (by decide)
  · exact mC_w (t4 (by decide)) (by decide)
  · exact mC_w (t0 (by decide) (by decide) (by decide)) (by decide)
  · exact mC_w (t0 (by decide) (by decide) (by decide)) (by decide)
def lAc (K a : Int) : List Int := if a = 0 then lGo K else if a = 1 then lWa K else if a = 2 then lWe K else lTe K
def vAc (K N a x : Int) : Int := if a = 0 then vGo K N x else if a = 1 then vWa K N x else if a = 2 then vWe K N x else vTe K N x
theorem lAc_ok {K a : Int} (hK : 0 ≤ K ∧ K ≤ 6) (ha : 0 ≤ a ∧ a ≤ 3) : (lAc K a).length ≤ 20 ∧ ∀ i : Nat, inR ((lAc K a).getD i 0) := by
  have key : ∀ l : List Int, (∀ b ∈ l, inR b) → ∀ i : Nat, inR (l.getD i 0) := by
    intro l hl i
    rw [List.getD_eq_getElem?_getD]
    cases q : l[i]? with
    | none => exact ⟨by decide, by decide⟩
    | some b => exact hl b (List.mem_of_getElem? q)
  rcases K_of hK with rfl | rfl | rfl | rfl | rfl | rfl | rfl <;> rcases (by omega : a = 0 ∨ a = 1 ∨ a = 2 ∨ a = 3) with rfl | rfl | rfl | rfl <;> exact ⟨by decide, key _ (by decide)⟩
def acC (h : zH) (b : Int) : zH := setI (setI h 7 3 0) 7 4 b
def acM (h : zH) (b K : Int) : zH := setI (setI (setI h 52 47 0) 52 48 K) 52 49 b
set_option maxHeartbeats 1000000 in
theorem c_X0_perform {d : Nat} (hd : 40 ≤ d) (h : zH) (b a x K n : Int) (hb : inR b) (ha : inR a) (en : h.1 7 1 = n) (hn : 0 ≤ n ∧ n ≤ 50) (hK : (0 ≤ b ∧ b < n) → h.1 44 b.toNat = K ∧ 0 ≤ K ∧ K ≤ 6) :
    zC d k_X0_perform [sR 7, sI b, sI a, sI x] h (fun o g => (¬ ((0 ≤ b ∧ b < n) ∧ 0 ≤ a ∧ a ≤ 3) ∧ g = setI h 7 3 0 ∧ o = some (sI 0)) ∨ (((0 ≤ b ∧ b < n) ∧ 0 ≤ a ∧ a ≤ 3) ∧ g = nCL (acC h b) (lAc K a) ∧ o = some (sI (vAc K b a x)))) := by
  subst en
  refine zC_of (by decide +kernel) (Nat.le_of_ble_eq_true rfl) (fun X C E => zrun_sound t_X0_perform C E [] 60 _ _ _ _ ?_)
  refine zcall_i (d' := d - 1) (by omega) (c_X8_within (setI h 7 3 0) b 0 (h.1 7 1 - 1) hb (by omega) (by omega)) ?_
  rintro _ _ ⟨rfl, rfl⟩
  refine And.intro g_in (And.intro (fun c1 => Or.inl ⟨fun z => g_f c1 (by omega), rfl, rfl⟩) (fun c1 => ?_))
  refine zcall_i (d' := d - 1) (by omega) (c_X8_within (setI h 7 3 0) a 0 3 ha (by omega) (by omega)) ?_
  rintro _ _ ⟨rfl, rfl⟩
  refine And.intro g_in (And.intro (fun c2 => ?_) (fun c2 => Or.inl ⟨fun z => g_f c2 z.2, rfl, rfl⟩))
  have q1 := g_t c1
  have q2 := g_t c2
  obtain ⟨K1, K2⟩ := hK ⟨q1.1, by omega⟩
  have hl := (lAc_ok K2 q2).1
  have hbo : bodOK (acC h b) K b := ⟨rfl, ⟨q1.1, by omega⟩, K1, K2, (by decide : (0 : Int) ≤ 0)⟩
  have hr : (acC h b).1 7 3 + ((lAc K a).length : Int) ≤ 1000 := by
    show (0 : Int) + _ ≤ 1000
    omega
  have hown : zC (d - 1) k_X0_own [sR 7, sI a, sI x, sI 0] (acC h b) (fun o g => g = nCL (acC h b) (lAc K a) ∧ o = some (sI (vAc K b a x))) := by
    unfold lAc vAc at *
    rcases (by omega : a = 0 ∨ a = 1 ∨ a = 2 ∨ a = 3) with rfl | rfl | rfl | rfl
    · exact oGo K2 (d - 1) _ x 0 (by omega) hbo hr (by decide) (by decide)
    · exact oWa K2 (d - 1) _ x 0 (by omega) hbo hr (by decide) (by decide)
    · exact oWe K2 (d - 1) _ x 0 (by omega) hbo hr (by decide) (by decide)
    · exact oTe K2 (d - 1) _ x 0 (by omega) hbo hr (by decide) (by decide)
  refine zcall_i (d' := d - 1) (by omega) hown ?_
  rintro _ _ ⟨rfl, rfl⟩
  exact Or.inr ⟨⟨⟨q1.1, by omega⟩, q2⟩, rfl, rfl⟩
theorem c_X8_act {d : Nat} (hd : 41 ≤ d) (h : zH) (b a x K n : Int) (hb : inR b) (ha : inR a) (en : h.1 7 1 = n) (hn : 0 ≤ n ∧ n ≤ 50) (hK : (0 ≤ b ∧ b < n) → h.1 44 b.toNat = K ∧ 0 ≤ K ∧ K ≤ 6) :
    zC d k_X8_act [sR 0, sI b, sI a, sI x] h (fun o g => (¬ ((0 ≤ b ∧ b < n) ∧ 0 ≤ a ∧ a ≤ 3) ∧ g = setI h 7 3 0 ∧ o = some (sI 0)) ∨ (((0 ≤ b ∧ b < n) ∧ 0 ≤ a ∧ a ≤ 3) ∧ g = nCL (acC h b) (lAc K a) ∧ o = some (sI (vAc K b a x)))) := by
  refine zC_of (by decide +kernel) (Nat.le_of_ble_eq_true rfl) (fun X C E => zrun_sound t_X8_act C E [] 60 _ _ _ _ ?_)
  refine zcall_i (d' := d - 1) (by omega) (c_X0_perform (by omega) h b a x K n hb ha en hn hK) ?_
  rintro _ g (⟨q, rfl, rfl⟩ | ⟨q, rfl, rfl⟩)
  · exact Or.inl ⟨q, rfl, rfl⟩
  · exact Or.inr ⟨q, rfl, rfl⟩
set_option maxHeartbeats 1000000 in
theorem c_X9_act {d : Nat} (hd : 40 ≤ d) (h : zH) (b a x K n : Int) (hb : inR b) (ha : inR a) (en : h.1 52 44 = n) (hn : 0 ≤ n ∧ n ≤ 50) (hK : (0 ≤ b ∧ b < n) → h.1 76 b.toNat = K ∧ 0 ≤ K ∧ K ≤ 6) :
    zC d k_X9_act [sR 52, sI b, sI a, sI x] h (fun o g => (¬ (0 ≤ b ∧ b < n) ∧ g = setI h 52 47 0 ∧ o = some (sI 0)) ∨ ((0 ≤ b ∧ b < n) ∧ ¬ (0 ≤ a ∧ a ≤ 3) ∧ g = acM h b K ∧ o = some (sI 0)) ∨ (((0 ≤ b ∧ b < n) ∧ 0 ≤ a ∧ a ≤ 3) ∧ g = nML (acM h b K) (lAc K a) ∧ o = some (sI (vAc K b a x)))) := by
  subst en
  refine zC_of (by decide +kernel) (Nat.le_of_ble_eq_true rfl) (fun X C E => zrun_sound t_X9_act C E [] 60 _ _ _ _ ?_)
  refine zcall_i (d' := d - 1) (by omega) (c_X9_isBody (by omega) (setI h 52 47 0) b hb hn) ?_
  rintro _ _ ⟨rfl, rfl⟩
  refine And.intro g_in (And.intro (fun c1 => ?_) (fun c1 => Or.inl ⟨fun z => g_f c1 z, rfl, rfl⟩))
  have q1 := g_t c1
  replace q1 : 0 ≤ b ∧ b < h.1 52 44 := q1
  obtain ⟨K1, K2⟩ := hK q1
  have k0 := q1.1
  have k1 : b < 50 := by omega
  have hbo : modOK (acM h b K) K b := ⟨rfl, rfl, (by decide : (0 : Int) ≤ 0)⟩
  refine And.intro k0 (And.intro k1 ?_)
  replace K1 : (setI h 52 47 0).1 76 b.toNat = K := K1
  rw [K1]
  refine And.intro ha (And.intro (fun c => Or.inr (Or.inl ⟨q1, by omega, rfl, rfl⟩)) ?_)
  have hr : ∀ t : Int, (0 ≤ t ∧ t ≤ 3) → (acM h b K).1 52 47 + ((lAc K t).length : Int) ≤ 1000 := fun t ht => by
    have := (lAc_ok K2 ht).1
    show (0 : Int) + _ ≤ 1000
    omega
  refine ⟨fun c => ?_, fun c => ?_, fun c => ?_, fun c => ?_, trivial⟩
  · replace c : a = 0 := c
    subst c
    refine zcall_i (d' := d - 1) (by omega) (gK K2 (d - 1) (acM h b K) x (by omega) hbo (hr 0 (by decide))) ?_
    rintro _ _ ⟨rfl, rfl⟩
    exact Or.inr (Or.inr ⟨⟨q1, by decide⟩, rfl, rfl⟩)
  · replace c : a = 1 := c
    subst c
    refine zcall_i (d' := d - 1) (by omega) (aK K2 (d - 1) (acM h b K) x (by omega) hbo (hr 1 (by decide))) ?_
    rintro _ _ ⟨rfl, rfl⟩
    exact Or.inr (Or.inr ⟨⟨q1, by decide⟩, rfl, rfl⟩)
  · replace c : a = 2 := c
    subst c
    refine zcall_i (d' := d - 1) (by omega) (wK K2 (d - 1) (acM h b K) x (by omega) hbo (hr 2 (by decide))) ?_
    rintro _ _ ⟨rfl, rfl⟩
    exact Or.inr (Or.inr ⟨⟨q1, by decide⟩, rfl, rfl⟩)
  · replace c : a = 3 := c
    subst c
    refine zcall_i (d' := d - 1) (by omega) (tK K2 (d - 1) (acM h b K) x (by omega) hbo (hr 3 (by decide))) ?_
    rintro _ _ ⟨rfl, rfl⟩
    exact Or.inr (Or.inr ⟨⟨q1, by decide⟩, rfl, rfl⟩)
def acB : Nat → Bool := fun c => c == 7 || c == 45 || c == 52 || c == 77
theorem Inv_act {h g : zH} (hI : Inv2 h) (e : ∀ c, acB c = false → g.1 c = h.1 c) (eL : g.2 = h.2) (e7 : ∀ i, i ≠ 3 → i ≠ 4 → g.1 7 i = h.1 7 i) (e52 : ∀ i, i ≠ 47 → i ≠ 48 → i ≠ 49 → g.1 52 i = h.1 52 i) (hr : 0 ≤ g.1 7 3 ∧ g.1 7 3 ≤ 1000000) (er : g.1 52 47 = g.1 7 3) (ht : ∀ i : Nat, i < 24 → (i : Int) < g.1 7 3 → g.1 77 i = g.1 45 i ∧ inR (g.1 45 i)) : Inv2 g := by
  obtain ⟨⟨i1, i2, i3, i4, i5, i6, i7, ⟨m1, m2, m3, m4, m5, m6⟩, i9, i10⟩, i11⟩ := hI
  refine ⟨⟨?_, ?_, ?_, ?_, ?_, ?_, ?_, ⟨?_, ?_, ?_, er, hr, ht⟩, ?_, ?_⟩, ?_⟩
  · unfold VV Vn Vt Vw Vp Vy Vh Vs at *
    rw [e 2 rfl, e 19 rfl, e 20 rfl, e 21 rfl, e 22 rfl, e 23 rfl, e 24 rfl, e 25 rfl, e 26 rfl, e 27 rfl, e 28 rfl, e 29 rfl, e 30 rfl, e 31 rfl, e 32 rfl]
    exact i1
  · unfold Ieq at *
    rw [e 2 rfl, e 19 rfl, e 20 rfl, e 21 rfl, e 22 rfl, e 23 rfl, e 24 rfl, e 25 rfl, e 26 rfl, e 27 rfl, e 28 rfl, e 29 rfl, e 30 rfl, e 31 rfl, e 32 rfl, e 53 rfl, e 58 rfl, e 59 rfl, e 60 rfl, e 63 rfl, e 64 rfl, e 65 rfl, e 66 rfl, e 67 rfl, e 68 rfl, e52 8 (by omega) (by omega) (by omega), e52 16 (by omega) (by omega) (by omega), e52 20 (by omega) (by omega) (by omega), e52 21 (by omega) (by omega) (by omega), e52 25 (by omega) (by omega) (by omega), e52 26 (by omega) (by omega) (by omega)]
    exact i2
  · exact Isea_c i3 (fun c a b => e c (by simp [acB]; omega)) (e 2 rfl) ⟨by rw [e 3 rfl], by rw [e 3 rfl]⟩ (e 33 rfl) (e 34 rfl)
  · unfold Itape at *
    rw [e 1 rfl, e 16 rfl, e 57 rfl, e52 7 (by omega) (by omega) (by omega)]
    exact i4
  · unfold Iplan at *
    rw [e 2 rfl, e 5 rfl, e 39 rfl, e 74 rfl, e52 37 (by omega) (by omega) (by omega)]
    exact i5
  · unfold Ichg at *
    rw [e 6 rfl, e 40 rfl, e 41 rfl, e 42 rfl, e 43 rfl, e 54 rfl, e 55 rfl, e 56 rfl, e52 5 (by omega) (by omega) (by omega), e52 4 (by omega) (by omega) (by omega)]
    exact i6
  · unfold Imark at *
    rw [e 0 rfl, e 2 rfl, e 15 rfl, e 75 rfl, e52 42 (by omega) (by omega) (by omega)]
    exact i7
  · rw [e52 44 (by omega) (by omega) (by omega), e7 1 (by omega) (by omega)]
    exact m1
  · rw [e7 1 (by omega) (by omega)]
    exact m2
  · rw [e 44 rfl, e 76 rfl, e7 1 (by omega) (by omega)]
    exact m3
  · intro k hk
    rw [e (8 + k) (by simp [acB]; omega), eL, e7 1 (by omega) (by omega), e 78 rfl, e 79 rfl]
    exact i9 k hk
  · unfold Imisc at *
    rw [e52 31 (by omega) (by omega) (by omega), e52 32 (by omega) (by omega) (by omega), e52 34 (by omega) (by omega) (by omega)]
    exact i10
  · rw [e52 33 (by omega) (by omega) (by omega)]
    exact i11
theorem pr_act {d : Nat} (hd : 41 ≤ d) {b a x : Int} (hb : inR b) (ha : inR a) : Pair2 d k_X8_act k_X9_act [sI b, sI a, sI x] := fun h hI => by
  obtain ⟨m1, m2, m3, -⟩ := id hI.1.2.2.2.2.2.2.2.1
  have hK : (0 ≤ b ∧ b < h.1 7 1) → h.1 44 b.toNat = h.1 44 b.toNat ∧ 0 ≤ h.1 44 b.toNat ∧ h.1 44 b.toNat ≤ 6 := fun q => ⟨rfl, (m3 b.toNat (by omega)).2⟩
  have hK2 : (0 ≤ b ∧ b < h.1 7 1) → h.1 76 b.toNat = h.1 44 b.toNat ∧ 0 ≤ h.1 44 b.toNat ∧ h.1 44 b.toNat ≤ 6 := fun q => m3 b.toNat (by omega)
  refine zC_mono (c_X8_act hd h b a x _ _ hb ha rfl m2 hK) ?_
  rintro o g (⟨q, rfl, rfl⟩ | ⟨q, rfl, rfl⟩)
  · refine ⟨_, rfl, zC_mono (c_X9_act (by omega) (setI h 7 3 0) b a x _ _ hb ha m1 m2 hK2) ?_⟩
    rintro o g' (⟨z, rfl, rfl⟩ | ⟨z, z2, rfl, rfl⟩ | ⟨z, rfl, rfl⟩)
    · refine ⟨rfl, Inv_act hI (fun c hc => ?_) rfl (fun i h1 h2 => ?_) (fun i h1 h2 h3 => ?_) ⟨(by decide : (0 : Int) ≤ 0), (by decide : (0 : Int) ≤ 1000000)⟩ rfl (fun i _ hi => absurd hi (by show ¬ (i : Int) < 0; omega))⟩
      · simp [acB] at hc
        rw [setI_ne (by omega), setI_ne (by omega)]
      · rw [setI_ne (by omega), setI_n2 h1]
      · rw [setI_n2 h1, setI_ne (by omega)]
    · refine ⟨rfl, Inv_act hI (fun c hc => ?_) rfl (fun i h1 h2 => ?_) (fun i h1 h2 h3 => ?_) ⟨(by decide : (0 : Int) ≤ 0), (by decide : (0 : Int) ≤ 1000000)⟩ rfl (fun i _ hi => absurd hi (by show ¬ (i : Int) < 0; omega))⟩
      · simp [acB] at hc
        unfold acM
        rw [setI_ne (by omega), setI_ne (by omega), setI_ne (by omega), setI_ne (by omega)]
      · unfold acM
        rw [setI_ne (by omega), setI_ne (by omega), setI_ne (by omega), setI_n2 h1]
      · unfold acM
        rw [setI_n2 h3, setI_n2 h2, setI_n2 h1, setI_ne (by omega)]
    · exact absurd z q
  · obtain ⟨K, eK⟩ : ∃ K, K = h.1 44 b.toNat := ⟨_, rfl⟩
    have hok := lAc_ok (hK q.1).2 q.2
    rw [← eK] at hK2 hok ⊢
    have f44 : (nCL (acC h b) (lAc K a)).1 52 = h.1 52 := by
      rw [ntL_ne (by decide) (by decide)]
      rfl
    have f76 : (nCL (acC h b) (lAc K a)).1 76 = h.1 76 := by
      rw [ntL_ne (by decide) (by decide)]
      rfl
    refine ⟨_, rfl, zC_mono (c_X9_act (by omega) (nCL (acC h b) (lAc K a)) b a x K (h.1 7 1) hb ha (by rw [f44]; exact m1) m2 (by rw [f76]; exact hK2)) ?_⟩
    rintro o g' (⟨z, -, -⟩ | ⟨z, z2, -, -⟩ | ⟨z, rfl, rfl⟩)
    · exact absurd q.1 z
    · exact absurd q.2 z2
    · have c7 : (nML (acM (nCL (acC h b) (lAc K a)) b K) (lAc K a)).1 7 = (nCL (acC h b) (lAc K a)).1 7 := by
        rw [ntL_ne (by decide) (by decide)]
        rfl
      have c45 : (nML (acM (nCL (acC h b) (lAc K a)) b K) (lAc K a)).1 45 = (nCL (acC h b) (lAc K a)).1 45 := by
        rw [ntL_ne (by decide) (by decide)]
        rfl
      have r7 : (nCL (acC h b) (lAc K a)).1 7 3 = ((lAc K a).length : Int) := by
        rw [ntL_ran]
        show (0 : Int) + _ = _
        omega
      have r52 : (nML (acM (nCL (acC h b) (lAc K a)) b K) (lAc K a)).1 52 47 = ((lAc K a).length : Int) := by
        rw [ntL_ran]
        show (0 : Int) + _ = _
        omega
      refine ⟨rfl, Inv_act hI (fun c hc => ?_) ?_ (fun i h1 h2 => ?_) (fun i h1 h2 h3 => ?_) ?_ ?_ (fun i h1 h2 => ?_)⟩
      · simp [acB] at hc
        rw [ntL_ne (by omega) (by omega)]
        unfold acM
        rw [setI_ne (by omega), setI_ne (by omega), setI_ne (by omega), ntL_ne (by omega) (by omega)]
        unfold acC
        rw [setI_ne (by omega), setI_ne (by omega)]
      · rw [ntL_2]
        show (nCL (acC h b) (lAc K a)).2 = _
        rw [ntL_2]
        rfl
      · rw [c7, ntL_cc (by decide) h1]
        unfold acC
        rw [setI_n2 h2, setI_n2 h1]
      · rw [ntL_cc (by decide) h1]
        unfold acM
        rw [setI_n2 h3, setI_n2 h2, setI_n2 h1, f44]
      · rw [c7, r7]
        omega
      · rw [c7, r7, r52]
      · rw [c7, r7] at h2
        rw [c45, ntL_at (by decide) _ _ 0 i rfl h1, ntL_at (by decide) _ _ 0 i rfl h1, if_pos (by omega), if_pos (by omega)]
        exact ⟨rfl, hok.2 _⟩
