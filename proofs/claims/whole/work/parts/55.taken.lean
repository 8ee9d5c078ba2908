/-! ===== taken ===== -/
def isU (x k : Int) : Prop := k = x ∨ (x = 3 ∧ k = 2) ∨ (x = 5 ∧ k = 1) ∨ k = 0
theorem c_X0_isOrUnder {d : Nat} (h : zH) (x k : Int) (hx : 0 ≤ x ∧ x ≤ 6) (hk : 0 ≤ k ∧ k ≤ 6) : zC d k_X0_isOrUnder [sI x, sI k] h (fun o g => h = g ∧ isB o (isU x k)) := by
  refine zC_of (by decide +kernel) (Nat.le_of_ble_eq_true rfl) (fun X C E => ?_)
  have neg : ∀ i : Int, 0 ≤ i → i ≤ 7 → ¬ isU x k → zJ X 4 [some (sI x), some (sI k), some (sI (-1)), some (sI i)] [] h := by
    intro i h0 h1 q
    refine zrun_sound t_X0_isOrUnder C E [] 60 _ _ _ _ ?_
    refine And.intro (by omega) (And.intro (by decide) (And.intro (fun c => And.intro (Or.inl rfl) (And.intro rfl (Or.inr ⟨rfl, q⟩))) (fun c => ?_)))
    exact And.intro (by decide) (And.intro (fun c2 => And.intro (Or.inl rfl) (And.intro rfl (Or.inr ⟨rfl, q⟩))) (fun c2 => absurd (by decide) c2))
  have stp : ∀ at' i nx : Int, 0 ≤ at' → at' ≤ 6 → 0 ≤ i → i ≤ 6 → (ztbl 90).getD at'.toNat 0 = nx → (at' = k → isU x k) → (¬ at' = k → zJ X 4 [some (sI x), some (sI k), some (sI nx), some (sI (i + 1))] [] h) → zJ X 4 [some (sI x), some (sI k), some (sI at'), some (sI i)] [] h := by
    intro at' i nx a0 a1 i0 i1 en q1 q2
    refine zrun_sound t_X0_isOrUnder C E [4] 60 _ _ _ _ ?_
    refine And.intro (by omega) (And.intro (by decide) (And.intro (fun c => absurd c (by omega)) (fun c => ?_)))
    refine And.intro (by omega) (And.intro (fun c2 => absurd c2 (by omega)) (fun c2 => ?_))
    refine And.intro (by omega) (And.intro (by omega) (And.intro (fun c3 => ?_) (fun c3 => ?_)))
    · refine Or.inl (And.intro rfl (And.intro a0 (And.intro (by omega) ?_)))
      rw [en]
      exact q2 c3
    · exact And.intro (Or.inr rfl) (And.intro rfl (Or.inl ⟨rfl, q1 c3⟩))
  have z0 : ∀ i : Int, 0 ≤ i → i ≤ 6 → (0 = k → isU x k) → (¬ 0 = k → ¬ isU x k) → zJ X 4 [some (sI x), some (sI k), some (sI 0), some (sI i)] [] h := fun i h0 h1 q1 q2 => stp 0 i (-1) (by omega) (by omega) h0 h1 rfl q1 (fun c => neg (i + 1) (by omega) (by omega) (q2 c))
  refine zrun_sound t_X0_isOrUnder C E [4] 60 _ _ _ _ ?_
  unfold isU at stp z0
  rcases (by omega : x = 0 ∨ x = 1 ∨ x = 2 ∨ x = 3 ∨ x = 4 ∨ x = 5 ∨ x = 6) with rfl | rfl | rfl | rfl | rfl | rfl | rfl
  · exact z0 0 (by omega) (by omega) (fun c => by omega) (fun c => by omega)
  · exact stp 1 0 0 (by omega) (by omega) (by omega) (by omega) rfl (fun c => by omega) (fun c => z0 1 (by omega) (by omega) (fun c => by omega) (fun c => by omega))
  · exact stp 2 0 0 (by omega) (by omega) (by omega) (by omega) rfl (fun c => by omega) (fun c => z0 1 (by omega) (by omega) (fun c => by omega) (fun c => by omega))
  · exact stp 3 0 2 (by omega) (by omega) (by omega) (by omega) rfl (fun c => by omega) (fun c => stp 2 1 0 (by omega) (by omega) (by omega) (by omega) rfl (fun c => by omega) (fun c => z0 2 (by omega) (by omega) (fun c => by omega) (fun c => by omega)))
  · exact stp 4 0 0 (by omega) (by omega) (by omega) (by omega) rfl (fun c => by omega) (fun c => z0 1 (by omega) (by omega) (fun c => by omega) (fun c => by omega))
  · exact stp 5 0 1 (by omega) (by omega) (by omega) (by omega) rfl (fun c => by omega) (fun c => stp 1 1 0 (by omega) (by omega) (by omega) (by omega) rfl (fun c => by omega) (fun c => z0 2 (by omega) (by omega) (fun c => by omega) (fun c => by omega)))
  · exact stp 6 0 0 (by omega) (by omega) (by omega) (by omega) rfl (fun c => by omega) (fun c => z0 1 (by omega) (by omega) (fun c => by omega) (fun c => by omega))
/-- taken: fr what the shelf holds, K the kind of its body -/
def tkR0 (fr K a k r : Int) : Prop := (¬ ((0 ≤ a ∧ a ≤ 5) ∧ 0 ≤ k ∧ k ≤ 6) ∧ r = -1) ∨ (((0 ≤ a ∧ a ≤ 5) ∧ 0 ≤ k ∧ k ≤ 6) ∧ fr = -1 ∧ r = -11) ∨ (((0 ≤ a ∧ a ≤ 5) ∧ 0 ≤ k ∧ k ≤ 6) ∧ ¬ fr = -1 ∧ ¬ fr = 5 ∧ r = -12) ∨ (((0 ≤ a ∧ a ≤ 5) ∧ 0 ≤ k ∧ k ≤ 6) ∧ fr = 5 ∧ isU K k ∧ r = K) ∨ (((0 ≤ a ∧ a ≤ 5) ∧ 0 ≤ k ∧ k ≤ 6) ∧ fr = 5 ∧ ¬ isU K k ∧ r = -12)
theorem tkR0_u {fr K a k r r' : Int} (x : tkR0 fr K a k r) (y : tkR0 fr K a k r') : r = r' := by
  unfold tkR0 at x y
  rcases x with ⟨x1, x2⟩ | ⟨x1, x2, x3⟩ | ⟨x1, x2, x3, x4⟩ | ⟨x1, x2, x3, x4⟩ | ⟨x1, x2, x3, x4⟩ <;> rcases y with ⟨y1, y2⟩ | ⟨y1, y2, y3⟩ | ⟨y1, y2, y3, y4⟩ | ⟨y1, y2, y3, y4⟩ | ⟨y1, y2, y3, y4⟩ <;> first | omega | exact absurd y1 x1 | exact absurd x1 y1 | exact absurd x3 y3 | exact absurd y3 x3
set_option maxHeartbeats 2000000 in
theorem c_X8_taken {d : Nat} (hd : 4 ≤ d) (h : zH) (a k : Int) (ha : inR a) (hk : inR k) (hS : Ishf0 h) (hb : ∀ s : Nat, s < 6 → h.1 (8 + s) 0 = 5 → (0 ≤ h.1 (8 + s) 1 ∧ h.1 (8 + s) 1 < 50) ∧ 0 ≤ h.1 44 (h.1 (8 + s) 1).toNat ∧ h.1 44 (h.1 (8 + s) 1).toNat ≤ 6) :
    zC d k_X8_taken [sR 0, sI a, sI k] h (fun o g => h = g ∧ ∃ r : Int, o = some (sI r) ∧ tkR0 (h.1 (8 + a.toNat) 0) (h.1 44 (h.1 (8 + a.toNat) 1).toNat) a k r) := by
  refine zC_of (by decide +kernel) (Nat.le_of_ble_eq_true rfl) (fun X C E => zrun_sound t_X8_taken C E [] 60 _ _ _ _ ?_)
  refine zcall_i (d' := d - 1) (by omega) (c_X8_isShelf (by omega) h a ha) ?_
  rintro _ _ ⟨rfl, rfl⟩
  refine And.intro g_in (And.intro (fun c1 => And.intro rfl ⟨_, rfl, Or.inl ⟨fun z => g_f c1 z.1, rfl⟩⟩) (fun c1 => ?_))
  refine zcall_i (d' := d - 1) (by omega) (c_X8_within h k 0 6 hk (by omega) (by omega)) ?_
  rintro _ _ ⟨rfl, rfl⟩
  refine And.intro g_in (And.intro (fun c2 => ?_) (fun c2 => And.intro rfl ⟨_, rfl, Or.inl ⟨fun z => g_f c2 z.2, rfl⟩⟩))
  have q1 := g_t c1
  have q2 := g_t c2
  have k0 := q1.1
  have k1 : a < 6 := by omega
  have s1 := (Ishf_R hS a.toNat (by omega)).1
  have s2 := hb a.toNat (by omega)
  have hd2 : d - 1 + 1 ≤ d := by omega
  refine And.intro k0 (And.intro k1 ?_)
  clear c1 c2
  rcases (by omega : a = 0 ∨ a = 1 ∨ a = 2 ∨ a = 3 ∨ a = 4 ∨ a = 5) with rfl | rfl | rfl | rfl | rfl | rfl
  all_goals
    refine And.intro s1 (And.intro (by decide) (And.intro (fun c => ?_) (fun c => And.intro rfl ⟨_, rfl, Or.inr (Or.inl ⟨⟨q1, q2⟩, c, rfl⟩)⟩)))
    refine And.intro k0 (And.intro k1 ?_)
    refine And.intro s1 (And.intro (by decide) (And.intro (fun c2 => ?_) (fun c2 => And.intro rfl ⟨_, rfl, Or.inr (Or.inr (Or.inl ⟨⟨q1, q2⟩, c, c2, rfl⟩))⟩)))
    obtain ⟨⟨s3, s4⟩, s5⟩ := s2 c2
    refine And.intro k0 (And.intro k1 (And.intro s3 (And.intro s4 ?_)))
    refine zcall_i (d' := d - 1) hd2 (c_X0_isOrUnder h _ k s5 q2) ?_
    rintro o g ⟨rfl, ⟨rfl, z⟩ | ⟨rfl, z⟩⟩
    · refine And.intro (by decide) (And.intro (fun c5 => absurd c5 (by decide)) (fun _ => ?_))
      exact And.intro rfl ⟨_, rfl, Or.inr (Or.inr (Or.inr (Or.inl ⟨⟨q1, q2⟩, c2, z, rfl⟩)))⟩
    · refine And.intro (by decide) (And.intro (fun _ => ?_) (fun c5 => absurd rfl c5))
      exact And.intro rfl ⟨_, rfl, Or.inr (Or.inr (Or.inr (Or.inr ⟨⟨q1, q2⟩, c2, z, rfl⟩)))⟩
theorem c_X9_above {d : Nat} (h : zH) (x : Int) (hx : inR x) : zC d k_X9_above [sI x] h (fun o g => h = g ∧ o = some (sI (if x = 3 then 2 else if x = 5 then 1 else 0))) := by
  refine zC_of (by decide +kernel) (Nat.le_of_ble_eq_true rfl) (fun X C E => zrun_sound t_X9_above C E [] 60 _ _ _ _ ?_)
  refine And.intro hx (And.intro (by decide) (And.intro (fun c => ?_) (fun c => And.intro rfl (by rw [if_pos c]))))
  refine And.intro hx (And.intro (by decide) (And.intro (fun c2 => And.intro rfl (by rw [if_neg c, if_neg c2])) (fun c2 => And.intro rfl (by rw [if_neg c, if_pos c2]))))
theorem c_X9_kindOf {d : Nat} (h : zH) (x : Int) (h0 : 0 ≤ x) (h1 : x < 50) : zC d k_X9_kindOf [sR 52, sI x] h (fun o g => h = g ∧ o = some (sI (h.1 76 x.toNat))) :=
  zC_of (by decide +kernel) (Nat.le_of_ble_eq_true rfl) (fun X C E => zrun_sound t_X9_kindOf C E [] 60 _ _ _ _ (And.intro h0 (And.intro h1 (And.intro rfl rfl))))
set_option maxHeartbeats 2000000 in
theorem c_X9_taken {d : Nat} (hd : 4 ≤ d) (h : zH) (a k K : Int) (ha : inR a) (hk : inR k) (hS : Ishf0 h) (hb : (0 ≤ a ∧ a ≤ 5) → h.1 (8 + a.toNat) 0 = 5 → h.1 76 (h.1 78 a.toNat).toNat = K ∧ 0 ≤ K ∧ K ≤ 6) :
    zC d k_X9_taken [sR 52, sI a, sI k] h (fun o g => h = g ∧ ∃ r : Int, o = some (sI r) ∧ tkR0 (h.1 (8 + a.toNat) 0) K a k r) := by
  refine zC_of (by decide +kernel) (Nat.le_of_ble_eq_true rfl) (fun X C E => ?_)
  have main : (0 ≤ a ∧ a ≤ 5) → (0 ≤ k ∧ k ≤ 6) → 0 ≤ h.1 78 a.toNat → h.1 78 a.toNat < 50 → zJ X 58 [some (sR 52), some (sI a), some (sI k), some (sI K)] [] h := by
    intro q1 q2 b0 b1
    have k0 := q1.1
    have k1 : a < 6 := by omega
    have S1 := hS a.toNat (by omega)
    have c5 : h.1 (8 + a.toNat) 0 = 5 := by omega
    obtain ⟨eK, hK⟩ := hb q1 c5
    have ex : ∀ x : Int, inR x → (x = k → isU K k) → (¬ x = k → ¬ isU K k) → zJ X 75 [some (sR 52), some (sI a), some (sI k), some (sI x)] [] h := by
      intro x hx e1 e2
      refine zrun_sound t_X9_taken C E [] 60 _ _ _ _ ?_
      refine And.intro hx (And.intro (by omega) (And.intro (fun c => ?_) (fun c => ?_)))
      · exact And.intro rfl ⟨_, rfl, Or.inr (Or.inr (Or.inr (Or.inr ⟨⟨q1, q2⟩, c5, e2 c, rfl⟩)))⟩
      · refine And.intro k0 (And.intro k1 ?_)
        refine zcall_i (d' := d - 1) (by omega) (c_X9_kindOf h _ b0 b1) ?_
        rintro _ _ ⟨rfl, rfl⟩
        rw [eK]
        exact And.intro rfl ⟨_, rfl, Or.inr (Or.inr (Or.inr (Or.inl ⟨⟨q1, q2⟩, c5, e1 c, rfl⟩)))⟩
    have stp : ∀ x nx : Int, 0 ≤ x → x ≤ 6 → (if x = 3 then (2 : Int) else if x = 5 then 1 else 0) = nx → (x = k → isU K k) → (x = 0 → ¬ x = k → ¬ isU K k) → (0 < x → ¬ x = k → zJ X 58 [some (sR 52), some (sI a), some (sI k), some (sI nx)] [] h) → zJ X 58 [some (sR 52), some (sI a), some (sI k), some (sI x)] [] h := by
      intro x nx x0 x1 en e1 e2 e3
      refine zrun_sound t_X9_taken C E [58, 75] 60 _ _ _ _ ?_
      refine And.intro (by omega) (And.intro (by omega) (And.intro (fun c => ex x (by omega) e1 (fun z => absurd c z)) (fun c => ?_)))
      refine And.intro (by omega) (And.intro (fun c2 => ex x (by omega) e1 (e2 (by omega))) (fun c2 => ?_))
      refine zcall_i (d' := d - 1) (by omega) (c_X9_above h x (by omega)) ?_
      rintro _ _ ⟨rfl, rfl⟩
      rw [en]
      exact e3 (by omega) c
    have z0 : (0 = k → isU K k) → (¬ 0 = k → ¬ isU K k) → zJ X 58 [some (sR 52), some (sI a), some (sI k), some (sI 0)] [] h := fun e1 e2 => stp 0 0 (by omega) (by omega) rfl e1 (fun _ c => e2 c) (fun c => absurd c (by omega))
    clear ex hb eK
    unfold isU at stp z0
    rcases (by omega : K = 0 ∨ K = 1 ∨ K = 2 ∨ K = 3 ∨ K = 4 ∨ K = 5 ∨ K = 6) with rfl | rfl | rfl | rfl | rfl | rfl | rfl
    · exact z0 (fun c => by omega) (fun c => by omega)
    · exact stp 1 0 (by omega) (by omega) rfl (fun c => by omega) (fun c => by omega) (fun _ c => z0 (fun c => by omega) (fun c => by omega))
    · exact stp 2 0 (by omega) (by omega) rfl (fun c => by omega) (fun c => by omega) (fun _ c => z0 (fun c => by omega) (fun c => by omega))
    · exact stp 3 2 (by omega) (by omega) rfl (fun c => by omega) (fun c => by omega) (fun _ c => stp 2 0 (by omega) (by omega) rfl (fun c => by omega) (fun c => by omega) (fun _ c => z0 (fun c => by omega) (fun c => by omega)))
    · exact stp 4 0 (by omega) (by omega) rfl (fun c => by omega) (fun c => by omega) (fun _ c => z0 (fun c => by omega) (fun c => by omega))
    · exact stp 5 1 (by omega) (by omega) rfl (fun c => by omega) (fun c => by omega) (fun _ c => stp 1 0 (by omega) (by omega) rfl (fun c => by omega) (fun c => by omega) (fun _ c => z0 (fun c => by omega) (fun c => by omega)))
    · exact stp 6 0 (by omega) (by omega) rfl (fun c => by omega) (fun c => by omega) (fun _ c => z0 (fun c => by omega) (fun c => by omega))
  refine zrun_sound t_X9_taken C E [58] 60 _ _ _ _ ?_
  refine zcall_i (d' := d - 1) (by omega) (c_X9_isShelf (by omega) h a ha) ?_
  rintro _ _ ⟨rfl, rfl⟩
  refine And.intro g_in (And.intro (fun c1 => And.intro rfl ⟨_, rfl, Or.inl ⟨fun z => g_f c1 z.1, rfl⟩⟩) (fun c1 => ?_))
  refine zcall_i (d' := d - 1) (by omega) (c_X9_within h (i2l k) 0 6 k 0 6 (i2l_toInt hk) (by decide) (by decide)) ?_
  rintro _ _ ⟨rfl, rfl⟩
  refine And.intro g_in (And.intro (fun c2 => ?_) (fun c2 => And.intro rfl ⟨_, rfl, Or.inl ⟨fun z => g_f c2 z.2, rfl⟩⟩))
  have q1 := g_t c1
  have q2 := g_t c2
  have k0 := q1.1
  have k1 : a < 6 := by omega
  have S1 := hS a.toNat (by omega)
  have s1 : inR (h.1 78 a.toNat) := by omega
  refine And.intro k0 (And.intro k1 (And.intro s1 (And.intro (fun c => ?_) (fun c => And.intro rfl ⟨_, rfl, Or.inr (Or.inl ⟨⟨q1, q2⟩, ?_, rfl⟩)⟩))))
  · replace c : 0 ≤ h.1 78 a.toNat := c
    refine And.intro k0 (And.intro k1 (And.intro s1 (And.intro (by decide) (And.intro (fun c3 => ?_) (fun c3 => And.intro rfl ⟨_, rfl, Or.inr (Or.inr (Or.inl ⟨⟨q1, q2⟩, ?_, ?_, rfl⟩))⟩)))))
    · replace c3 : h.1 78 a.toNat < 50 := c3
      refine And.intro k0 (And.intro k1 ?_)
      refine zcall_i (d' := d - 1) (by omega) (c_X9_kindOf h _ c c3) ?_
      rintro _ _ ⟨rfl, rfl⟩
      rw [(hb q1 (by omega)).1]
      exact main q1 q2 c c3
    · replace c3 : ¬ h.1 78 a.toNat < 50 := c3
      omega
    · replace c3 : ¬ h.1 78 a.toNat < 50 := c3
      omega
  · replace c : ¬ 0 ≤ h.1 78 a.toNat := c
    omega
theorem pr_taken {d : Nat} (hd : 4 ≤ d) {a k : Int} (ha : inR a) (hk : inR k) : Pair2 d k_X8_taken k_X9_taken [sI a, sI k] := fun h hI => by
  have i9 := hI.1.2.2.2.2.2.2.2.2.1
  obtain ⟨m1, m2, m3, -⟩ := id hI.1.2.2.2.2.2.2.2.1
  have i0 := Ishf0_of i9 m2.2
  have hb : ∀ s : Nat, s < 6 → h.1 (8 + s) 0 = 5 → h.1 78 s = h.1 (8 + s) 1 ∧ (0 ≤ h.1 (8 + s) 1 ∧ h.1 (8 + s) 1 < h.1 7 1) := fun s hs c => by
    rcases i9 s hs with ⟨y, -⟩ | ⟨-, y1, y2, y3⟩ | ⟨y, -⟩
    · omega
    · exact ⟨y1, y2, y3⟩
    · omega
  have hb2 : ∀ s : Nat, s < 6 → h.1 (8 + s) 0 = 5 → (0 ≤ h.1 (8 + s) 1 ∧ h.1 (8 + s) 1 < 50) ∧ 0 ≤ h.1 44 (h.1 (8 + s) 1).toNat ∧ h.1 44 (h.1 (8 + s) 1).toNat ≤ 6 := fun s hs c => by
    have := hb s hs c
    exact ⟨by omega, (m3 _ (by omega)).2⟩
  refine zC_mono (c_X8_taken hd h a k ha hk i0 hb2) ?_
  rintro o g ⟨rfl, r, rfl, hr⟩
  refine ⟨_, rfl, zC_mono (c_X9_taken hd h a k (h.1 44 (h.1 (8 + a.toNat) 1).toNat) ha hk i0 (fun q c => ?_)) ?_⟩
  · have z := hb a.toNat (by omega) c
    have z2 := hb2 a.toNat (by omega) c
    rw [z.1]
    exact ⟨(m3 _ (by omega)).1, z2.2⟩
  · rintro o g' ⟨rfl, r', rfl, hr'⟩
    rw [tkR0_u hr hr']
    exact ⟨rfl, hI⟩
