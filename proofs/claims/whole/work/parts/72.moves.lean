/-! ===== moves ===== -/
def mvV (h : zH) (k : Nat) (i : Int) (t : Nat) : Int := l2i (h.2 (46 + k) (i + t).toNat)
def okAt (h : zH) (k : Nat) (i : Int) (t : Nat) : Prop := (0 ≤ i + t ∧ i + t < h.1 (8 + k) 3) ∧ okM h (mvV h k i t) ∧ h.1 5 3 + t < 12
def stpR (h : zH) (k : Nat) (i n : Int) (t : Nat) : Prop := (t : Int) ≤ n ∧ (∀ j : Nat, j < t → okAt h k i j) ∧ ((t : Int) = n ∨ ¬ okAt h k i t)
theorem stpR_u {h : zH} {k : Nat} {i n : Int} {t t' : Nat} (x : stpR h k i n t) (y : stpR h k i n t') : t = t' := by
  obtain ⟨x1, x2, x3⟩ := x
  obtain ⟨y1, y2, y3⟩ := y
  rcases (by omega : t < t' ∨ t' < t ∨ t = t') with q | q | q
  · rcases x3 with z | z
    · omega
    · exact absurd (y2 t q) z
  · rcases y3 with z | z
    · omega
    · exact absurd (x2 t' q) z
  · exact q
/-- t moves have come into the class's plan -/
def mvC (h g : zH) (k : Nat) (i : Int) (t : Nat) : Prop := (∀ c, c ≠ 39 → c ≠ 5 → g.1 c = h.1 c) ∧ g.2 = h.2 ∧ (∀ x, x ≠ 3 → g.1 5 x = h.1 5 x) ∧ g.1 5 3 = h.1 5 3 + t ∧ ∀ x : Nat, g.1 39 x = if h.1 5 3 ≤ x ∧ (x : Int) < h.1 5 3 + t then mvV h k i (x - (h.1 5 3).toNat) else h.1 39 x
def mvM (h g : zH) (k : Nat) (i : Int) (t : Nat) (f : zH) : Prop := (∀ c, c ≠ 74 → c ≠ 52 → f.1 c = g.1 c) ∧ f.2 = g.2 ∧ (∀ x, x ≠ 37 → f.1 52 x = g.1 52 x) ∧ f.1 52 37 = h.1 5 3 + t ∧ ∀ x : Nat, f.1 74 x = if h.1 5 3 ≤ x ∧ (x : Int) < h.1 5 3 + t then mvV h k i (x - (h.1 5 3).toNat) else g.1 74 x
theorem mvC_s {h g : zH} {k : Nat} {i : Int} {t : Nat} (m : mvC h g k i t) (h0 : 0 ≤ h.1 5 3) : mvC h (setI (setI g 39 (g.1 5 3).toNat (mvV h k i t)) 5 3 (g.1 5 3 + 1)) k i (t + 1) := by
  obtain ⟨m1, m2, m3, m4, m5⟩ := m
  refine ⟨fun c h1 h2 => ?_, m2, fun x hx => ?_, ?_, fun x => ?_⟩
  · rw [setI_ne h2, setI_ne h1, m1 c h1 h2]
  · rw [setI_n2 hx, setI_ne (by omega), m3 x hx]
  · rw [setI_eq, m4]
    omega
  · rw [setI_ne (by omega), setI_at, m5 x]
    by_cases e : x = (g.1 5 3).toNat
    · rw [if_pos ⟨rfl, e⟩, if_pos (by omega), show x - (h.1 5 3).toNat = t by omega]
    · rw [if_neg (fun z => e z.2)]
      by_cases q : h.1 5 3 ≤ x ∧ (x : Int) < h.1 5 3 + t
      · rw [if_pos q, if_pos (by omega)]
      · rw [if_neg q, if_neg (by omega)]
theorem mvM_s {h g f : zH} {k : Nat} {i : Int} {t : Nat} (m : mvM h g k i t f) (h0 : 0 ≤ h.1 5 3) : mvM h g k i (t + 1) (setI (setI f 74 (f.1 52 37).toNat (mvV h k i t)) 52 37 (f.1 52 37 + 1)) := by
  obtain ⟨m1, m2, m3, m4, m5⟩ := m
  refine ⟨fun c h1 h2 => ?_, m2, fun x hx => ?_, ?_, fun x => ?_⟩
  · rw [setI_ne h2, setI_ne h1, m1 c h1 h2]
  · rw [setI_n2 hx, setI_ne (by omega), m3 x hx]
  · rw [setI_eq, m4]
    omega
  · rw [setI_ne (by omega), setI_at, m5 x]
    by_cases e : x = (f.1 52 37).toNat
    · rw [if_pos ⟨rfl, e⟩, if_pos (by omega), show x - (h.1 5 3).toNat = t by omega]
    · rw [if_neg (fun z => e z.2)]
      by_cases q : h.1 5 3 ≤ x ∧ (x : Int) < h.1 5 3 + t
      · rw [if_pos q, if_pos (by omega)]
      · rw [if_neg q, if_neg (by omega)]
def mvR (h g : zH) (a i n r : Int) : Prop := (¬ ((0 ≤ a ∧ a ≤ 5) ∧ 1 ≤ n ∧ n ≤ 12) ∧ g = h ∧ r = -1) ∨ (((0 ≤ a ∧ a ≤ 5) ∧ 1 ≤ n ∧ n ≤ 12) ∧ h.1 (8 + a.toNat) 0 = -1 ∧ g = h ∧ r = 0) ∨ (((0 ≤ a ∧ a ≤ 5) ∧ 1 ≤ n ∧ n ≤ 12) ∧ ¬ h.1 (8 + a.toNat) 0 = -1 ∧ ¬ h.1 (8 + a.toNat) 0 = 1 ∧ g = h ∧ r = -12) ∨ (((0 ≤ a ∧ a ≤ 5) ∧ 1 ≤ n ∧ n ≤ 12) ∧ h.1 (8 + a.toNat) 0 = 1 ∧ ∃ t : Nat, stpR h a.toNat i n t ∧ mvC h g a.toNat i t ∧ r = t)
theorem l2i_in (x : Int64) : inR (l2i x) := i32_in _
set_option maxHeartbeats 8000000 in
theorem mv_core {X : zX} {d : Nat} {h : zH} {a i n : Int} (hd : 6 ≤ d) (C : zCx X d k_X8_moves) (E : zEx X k_X8_moves (fun o g => ∃ r : Int, o = some (sI r) ∧ mvR h g a i n r)) (hV : VV h) (hS : Ishf0 h) (q : (0 ≤ a ∧ a ≤ 5) ∧ 1 ≤ n ∧ n ≤ 12) (hi : inR i) (hp : 0 ≤ h.1 5 3 ∧ h.1 5 3 ≤ 12) (k : Nat) (ek : k = a.toNat) :
    zJ X 27 [some (sR 0), some (sI a), some (sI i), some (sI n), some (sR (8 + k))] [] h := by
  have hk : k < 6 := by omega
  obtain ⟨s1, s2⟩ := Ishf_R hS k hk
  have hv4 := hV.1.2.2.2.1
  have hd1 : d - 1 + 1 ≤ d := by omega
  have loop : h.1 (8 + k) 0 = 1 → ∀ (f t : Nat) (G : zH), (t : Int) + f = n → (∀ j : Nat, j < t → okAt h k i j) → mvC h G k i t → zJ X 53 [some (sR 0), some (sI a), some (sI i), some (sI n), some (sR (8 + k)), some (sI t)] [] G := by
    intro c1 f
    have sl := (s2 (by omega) (by omega)).2
    have outT : ∀ (t : Nat) (G : zH), stpR h k i n t → mvC h G k i t → zJ X 116 [some (sR 0), some (sI a), some (sI i), some (sI n), some (sR (8 + k)), some (sI t)] [] G := by
      intro t G hst hm
      refine zrun_sound t_X8_moves C E [] 60 _ _ _ _ ?_
      refine ⟨_, rfl, Or.inr (Or.inr (Or.inr ⟨q, ?_, t, ?_, ?_, rfl⟩))⟩
      · rw [← ek]; exact c1
      · rw [← ek]; exact hst
      · rw [← ek]; exact hm
    induction f with
    | zero =>
      intro t G ht hall hm
      refine zrun_sound t_X8_moves C E [116] 60 _ _ _ _ ?_
      refine And.intro (by omega) (And.intro (by omega) (And.intro (fun _ => ?_) (fun z => absurd (by omega) z)))
      exact outT t G ⟨by omega, hall, Or.inl (by omega)⟩ hm
    | succ f ih =>
      intro t G ht hall hm
      have hm' := hm
      obtain ⟨m1, m2, m3, m4, m5⟩ := hm'
      have iN : inR (i + (t : Int)) := by
        by_cases e : t = 0
        · subst e
          omega
        · have := (hall (t - 1) (by omega)).1
          omega
      have g8 : G.1 (8 + k) = h.1 (8 + k) := m1 _ (by omega) (by omega)
      have g10 : G.1 2 10 = h.1 2 10 := by rw [m1 2 (by omega) (by omega)]
      have okMg : ∀ v : Int, okM G v ↔ okM h v := fun v => by
        unfold okM
        rw [g10]
      have has := c_X6_has (d := d - 1) G k (i + (t : Int)) hk iN (by rw [g8]; omega)
      rw [g8] at has
      have isM := c_X8_isMove (d := d - 1) (by omega) G (mvV h k i t) (l2i_in _) (by rw [g10]; exact hv4)
      have add := c_X3_add (d := d - 1) G (mvV h k i t) (by rw [m4]; have := (fun z : ¬ t = 0 => (hall (t - 1) (by omega)).2.2); by_cases z : t = 0 <;> omega)
      have step := fun (z1 : 0 ≤ i + (t : Int) ∧ i + (t : Int) < h.1 (8 + k) 3) (z2 : okM h (mvV h k i t)) (z3 : h.1 5 3 + (t : Int) < 12) => ih (t + 1) _ (by omega) (fun j hj => by
        by_cases e : j = t
        · subst e
          exact ⟨z1, z2, z3⟩
        · exact hall j (by omega)) (mvC_s hm hp.1)
      have outN : ¬ okAt h k i t → zJ X 116 [some (sR 0), some (sI a), some (sI i), some (sI n), some (sR (8 + k)), some (sI t)] [] G := fun z => outT t G ⟨by omega, hall, Or.inr z⟩ hm
      have ev : ∀ x : Nat, x = (i + (t : Int)).toNat → l2i (G.2 (46 + k) x) = mvV h k i t := fun x hx => by
        unfold mvV
        rw [m2, hx]
      refine zrun_sound t_X8_moves C E [53, 116] 60 _ _ _ _ ?_
      clear ih outT hall hm E
      rcases (by omega : k = 0 ∨ k = 1 ∨ k = 2 ∨ k = 3 ∨ k = 4 ∨ k = 5) with rfl | rfl | rfl | rfl | rfl | rfl
      all_goals
        refine And.intro (by omega) (And.intro (by omega) (And.intro (fun z => absurd z (by omega)) (fun _ => ?_)))
        refine zcall_i (d' := d - 1) hd1 has ?_
        rintro o g2 ⟨rfl, ⟨rfl, z⟩ | ⟨rfl, z⟩⟩
        · refine And.intro (by decide) (And.intro (fun z => absurd z (by decide)) (fun _ => ?_))
          have i0 : 0 ≤ i + (t : Int) := z.1
          have i1 : i + (t : Int) < 60 := by have := z.2; omega
          refine And.intro i0 (And.intro i1 ?_)
          refine zcall_i (d' := d - 1) hd1 (zC_as (congrArg (fun v => [sR 0, sI v]) (ev _ rfl)) isM) ?_
          rintro _ _ ⟨rfl, rfl⟩
          refine And.intro g_in (And.intro (fun z2 => outN (fun y => g_f z2 ((okMg _).mpr y.2.1))) (fun z2 => ?_))
          have z2' := g_t z2
          have z3 := (okMg (mvV h _ i t)).mp z2'
          refine And.intro i0 (And.intro i1 ?_)
          refine zcall_i (d' := d - 1) hd1 (zC_as (congrArg (fun v => [sR 5, sI v]) (ev _ rfl)) add) ?_
          rintro o g3 (⟨z4, rfl, rfl⟩ | ⟨z4, rfl, rfl⟩)
          · refine And.intro (by decide) (And.intro (fun _ => ?_) (fun y => absurd rfl y))
            exact outN (fun y => by have := y.2.2; omega)
          · refine And.intro (by decide) (And.intro (fun y => absurd y (by decide)) (fun _ => ?_))
            exact zJ_le (step z z3 (by omega)) (And.intro rfl (And.intro rfl (And.intro rfl (And.intro rfl (And.intro rfl (And.intro rfl trivial)))))) rfl rfl
        · refine And.intro (by decide) (And.intro (fun _ => ?_) (fun y => absurd rfl y))
          exact outN (fun y => z y.1)
  have c0 : h.1 (8 + k) 0 = 1 → zJ X 53 [some (sR 0), some (sI a), some (sI i), some (sI n), some (sR (8 + k)), some (sI 0)] [] h := fun c1 => loop c1 n.toNat 0 h (by omega) (fun j hj => absurd hj (by omega)) ⟨fun _ _ _ => rfl, rfl, fun _ _ => rfl, by omega, fun x => by rw [if_neg (by omega)]⟩
  have r1 : h.1 (8 + k) 0 = -1 → ∃ r : Int, some (sI 0) = some (sI r) ∧ mvR h h a i n r := fun c1 => ⟨0, rfl, Or.inr (Or.inl ⟨q, by rw [← ek]; exact c1, rfl, rfl⟩)⟩
  have r2 : ¬ h.1 (8 + k) 0 = -1 → ¬ h.1 (8 + k) 0 = 1 → ∃ r : Int, some (sI (-12)) = some (sI r) ∧ mvR h h a i n r := fun c1 c2 => ⟨-12, rfl, Or.inr (Or.inr (Or.inl ⟨q, by rw [← ek]; exact c1, by rw [← ek]; exact c2, rfl, rfl⟩))⟩
  refine zrun_sound t_X8_moves C E [53] 60 _ _ _ _ ?_
  clear loop E
  rcases (by omega : k = 0 ∨ k = 1 ∨ k = 2 ∨ k = 3 ∨ k = 4 ∨ k = 5) with rfl | rfl | rfl | rfl | rfl | rfl
  all_goals
    refine And.intro s1 (And.intro (by decide) (And.intro (fun c => ?_) (fun c => r1 c)))
    refine And.intro s1 (And.intro (by decide) (And.intro (fun c2 => ?_) (fun c2 => r2 c c2)))
    exact zJ_le (c0 c2) (And.intro rfl (And.intro rfl (And.intro rfl (And.intro rfl (And.intro rfl (And.intro rfl trivial)))))) rfl rfl
theorem c_X8_moves {d : Nat} (hd : 6 ≤ d) (h : zH) (a i n : Int) (ha : inR a) (hi : inR i) (hn : inR n) (hV : VV h) (hS : Ishf0 h) (hp : 0 ≤ h.1 5 3 ∧ h.1 5 3 ≤ 12) :
    zC d k_X8_moves [sR 0, sI a, sI i, sI n] h (fun o g => ∃ r : Int, o = some (sI r) ∧ mvR h g a i n r) := by
  refine zC_of (by decide +kernel) (Nat.le_of_ble_eq_true rfl) (fun X C E => zrun_sound t_X8_moves C E [27] 60 _ _ _ _ ?_)
  refine zcall_i (d' := d - 1) (by omega) (c_X8_isShelf (by omega) h a ha) ?_
  rintro _ _ ⟨rfl, rfl⟩
  refine And.intro g_in (And.intro (fun c1 => ⟨_, rfl, Or.inl ⟨fun z => g_f c1 z.1, rfl, rfl⟩⟩) (fun c1 => ?_))
  refine zcall_i (d' := d - 1) (by omega) (c_X8_within h n 1 12 hn (by omega) (by omega)) ?_
  rintro _ _ ⟨rfl, rfl⟩
  refine And.intro g_in (And.intro (fun c2 => ?_) (fun c2 => ⟨_, rfl, Or.inl ⟨fun z => g_f c2 z.2, rfl, rfl⟩⟩))
  have q1 := g_t c1
  have q2 := g_t c2
  refine And.intro q1.1 (And.intro (show a < 6 by omega) ?_)
  refine zJ_le (mv_core hd C E hV hS ⟨q1, q2⟩ hi hp a.toNat rfl) (And.intro rfl (And.intro rfl (And.intro rfl (And.intro rfl (And.intro ?_ trivial))))) rfl rfl
  exact (congrArg sR (sh_at a.toNat (by omega))).symm
