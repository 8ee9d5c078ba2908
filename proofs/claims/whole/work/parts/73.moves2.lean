/-! ===== moves: the reference and the pair ===== -/
theorem Inv_pln {h g : zH} (hI : Inv2 h) (e : ∀ c, c ≠ 5 → c ≠ 39 → c ≠ 74 → c ≠ 52 → g.1 c = h.1 c) (eL : g.2 = h.2) (e52 : ∀ i, i ≠ 37 → g.1 52 i = h.1 52 i) (hp : Iplan g) : Inv2 g := by
  obtain ⟨⟨i1, i2, i3, i4, i5, i6, i7, i8, i9, i10⟩, i11⟩ := hI
  refine ⟨⟨?_, ?_, ?_, ?_, hp, ?_, ?_, ?_, ?_, ?_⟩, ?_⟩
  · unfold VV Vn Vt Vw Vp Vy Vh Vs at *
    rw [e 2 (by omega) (by omega) (by omega) (by omega), e 19 (by omega) (by omega) (by omega) (by omega), e 20 (by omega) (by omega) (by omega) (by omega), e 21 (by omega) (by omega) (by omega) (by omega), e 22 (by omega) (by omega) (by omega) (by omega), e 23 (by omega) (by omega) (by omega) (by omega), e 24 (by omega) (by omega) (by omega) (by omega), e 25 (by omega) (by omega) (by omega) (by omega), e 26 (by omega) (by omega) (by omega) (by omega), e 27 (by omega) (by omega) (by omega) (by omega), e 28 (by omega) (by omega) (by omega) (by omega), e 29 (by omega) (by omega) (by omega) (by omega), e 30 (by omega) (by omega) (by omega) (by omega), e 31 (by omega) (by omega) (by omega) (by omega), e 32 (by omega) (by omega) (by omega) (by omega)]
    exact i1
  · unfold Ieq at *
    rw [e 2 (by omega) (by omega) (by omega) (by omega), e 19 (by omega) (by omega) (by omega) (by omega), e 20 (by omega) (by omega) (by omega) (by omega), e 21 (by omega) (by omega) (by omega) (by omega), e 22 (by omega) (by omega) (by omega) (by omega), e 23 (by omega) (by omega) (by omega) (by omega), e 24 (by omega) (by omega) (by omega) (by omega), e 25 (by omega) (by omega) (by omega) (by omega), e 26 (by omega) (by omega) (by omega) (by omega), e 27 (by omega) (by omega) (by omega) (by omega), e 28 (by omega) (by omega) (by omega) (by omega), e 29 (by omega) (by omega) (by omega) (by omega), e 30 (by omega) (by omega) (by omega) (by omega), e 31 (by omega) (by omega) (by omega) (by omega), e 32 (by omega) (by omega) (by omega) (by omega), e 53 (by omega) (by omega) (by omega) (by omega), e 58 (by omega) (by omega) (by omega) (by omega), e 59 (by omega) (by omega) (by omega) (by omega), e 60 (by omega) (by omega) (by omega) (by omega), e 63 (by omega) (by omega) (by omega) (by omega), e 64 (by omega) (by omega) (by omega) (by omega), e 65 (by omega) (by omega) (by omega) (by omega), e 66 (by omega) (by omega) (by omega) (by omega), e 67 (by omega) (by omega) (by omega) (by omega), e 68 (by omega) (by omega) (by omega) (by omega), e52 8 (by omega), e52 16 (by omega), e52 20 (by omega), e52 21 (by omega), e52 25 (by omega), e52 26 (by omega)]
    exact i2
  · exact Isea_c i3 (fun c a b => e c (by omega) (by omega) (by omega) (by omega)) (e 2 (by omega) (by omega) (by omega) (by omega)) ⟨congrFun (e 3 (by omega) (by omega) (by omega) (by omega)) 3, congrFun (e 3 (by omega) (by omega) (by omega) (by omega)) 4⟩ (e 33 (by omega) (by omega) (by omega) (by omega)) (e 34 (by omega) (by omega) (by omega) (by omega))
  · unfold Itape at *
    rw [e 1 (by omega) (by omega) (by omega) (by omega), e 16 (by omega) (by omega) (by omega) (by omega), e 57 (by omega) (by omega) (by omega) (by omega), e52 7 (by omega)]
    exact i4
  · unfold Ichg at *
    rw [e 6 (by omega) (by omega) (by omega) (by omega), e 40 (by omega) (by omega) (by omega) (by omega), e 41 (by omega) (by omega) (by omega) (by omega), e 42 (by omega) (by omega) (by omega) (by omega), e 43 (by omega) (by omega) (by omega) (by omega), e 54 (by omega) (by omega) (by omega) (by omega), e 55 (by omega) (by omega) (by omega) (by omega), e 56 (by omega) (by omega) (by omega) (by omega), e52 5 (by omega), e52 4 (by omega)]
    exact i6
  · unfold Imark at *
    rw [e 0 (by omega) (by omega) (by omega) (by omega), e 2 (by omega) (by omega) (by omega) (by omega), e 15 (by omega) (by omega) (by omega) (by omega), e 75 (by omega) (by omega) (by omega) (by omega), e52 42 (by omega)]
    exact i7
  · unfold Ibod at *
    rw [e 7 (by omega) (by omega) (by omega) (by omega), e 44 (by omega) (by omega) (by omega) (by omega), e 45 (by omega) (by omega) (by omega) (by omega), e 76 (by omega) (by omega) (by omega) (by omega), e 77 (by omega) (by omega) (by omega) (by omega), e52 44 (by omega), e52 47 (by omega)]
    exact i8
  · intro k hk
    have a := e (8 + k) (by omega) (by omega) (by omega) (by omega)
    rw [a, e 7 (by omega) (by omega) (by omega) (by omega), e 78 (by omega) (by omega) (by omega) (by omega), e 79 (by omega) (by omega) (by omega) (by omega), eL]
    exact i9 k hk
  · unfold Imisc at *
    rw [e52 31 (by omega), e52 32 (by omega), e52 34 (by omega)]
    exact i10
  · rw [e52 33 (by omega)]
    exact i11
def mvN (h g f : zH) (a i n r : Int) : Prop := (¬ ((0 ≤ a ∧ a ≤ 5) ∧ 1 ≤ n ∧ n ≤ 12) ∧ f = g ∧ r = -1) ∨ (((0 ≤ a ∧ a ≤ 5) ∧ 1 ≤ n ∧ n ≤ 12) ∧ h.1 (8 + a.toNat) 0 = -1 ∧ f = g ∧ r = 0) ∨ (((0 ≤ a ∧ a ≤ 5) ∧ 1 ≤ n ∧ n ≤ 12) ∧ ¬ h.1 (8 + a.toNat) 0 = -1 ∧ ¬ h.1 (8 + a.toNat) 0 = 1 ∧ f = g ∧ r = -12) ∨ (((0 ≤ a ∧ a ≤ 5) ∧ 1 ≤ n ∧ n ≤ 12) ∧ h.1 (8 + a.toNat) 0 = 1 ∧ ∃ t : Nat, stpR h a.toNat i n t ∧ mvM h g a.toNat i t f ∧ r = t)
theorem mvM_0 {h g : zH} {k : Nat} {i : Int} (e : g.1 52 37 = h.1 5 3) : mvM h g k i 0 g := ⟨fun _ _ _ => rfl, rfl, fun _ _ => rfl, by omega, fun x => by rw [if_neg (by omega)]⟩
set_option maxHeartbeats 4000000 in
theorem mvm_core {X : zX} {d : Nat} {h g : zH} {a i n : Int} (hd : 6 ≤ d) (C : zCx X d k_X9_moves) (E : zEx X k_X9_moves (fun o f => ∃ r : Int, o = some (sI r) ∧ mvN h g f a i n r)) (hI : Inv2 h) (e1 : ∀ c, c ≠ 39 → c ≠ 5 → g.1 c = h.1 c) (e2 : g.2 = h.2) (q : (0 ≤ a ∧ a ≤ 5) ∧ 1 ≤ n ∧ n ≤ 12) (hi : inR i) (k : Nat) (ek : a = (k : Int)) (c1 : h.1 (8 + k) 0 = 1) (i0 : 0 ≤ i) :
    zJ X 69 [some (sR 52), some (sI a), some (sI i), some (sI n), some (sI 0), some (sI 1)] [] g := by
  have hk : k < 6 := by omega
  have hS := hI.1.2.2.2.2.2.2.2.2.1 k hk
  obtain ⟨j1, j2, j3⟩ := id hI.1.2.2.2.2.1
  obtain ⟨⟨hv1, hv2, hv3, hv4, hv5⟩, -⟩ := id hI.1.1
  have x4 := hI.1.2.1.1.2.2.2.1
  have hd1 : d - 1 + 1 ≤ d := by omega
  have sh : h.1 79 k = h.1 (8 + k) 3 ∧ (0 ≤ h.1 (8 + k) 3 ∧ h.1 (8 + k) 3 ≤ 60) ∧ ∀ j : Nat, j < 60 → h.2 80 (60 * k + j) = h.2 (46 + k) j := by
    rcases hS with ⟨z, -⟩ | ⟨z, -⟩ | ⟨-, -, z⟩
    · omega
    · omega
    · exact z
  obtain ⟨s1, s2, s3⟩ := sh
  have fin : ∀ (t : Nat) (m : Int) (G : zH), stpR h k i n t → mvM h g k i t G → (m = 0 ∨ m = 1) → (m = 0 ∨ (t : Int) = n) → zJ X 69 [some (sR 52), some (sI a), some (sI i), some (sI n), some (sI t), some (sI m)] [] G := by
    intro t m G hst hm m1 m2
    have out : ∃ r : Int, some (sI (t : Int)) = some (sI r) ∧ mvN h g G a i n r := by
      refine ⟨t, rfl, Or.inr (Or.inr (Or.inr ⟨q, ?_, t, ?_, ?_, rfl⟩))⟩
      · rw [ek]; exact c1
      · rw [ek]; exact hst
      · rw [ek]; exact hm
    refine zrun_sound t_X9_moves C E [] 60 _ _ _ _ ?_
    refine And.intro (by omega) (And.intro (fun _ => out) (fun z => ?_))
    refine And.intro (by have := hst.1; omega) (And.intro (by omega) (And.intro (fun _ => out) (fun z2 => absurd z2 (by omega))))
  have loop : ∀ (f t : Nat) (G : zH), (t : Int) + f = n → (∀ j : Nat, j < t → okAt h k i j) → mvM h g k i t G → zJ X 69 [some (sR 52), some (sI a), some (sI i), some (sI n), some (sI t), some (sI 1)] [] G := by
    intro f
    induction f with
    | zero =>
      intro t G ht hall hm
      exact fin t 1 G ⟨by omega, hall, Or.inl (by omega)⟩ hm (Or.inr rfl) (Or.inr (by omega))
    | succ f ih =>
      intro t G ht hall hm
      have hm' := hm
      obtain ⟨m1, m2, m3, m4, m5⟩ := hm'
      have e79 : G.1 79 k = h.1 (8 + k) 3 := by rw [m1 79 (by omega) (by omega), e1 79 (by omega) (by omega)]; exact s1
      have e21 : G.1 52 21 = h.1 2 10 := by rw [m3 21 (by omega), e1 52 (by omega) (by omega)]; exact x4
      have stop : ¬ okAt h k i t → zJ X 120 [some (sR 52), some (sI a), some (sI i), some (sI n), some (sI t), some (sI 1)] [sI 0] G := by
        intro z
        refine zrun_sound t_X9_moves C E [69] 60 _ _ _ _ ?_
        refine And.intro (by decide) (And.intro (fun _ => ?_) (fun z => absurd rfl z))
        exact zJ_le (fin t 0 G ⟨by omega, hall, Or.inr z⟩ hm (Or.inl rfl) (Or.inl rfl)) (And.intro rfl (And.intro rfl (And.intro rfl (And.intro rfl (And.intro (congrArg sI (by omega)) (And.intro rfl trivial)))))) rfl rfl
      have p12 : h.1 5 3 + t ≤ 12 := by
        by_cases z : t = 0
        · omega
        · have := (hall (t - 1) (by omega)).2.2
          omega
      have mv := c_X9_move (d := d - 1) (by omega) G (mvV h k i t) (l2i_in _) (by omega) (by omega)
      rw [e21, m4] at mv
      have kt : ((k : Int)).toNat = k := rfl
      refine zrun_sound t_X9_moves C E [69, 120] 60 _ _ _ _ ?_
      refine And.intro (by decide) (And.intro (fun z => absurd z (by decide)) (fun _ => ?_))
      refine And.intro (by omega) (And.intro (by omega) (And.intro (fun z => absurd z (by omega)) (fun _ => ?_)))
      have a0 : 0 ≤ a := q.1.1
      have a6 : a < 6 := by omega
      refine And.intro a0 (And.intro a6 ?_)
      have eA : G.1 79 a.toNat = h.1 (8 + k) 3 := by rw [ek, kt]; exact e79
      have ib : inR (G.1 79 a.toNat - (t : Int)) := by rw [eA]; omega
      refine And.intro hi (And.intro ib (And.intro (fun z => ?_) (fun z => ?_)))
      · replace z : G.1 79 a.toNat - (t : Int) ≤ i := z
        rw [eA] at z
        exact stop (fun y => by have := y.1.2; omega)
      · replace z : ¬ G.1 79 a.toNat - (t : Int) ≤ i := z
        rw [eA] at z
        have ix0 : 0 ≤ 60 * a + i + (t : Int) := by omega
        have ix1 : 60 * a + i + (t : Int) < 360 := by omega
        refine And.intro ix0 (And.intro ix1 ?_)
        have ev : l2i (G.2 80 (60 * a + i + (t : Int)).toNat) = mvV h k i t := by
          unfold mvV
          rw [m2, e2, show (60 * a + i + (t : Int)).toNat = 60 * k + (i + (t : Int)).toNat by omega, s3 _ (by omega)]
        refine zcall_i (d' := d - 1) hd1 (zC_as (congrArg (fun v => [sR 52, sI v]) ev) mv) ?_
        rintro o G2 (⟨z2, rfl, rfl⟩ | ⟨z2, z3, rfl, rfl⟩ | ⟨z2, z3, rfl, rfl⟩)
        · refine And.intro (by decide) (And.intro (fun _ => ?_) (fun y => absurd (by decide) y))
          exact stop (fun y => z2 y.2.1)
        · refine And.intro (by decide) (And.intro (fun _ => ?_) (fun y => absurd (by decide) y))
          exact stop (fun y => by have := y.2.2; omega)
        · refine And.intro (by omega) (And.intro (fun y => absurd y (by omega)) (fun _ => ?_))
          have hm2 := mvM_s hm j2.1
          rw [m4] at hm2
          refine zrun_sound t_X9_moves C E [69] 60 _ _ _ _ ?_
          refine And.intro (by decide) (And.intro (fun y => absurd y (by decide)) (fun _ => ?_))
          refine zJ_le (ih (t + 1) _ (by omega) (fun j hj => ?_) hm2) (And.intro rfl (And.intro rfl (And.intro rfl (And.intro rfl (And.intro rfl (And.intro rfl trivial)))))) rfl rfl
          by_cases e : j = t
          · subst e
            exact ⟨⟨by omega, by omega⟩, z2, z3⟩
          · exact hall j (by omega)
  exact loop n.toNat 0 g (by omega) (fun j hj => absurd hj (by omega)) (mvM_0 (by rw [e1 52 (by omega) (by omega)]; exact j1))
theorem c_X9_moves {d : Nat} (hd : 6 ≤ d) (h g : zH) (a i n : Int) (ha : inR a) (hi : inR i) (hn : inR n) (hI : Inv2 h) (e1 : ∀ c, c ≠ 39 → c ≠ 5 → g.1 c = h.1 c) (e2 : g.2 = h.2) :
    zC d k_X9_moves [sR 52, sI a, sI i, sI n] g (fun o f => ∃ r : Int, o = some (sI r) ∧ mvN h g f a i n r) := by
  obtain ⟨j1, j2, j3⟩ := id hI.1.2.2.2.2.1
  refine zC_of (by decide +kernel) (Nat.le_of_ble_eq_true rfl) (fun X C E => zrun_sound t_X9_moves C E [44] 80 _ _ _ _ ?_)
  refine zcall_i (d' := d - 1) (by omega) (c_X9_isShelf (by omega) g a ha) ?_
  rintro _ _ ⟨rfl, rfl⟩
  refine And.intro g_in (And.intro (fun c1 => ⟨_, rfl, Or.inl ⟨fun z => g_f c1 z.1, rfl, rfl⟩⟩) (fun c1 => ?_))
  refine zcall_i (d' := d - 1) (by omega) (c_X9_within g _ _ _ n 1 12 (i2l_toInt hn) (by decide) (by decide)) ?_
  rintro _ _ ⟨rfl, rfl⟩
  refine And.intro g_in (And.intro (fun c2 => ?_) (fun c2 => ⟨_, rfl, Or.inl ⟨fun z => g_f c2 z.2, rfl, rfl⟩⟩))
  have q1 := g_t c1
  have q2 := g_t c2
  have a0 : 0 ≤ a := q1.1
  have a6 : a < 6 := by have := q1.2; omega
  obtain ⟨k, ek⟩ : ∃ k : Nat, a = (k : Int) := ⟨a.toNat, by omega⟩
  have ek' : a.toNat = k := by omega
  have e78 : g.1 78 a.toNat = h.1 78 k := by rw [ek', e1 78 (by omega) (by omega)]
  have hS := hI.1.2.2.2.2.2.2.2.2.1 k (by omega)
  have b50 := hI.1.2.2.2.2.2.2.2.1.2.1
  have r0 : ¬ h.1 (8 + k) 0 = 1 → h.1 (8 + k) 0 = -1 → zJ X 69 [some (sR 52), some (sI a), some (sI i), some (sI n), some (sI 0), some (sI 0)] [] g := by
    intro _ c
    refine zrun_sound t_X9_moves C E [] 60 _ _ _ _ ?_
    refine And.intro (by decide) (And.intro (fun _ => ?_) (fun z => absurd rfl z))
    exact ⟨0, rfl, Or.inr (Or.inl ⟨⟨q1, q2⟩, by rw [ek']; exact c, rfl, rfl⟩)⟩
  have r1 : h.1 (8 + k) 0 = 1 → i < 0 → zJ X 69 [some (sR 52), some (sI a), some (sI i), some (sI n), some (sI 0), some (sI 0)] [] g := by
    intro c ni
    refine zrun_sound t_X9_moves C E [] 60 _ _ _ _ ?_
    refine And.intro (by decide) (And.intro (fun _ => ?_) (fun z => absurd rfl z))
    refine ⟨0, rfl, Or.inr (Or.inr (Or.inr ⟨⟨q1, q2⟩, by rw [ek']; exact c, 0, ⟨by omega, fun j hj => absurd hj (by omega), Or.inr (fun y => ?_)⟩, mvM_0 (by rw [e1 52 (by omega) (by omega)]; exact j1), rfl⟩))⟩
    have := y.1.1
    omega
  have c78 : (h.1 (8 + k) 0 = -1 ∧ g.1 78 a.toNat = -1) ∨ (¬ h.1 (8 + k) 0 = -1 ∧ ¬ h.1 (8 + k) 0 = 1 ∧ 0 ≤ g.1 78 a.toNat ∧ g.1 78 a.toNat ≠ 51 ∧ g.1 78 a.toNat ≤ 54) ∨ (h.1 (8 + k) 0 = 1 ∧ g.1 78 a.toNat = 51) := by
    rw [e78]
    rcases hS with ⟨z1, z2⟩ | ⟨z1, z2, z3, z4⟩ | ⟨⟨z1, z2⟩, z3, -⟩
    · exact Or.inl ⟨z1, z2⟩
    · exact Or.inr (Or.inl ⟨by omega, by omega, by omega, by omega, by omega⟩)
    · by_cases z : h.1 (8 + k) 0 = 1
      · exact Or.inr (Or.inr ⟨z, by omega⟩)
      · exact Or.inr (Or.inl ⟨by omega, z, by omega, by omega, by omega⟩)
  have b78 : inR (g.1 78 a.toNat) := by omega
  have tail : (h.1 (8 + k) 0 = -1 ∧ g.1 78 a.toNat = -1) ∨ (h.1 (8 + k) 0 = 1 ∧ g.1 78 a.toNat = 51) → zJ X 44 [some (sR 52), some (sI a), some (sI i), some (sI n)] [] g := by
    intro y
    refine zrun_sound t_X9_moves C E [69] 60 _ _ _ _ ?_
    refine And.intro a0 (And.intro a6 ?_)
    refine And.intro b78 (And.intro (by decide) (And.intro (fun z => ?_) (fun z => ?_)))
    · replace z : g.1 78 a.toNat ≠ 51 := z
      exact zJ_le (r0 (by omega) (by omega)) (And.intro rfl (And.intro rfl (And.intro rfl (And.intro rfl (And.intro rfl (And.intro rfl trivial)))))) rfl rfl
    · replace z : g.1 78 a.toNat = 51 := z
      refine And.intro hi (And.intro (fun z2 => ?_) (fun z2 => ?_))
      · replace z2 : i < 0 := z2
        exact zJ_le (r1 (by omega) z2) (And.intro rfl (And.intro rfl (And.intro rfl (And.intro rfl (And.intro rfl (And.intro rfl trivial)))))) rfl rfl
      · replace z2 : ¬ i < 0 := z2
        exact zJ_le (mvm_core hd C E hI e1 e2 ⟨q1, q2⟩ hi k ek (by omega) (by omega)) (And.intro rfl (And.intro rfl (And.intro rfl (And.intro rfl (And.intro rfl (And.intro rfl trivial)))))) rfl rfl
  refine And.intro a0 (And.intro a6 ?_)
  refine And.intro b78 (And.intro (fun z => ?_) (fun z => ?_))
  · replace z : g.1 78 a.toNat < 0 := z
    exact zJ_le (tail (by omega)) (And.intro rfl (And.intro rfl (And.intro rfl (And.intro rfl trivial)))) rfl rfl
  · replace z : ¬ g.1 78 a.toNat < 0 := z
    refine And.intro a0 (And.intro a6 ?_)
    refine And.intro b78 (And.intro (by decide) (And.intro (fun z2 => ?_) (fun z2 => ?_)))
    · replace z2 : g.1 78 a.toNat = 51 := z2
      exact zJ_le (tail (by omega)) (And.intro rfl (And.intro rfl (And.intro rfl (And.intro rfl trivial)))) rfl rfl
    · replace z2 : ¬ g.1 78 a.toNat = 51 := z2
      exact ⟨-12, rfl, Or.inr (Or.inr (Or.inl ⟨⟨q1, q2⟩, by rw [ek']; omega, by rw [ek']; omega, rfl, rfl⟩))⟩
theorem pr_moves {d : Nat} (hd : 6 ≤ d) {a i n : Int} (ha : inR a) (hi : inR i) (hn : inR n) : Pair2 d k_X8_moves k_X9_moves [sI a, sI i, sI n] := fun h hI => by
  obtain ⟨j1, j2, j3⟩ := id hI.1.2.2.2.2.1
  refine zC_mono (c_X8_moves hd h a i n ha hi hn hI.1.1 (Ishf0_of hI.1.2.2.2.2.2.2.2.2.1 (by have := hI.1.2.2.2.2.2.2.2.1.2.1; omega)) j2) ?_
  rintro o g ⟨r, rfl, hr⟩
  rcases hr with ⟨q, rfl, rfl⟩ | ⟨q, c, rfl, rfl⟩ | ⟨q, c1, c2, rfl, rfl⟩ | ⟨q, c, t, st, mc, rfl⟩
  · refine ⟨_, rfl, zC_mono (c_X9_moves hd g g a i n ha hi hn hI (fun _ _ _ => rfl) rfl) ?_⟩
    rintro o f ⟨r, rfl, ⟨y, rfl, rfl⟩ | ⟨y, -⟩ | ⟨y, -⟩ | ⟨y, -⟩⟩
    · exact ⟨rfl, hI⟩
    all_goals exact absurd y q
  · refine ⟨_, rfl, zC_mono (c_X9_moves hd g g a i n ha hi hn hI (fun _ _ _ => rfl) rfl) ?_⟩
    rintro o f ⟨r, rfl, ⟨y, -⟩ | ⟨y, -, rfl, rfl⟩ | ⟨y, y2, -⟩ | ⟨y, y2, -⟩⟩
    · exact absurd q y
    · exact ⟨rfl, hI⟩
    · exact absurd c y2
    · omega
  · refine ⟨_, rfl, zC_mono (c_X9_moves hd g g a i n ha hi hn hI (fun _ _ _ => rfl) rfl) ?_⟩
    rintro o f ⟨r, rfl, ⟨y, -⟩ | ⟨y, y2, -⟩ | ⟨y, -, -, rfl, rfl⟩ | ⟨y, y2, -⟩⟩
    · exact absurd q y
    · exact absurd y2 c1
    · exact ⟨rfl, hI⟩
    · exact absurd y2 c2
  · have mc' := mc
    obtain ⟨k1, k2, k3, k4, k5⟩ := mc'
    refine ⟨_, rfl, zC_mono (c_X9_moves hd h g a i n ha hi hn hI k1 k2) ?_⟩
    rintro o f ⟨r, rfl, ⟨y, -⟩ | ⟨y, y2, -⟩ | ⟨y, y2, y3, -⟩ | ⟨y, y2, t', st', mm, rfl⟩⟩
    · exact absurd q y
    · omega
    · exact absurd c y3
    · have := stpR_u st st'
      subst this
      obtain ⟨n1, n2, n3, n4, n5⟩ := mm
      have p12 : h.1 5 3 + t ≤ 12 := by
        by_cases z : t = 0
        · omega
        · have := (st.2.1 (t - 1) (by omega)).2.2
          omega
      have f53 : f.1 5 3 = h.1 5 3 + t := by rw [n1 5 (by omega) (by omega)]; exact k4
      refine ⟨rfl, Inv_pln hI (fun c h1 h2 h3 h4 => (n1 c h3 h4).trans (k1 c h2 h1)) (n2.trans k2) (fun x hx => (n3 x hx).trans (by rw [k1 52 (by omega) (by omega)])) ⟨by rw [n4, f53], by omega, fun x hx => ?_⟩⟩
      rw [f53] at hx
      rw [n1 39 (by omega) (by omega), n5 x, k5 x, n1 2 (by omega) (by omega), k1 2 (by omega) (by omega)]
      by_cases z : h.1 5 3 ≤ x
      · rw [if_pos ⟨z, hx⟩, if_pos ⟨z, hx⟩]
        have := (st.2.1 (x - (h.1 5 3).toNat) (by omega)).2.1
        exact ⟨rfl, this⟩
      · rw [if_neg (fun y => z y.1), if_neg (fun y => z y.1), k1 74 (by omega) (by omega)]
        exact j3 x (by omega)
