/-! ===== judge, wet, chance: the reference ===== -/
abbrev frD : Nat → Nat → Bool := fun c i => c == 52 && (i == 39 || i == 40 || i == 41)
abbrev frM : Nat → Nat → Bool := fun c i => c == 69 || c == 70 || c == 71 || (c == 52 && (i == 27 || i == 39 || i == 40 || i == 41))
theorem Inv_M {h g : zH} (hI : Inv2 h) (hf : fr frM h g) : Inv2 g := by
  have e := fun c (q : ∀ i, frM c i = false) => (funext fun i => (hf c i (q i)).1 : g.1 c = h.1 c)
  have hs : Isea g := Isea_c hI.1.2.2.1 (fun c a b => e c (fun i => by simp [frM]; omega)) (e 2 (fun i => rfl)) ⟨(hf 3 3 rfl).1, (hf 3 4 rfl).1⟩ (e 33 (fun i => rfl)) (e 34 (fun i => rfl))
  refine Inv_gen hI hs (fun c h5 q => funext fun i => (hf c i ?_).1) (fun c h5 q => funext fun i => (hf c i ?_).2) (hf 5 3 rfl).1 (fun i h1 h2 h3 h4 => (hf 52 i ?_).1)
  · simp [own52] at q
    simp [frM]
    omega
  · simp [own52] at q
    simp [frM]
    omega
  · simp [frM]
    omega
theorem kpJ_M {h g : zH} (hf : fr frM h g) : kpJ h g := ⟨fun c hc => funext fun i => (hf c i (by simp [frM]; omega)).1, (hf 5 3 rfl).1⟩
/-- the reference while it walks: laid out for sort σ and the sea hi, the walker at p m y -/
def WM (h G : zH) (c : Int) (w : Nat) (p m y : Nat) : Prop := Lay G (c / 10).toNat (hiR h (c % 10).toNat (2 ^ w) (h.1 2 4).toNat) (beR h) (h.1 2 8).toNat (h.1 2 10).toNat ∧ (∀ x, x = 53 ∨ x = 66 ∨ x = 67 ∨ x = 68 ∨ x = 74 → G.1 x = h.1 x) ∧ G.1 52 31 = -1 ∧ G.1 52 34 = -1 ∧ G.1 52 37 = h.1 52 37 ∧ G.1 52 21 = h.1 52 21 ∧ G.1 52 39 = p ∧ G.1 52 40 = m ∧ G.1 52 41 = y
theorem c_goesM {d : Nat} (hd : 1 ≤ d) (h G : zH) (c : Int) (w p m y : Nat) (v m1 y1 : Nat) (hI : Inv2 h) (hc : okT h c) (hw : w < (h.1 2 4).toNat) (hW : WM h G c w p m y) (hv : v < (h.1 2 10).toNat) (hm : m1 < 1440) (hy : y1 ≤ 3) :
    zC d k_X9_goes [sR 52, sI v, sI m1, sI y1] G (fun o g => G = g ∧ isB o (goP (h.1 30 v) (h.1 31 v) (takeF (h.1 28 v) (h.1 32 (c / 10).toNat) y1) (hi1 h c w) (h.1 29 v) m1)) := by
  have hV := hI.1.1
  have hE := hI.1.2.1
  obtain ⟨⟨hv1, hv2, hv3, hv4, hv5⟩, hVt, hVw, hVp, hVy, hVh, hVs⟩ := id hV
  obtain ⟨⟨x1, x2, x3, x4, x5, x6⟩, e1, e2, e3, e4, e5, e6⟩ := id hE
  obtain ⟨m1', m2', m3'⟩ := id hI.1.2.2.2.2.2.2.2.2.2
  obtain ⟨hL, he, e31, -⟩ := hW
  obtain ⟨c1, c2, c3⟩ := hc
  have e53 := he 53 (by omega)
  have e68 := he 68 (by omega)
  have ew := e5 v (by omega)
  have hh := hVh v (by omega)
  have hy' := (hVy v (by omega)).2.2.2
  have hsrt := hVs (c / 10).toNat (by omega)
  have es := e6 (c / 10).toNat (by omega)
  have go := c_X9_goes (d := d) (by omega) G v m1 y1 (c / 10).toNat (h.1 2 8).toNat (h.1 2 10).toNat _ _ hL (by omega) (by omega) (by omega) (by omega) (by omega) (by rw [e68, ew.2.2.1]; exact hy') (by rw [e53, es]; exact hsrt) (by omega) (by rw [e53, ew.2.2.2.2.1]; omega) (by rw [e53, ew.2.2.2.2.2]; omega)
  have same : goP (fsR G v) (lsR G v) (takeF (G.1 68 v) (G.1 53 (84 + (c / 10).toNat)) (y1 : Int)) (hiR h (c % 10).toNat (2 ^ w) (h.1 2 4).toNat) (beR h v) m1 ↔ goP (h.1 30 v) (h.1 31 v) (takeF (h.1 28 v) (h.1 32 (c / 10).toNat) y1) (hi1 h c w) (h.1 29 v) m1 := by
    have f1 : fsR G v = h.1 30 v := by
      unfold fsR
      rw [e31, if_neg (by omega), e53]
      exact ew.2.2.2.2.1
    have f2 : lsR G v = h.1 31 v := by
      unfold lsR
      rw [e31, if_neg (by omega), e53]
      exact ew.2.2.2.2.2
    have f3 : beR h v = h.1 29 v := by
      unfold beR
      rw [m2', if_neg (by omega), Int.add_zero]
      exact ew.2.2.2.1
    rw [f1, f2, f3, e68, e53, ew.2.2.1, es]
    exact goP_c (fun j _ => hiR_Q hV hE (by omega) (by omega) (pw_ok hw) j)
  refine zC_mono go ?_
  rintro o g ⟨rfl, ⟨rfl, z⟩ | ⟨rfl, z⟩⟩
  · exact ⟨rfl, Or.inl ⟨rfl, same.mp z⟩⟩
  · exact ⟨rfl, Or.inr ⟨rfl, fun q => z (same.mpr q)⟩⟩
theorem c_waitsM {d : Nat} (h G : zH) (c : Int) (w p m y : Nat) (p1 m1 : Nat) (hI : Inv2 h) (hc : okT h c) (hw : w < (h.1 2 4).toNat) (hW : WM h G c w p m y) (hp : p1 < (h.1 2 8).toNat) (hm : m1 < 1440) :
    zC d k_X9_waits [sR 52, sI p1, sI m1] G (fun o g => G = g ∧ isB o (wtP (hi1 h c w) (h.1 25 p1) m1)) := by
  have hV := hI.1.1
  have hE := hI.1.2.1
  obtain ⟨⟨hv1, hv2, hv3, hv4, hv5⟩, -⟩ := id hV
  obtain ⟨hL, he, -, e34, -⟩ := hW
  obtain ⟨c1, c2, c3⟩ := hc
  have e53 := he 53 (by omega)
  have wa := c_X9_waits (d := d) G p1 m1 (c / 10).toNat (h.1 2 8).toNat (h.1 2 10).toNat _ _ hL hp (by omega) hm (by omega)
  have same : (¬ (p1 : Int) = G.1 52 34 ∧ wtP (hiR h (c % 10).toNat (2 ^ w) (h.1 2 4).toNat) (G.1 53 p1) m1) ↔ wtP (hi1 h c w) (h.1 25 p1) m1 := by
    rw [e34, e53, hE.2.2.2.2.1 p1 (by omega)]
    have := wtP_c (sf := h.1 25 p1) (m := m1) (fun j (_ : j < 1440) => hiR_Q hV hE (t := (c % 10).toNat) (n := (h.1 2 4).toNat) (by omega) (by omega) (pw_ok hw) j)
    exact ⟨fun q => this.mp q.2, fun q => ⟨by omega, this.mpr q⟩⟩
  refine zC_mono wa ?_
  rintro o g ⟨rfl, ⟨rfl, z⟩ | ⟨rfl, z⟩⟩
  · exact ⟨rfl, Or.inl ⟨rfl, same.mp z⟩⟩
  · exact ⟨rfl, Or.inr ⟨rfl, fun q => z (same.mpr q)⟩⟩
set_option maxHeartbeats 2000000 in
theorem c_X9_doesMove {d : Nat} (hd : 4 ≤ d) (h G : zH) (c : Int) (w p m y i : Nat) (v : Int) (hI : Inv2 h) (hc : okT h c) (hw : w < (h.1 2 4).toNat) (hW : WM h G c w p m y) (hp : p < (h.1 2 8).toNat) (hm : m < 1440) (hy : y ≤ 3) (hv : (0 ≤ v ∧ v < h.1 2 10) ∨ (101 ≤ v ∧ v ≤ 340)) :
    zC d k_X9_doesMove [sR 52, sI v] G (fun o g => (mvOK h.1 (c / 10).toNat (hi1 h c w) v p m y ∧ o = some (sI 1) ∧ fr frD G g ∧ WM h g c w (nxP h.1 v p) (nxM h.1 (c / 10).toNat v m y) (nxY v y)) ∨ (¬ mvOK h.1 (c / 10).toNat (hi1 h c w) v p m y ∧ o = some (sI 0) ∧ g = G)) := by
  have hV := hI.1.1
  have hE := hI.1.2.1
  obtain ⟨⟨hv1, hv2, hv3, hv4, hv5⟩, hVt, hVw, hVp, hVy, hVh, hVs⟩ := id hV
  obtain ⟨⟨x1, x2, x3, x4, x5, x6⟩, e1, e2, e3, e4, e5, e6⟩ := id hE
  have hW2 := hW
  obtain ⟨hL, he, g31, g34, g37, g21, g39, g40, g41⟩ := hW2
  obtain ⟨c1, c2, c3⟩ := id hc
  have hd1 : d - 1 + 1 ≤ d := by omega
  refine zC_of (by decide +kernel) (Nat.le_of_ble_eq_true rfl) (fun X C E => ?_)
  have loop : 101 ≤ v → v ≤ 340 → ∀ (f k : Nat), (k : Int) + f = v - 100 → (∀ j : Nat, j < k → wtP (hi1 h c w) (h.1 25 p) (m + j)) → zJ X 91 [some (sR 52), some (sI v), some (sI k)] [] G := by
    intro v1 v2 f
    induction f with
    | zero =>
      intro k hk hall
      refine zrun_sound t_X9_doesMove C E [] 60 _ _ _ _ ?_
      refine And.intro (by omega) (And.intro (by omega) (And.intro (fun _ => ?_) (fun z => absurd (by omega) z)))
      have ok : mvOK h.1 (c / 10).toNat (hi1 h c w) v p m y := ⟨fun q => absurd q (by omega), fun _ j hj => hall j (by omega)⟩
      have nP : nxP h.1 v p = p := by unfold nxP; rw [if_neg (by omega)]
      have nM : nxM h.1 (c / 10).toNat v m y = m + (v - 100).toNat := by unfold nxM; rw [if_neg (by omega)]
      have nY : nxY v y = y := by unfold nxY; rw [if_neg (by omega)]
      refine And.intro (Or.inr rfl) (Or.inl ⟨ok, rfl, fr_setI (fr_rfl _ _) rfl, hL, fun x hx => ?_, g31, g34, g37, g21, ?_, ?_, ?_⟩)
      · rw [setI_ne (by omega)]
        exact he x hx
      · rw [nP]
        exact g39
      · rw [nM]
        show G.1 52 40 + (v - 100) = _
        rw [g40]
        omega
      · rw [nY]
        exact g41
    | succ f ih =>
      intro k hk hall
      have mk : m + k < 1440 := by
        by_cases e : k = 0
        · omega
        · have := (hall (k - 1) (by omega)).1
          omega
      have wa := c_waitsM (d := d - 1) h G c w p m y p (m + k) hI hc hw hW hp mk
      have ez : ((m + k : Nat) : Int) = (m : Int) + k := by omega
      rw [ez] at wa
      refine zrun_sound t_X9_doesMove C E [91] 60 _ _ _ _ ?_
      refine And.intro (by omega) (And.intro (by omega) (And.intro (fun z => absurd z (by omega)) (fun _ => ?_)))
      refine zcall_i (d' := d - 1) hd1 (zC_as (by simp only [g39, g40]) wa) ?_
      rintro o g ⟨rfl, ⟨rfl, z⟩ | ⟨rfl, z⟩⟩
      · refine And.intro (by decide) (And.intro (fun _ => ?_) (fun q => absurd q (by decide)))
        refine zJ_le (ih (k + 1) (by omega) (fun j hj => ?_)) (And.intro rfl (And.intro rfl (And.intro rfl trivial))) rfl rfl
        by_cases e : j = k
        · subst e
          exact z
        · exact hall j (by omega)
      · refine And.intro (by decide) (And.intro (fun q => absurd rfl q) (fun _ => ?_))
        exact And.intro (Or.inl rfl) (Or.inr ⟨fun q => z (q.2 (by omega) k (by omega)), rfl, rfl⟩)
  refine zrun_sound t_X9_doesMove C E [91] 80 _ _ _ _ ?_
  refine And.intro (by omega) (And.intro (by omega) (And.intro (fun z => ?_) (fun z => ?_)))
  · have hv' : 101 ≤ v ∧ v ≤ 340 := by omega
    exact zJ_le (loop hv'.1 hv'.2 (v - 100).toNat 0 (by omega) (fun j hj => absurd hj (by omega))) (And.intro rfl (And.intro rfl (And.intro rfl trivial))) rfl rfl
  · obtain ⟨u, hu⟩ : ∃ u : Nat, v = u := ⟨v.toNat, by omega⟩
    subst hu
    have hu : u < (h.1 2 10).toNat := by omega
    have tu : ((u : Int)).toNat = u := rfl
    have ey := hVy u (by omega)
    have e66 : G.1 66 u = h.1 26 u := by rw [he 66 (by omega)]; exact (e5 u (by omega)).1
    have e67 : G.1 67 u = h.1 27 u := by rw [he 67 (by omega)]; exact (e5 u (by omega)).2.1
    have oth := c_X9_otherEnd (d := d - 1) G u p (by omega) (by omega) (by rw [e66]; omega) (by rw [e67]; omega)
    have ofE : otherF (G.1 66) (G.1 67) u p = if h.1 26 u = p then h.1 27 u else if h.1 27 u = p then h.1 26 u else -1 := by
      unfold otherF
      rw [e66, e67]
    rw [ofE] at oth
    refine zcall_i (d' := d - 1) hd1 (zC_as (by simp only [g39]) oth) ?_
    rintro _ _ ⟨rfl, rfl⟩
    by_cases lead : h.1 26 u = p ∨ h.1 27 u = p
    · have oE : (if h.1 26 u = p then h.1 27 u else if h.1 27 u = p then h.1 26 u else -1) = ((nxP h.1 u p : Nat) : Int) := by
        have nE : nxP h.1 u p = if h.1 26 u = p then (h.1 27 u).toNat else (h.1 26 u).toNat := by
          unfold nxP
          rw [if_pos (show (u : Int) ≤ 100 by omega)]
          rfl
        rw [nE]
        by_cases q : h.1 26 u = p
        · rw [if_pos q, if_pos q]
          omega
        · rw [if_neg q, if_neg q, if_pos (by rcases lead with z2 | z2; exact absurd z2 q; exact z2)]
          omega
      rw [oE]
      have tb := (takeF_b (y := (y : Int)) ey.2.2.2 (hVs (c / 10).toNat (by omega)) (by omega)).2
      refine And.intro (show inR ((nxP h.1 u p : Nat) : Int) from ?_) (And.intro (fun q => absurd q (by omega)) (fun _ => ?_))
      · unfold nxP
        rw [if_pos (by omega), tu]
        split <;> omega
      · refine zcall_i (d' := d - 1) hd1 (zC_as (by simp only [g40, g41]) (c_goesM (by omega) h G c w p m y u m y hI hc hw hW hu hm hy)) ?_
        rintro o g ⟨rfl, ⟨rfl, z2⟩ | ⟨rfl, z2⟩⟩
        · have ok : mvOK h.1 (c / 10).toNat (hi1 h c w) u p m y := ⟨fun _ => ⟨lead, z2⟩, fun q => absurd q (by omega)⟩
          have nM : (m : Int) + takeF (h.1 28 u) (h.1 32 (c / 10).toNat) y = nxM h.1 (c / 10).toNat u m y := by
            unfold nxM
            rw [if_pos (by omega), tu]
            omega
          refine And.intro (by decide) (And.intro (fun _ => ?_) (fun q => absurd q (by decide)))
          have e68 : G.1 68 u = h.1 28 u := by rw [he 68 (by omega)]; exact (e5 u (by omega)).2.2.1
          have e84 : G.1 53 (84 + (c / 10).toNat) = h.1 32 (c / 10).toNat := by rw [he 53 (by omega)]; exact e6 _ (by omega)
          have tk := c_X9_takesOf (d := d - 1) (setI G 52 39 (nxP h.1 u p : Nat)) u (c / 10).toNat y (by omega) (by omega) (by omega) (show 1 ≤ G.1 68 u ∧ G.1 68 u ≤ 90 by rw [e68]; exact ey.2.2.2) (show 50 ≤ G.1 53 (84 + (c / 10).toNat) ∧ G.1 53 (84 + (c / 10).toNat) ≤ 400 by rw [e84]; exact hVs _ (by omega))
          have tk' : zC (d - 1) k_X9_takesOf [sR 52, sI u, sI (G.1 52 27), sI (G.1 52 41)] (setI G 52 39 (nxP h.1 u p : Nat)) (fun o g => (setI G 52 39 (nxP h.1 u p : Nat)) = g ∧ o = some (sI (takeF (h.1 28 u) (h.1 32 (c / 10).toNat) y))) := by
            rw [hL.1, g41, ← e68, ← e84]
            exact tk
          refine zcall_i (d' := d - 1) hd1 tk' ?_
          rintro _ _ ⟨rfl, rfl⟩
          refine And.intro (show inR (G.1 52 41) by omega) (And.intro (by decide) (And.intro (fun z3 => ?_) (fun z3 => ?_)))
          · replace z3 : 3 ≤ G.1 52 41 := z3
            refine And.intro (Or.inr rfl) (Or.inl ⟨ok, rfl, fr_setI (fr_setI (fr_setI (fr_rfl _ _) rfl) rfl) rfl, hL, fun x hx => ?_, g31, g34, g37, g21, rfl, ?_, ?_⟩)
            · rw [setI_ne (by omega), setI_ne (by omega), setI_ne (by omega)]
              exact he x hx
            · show G.1 52 40 + takeF (h.1 28 u) (h.1 32 (c / 10).toNat) y = _
              rw [g40, nM]
            · show G.1 52 41 + 0 = ((nxY u y : Nat) : Int)
              unfold nxY
              rw [if_pos (by omega)]
              omega
          · replace z3 : ¬ 3 ≤ G.1 52 41 := z3
            refine And.intro (Or.inr rfl) (Or.inl ⟨ok, rfl, fr_setI (fr_setI (fr_setI (fr_rfl _ _) rfl) rfl) rfl, hL, fun x hx => ?_, g31, g34, g37, g21, rfl, ?_, ?_⟩)
            · rw [setI_ne (by omega), setI_ne (by omega), setI_ne (by omega)]
              exact he x hx
            · show G.1 52 40 + takeF (h.1 28 u) (h.1 32 (c / 10).toNat) y = _
              rw [g40, nM]
            · show G.1 52 41 + 1 = ((nxY u y : Nat) : Int)
              unfold nxY
              rw [if_pos (by omega)]
              omega
        · refine And.intro (by decide) (And.intro (fun q => absurd rfl q) (fun _ => ?_))
          exact And.intro (Or.inl rfl) (Or.inr ⟨fun q => z2 (q.1 (by omega)).2, rfl, rfl⟩)
    · have oE : (if h.1 26 u = p then h.1 27 u else if h.1 27 u = p then h.1 26 u else -1) = -1 := by
        rw [if_neg (fun q => lead (Or.inl q)), if_neg (fun q => lead (Or.inr q))]
      rw [oE]
      refine And.intro (by decide) (And.intro (fun _ => ?_) (fun q => absurd (by decide) q))
      exact And.intro (Or.inl rfl) (Or.inr ⟨fun q => lead (q.1 (by omega)).1, rfl, rfl⟩)
set_option maxHeartbeats 2000000 in
theorem c_X9_goPlan {d : Nat} (hd : 6 ≤ d) (h : zH) (a c s' : Int) (w : Nat) (hI : Inv2 h) (ha : okF h a) (hc : okT h c) (hw : w < (h.1 2 4).toNat) (es : s' = ((2 ^ w : Nat) : Int)) :
    zC d k_X9_goPlan [sR 52, sI a, sI c, sI s'] h (fun o g => fr frM h g ∧ ∃ (r : Int) (k : Nat), o = some (sI r) ∧ plR h a c w r k ∧ WM h g c w (plS h a c k).1 (plS h a c k).2.1 (plS h a c k).2.2) := by
  have hV := hI.1.1
  have hE := hI.1.2.1
  obtain ⟨⟨hv1, hv2, hv3, hv4, hv5⟩, hVt, hVw, hVp, hVy, hVh, hVs⟩ := id hV
  obtain ⟨m1, m2, m3⟩ := id hI.1.2.2.2.2.2.2.2.2.2
  obtain ⟨p1, p2, p3⟩ := id hI.1.2.2.2.2.1
  obtain ⟨a1, a2, a3⟩ := id ha
  obtain ⟨c1, c2, c3⟩ := id hc
  have hd1 : d - 1 + 1 ≤ d := by omega
  have hR := WR_of (σ := (c / 10).toNat) hV hI.1.2.2.2.2.1 (by omega)
  have hs32 : 2 ^ w < 32 := Nat.lt_of_lt_of_le (pw_ok hw).2 (Nat.pow_le_pow_right (by omega) (show (h.1 2 4).toNat ≤ 5 by omega))
  have hlay := c_X9_layOut (d := d - 1) (by omega) h c (c / 10).toNat (c % 10).toNat (2 ^ w) (h.1 2 4).toNat (h.1 2 8).toNat (h.1 2 10).toNat ⟨c1, by omega⟩ (by omega) (by omega) (VR_of hV hE (Imw_of ⟨m1, m2, m3⟩ hI.2) (by omega) (by omega) (by omega) (by omega)) hs32
  rw [← es] at hlay
  refine zC_of (by decide +kernel) (Nat.le_of_ble_eq_true rfl) (fun X C E => ?_)
  have loop : ∀ (f i : Nat) (G : zH), i + f = (h.1 5 3).toNat → okN h.1 (c / 10).toNat (hi1 h c w) (a / 10000).toNat (a % 10000).toNat i → WM h G c w (plS h a c i).1 (plS h a c i).2.1 (plS h a c i).2.2 → fr frM h G → zJ X 32 [some (sR 52), some (sI a), some (sI c), some (sI s'), some (sI i)] [] G := by
    intro f
    induction f with
    | zero =>
      intro i G hif hok hW hf
      have e37 : G.1 52 37 = h.1 5 3 := hW.2.2.2.2.1.trans p1
      refine zrun_sound t_X9_goPlan C E [] 60 _ _ _ _ ?_
      refine And.intro (by omega) (And.intro (by omega) (And.intro (fun _ => ?_) (fun z => absurd (by omega) z)))
      exact And.intro hf ⟨-2, i, rfl, ⟨hok, Or.inl ⟨rfl, by omega⟩⟩, hW⟩
    | succ f ih =>
      intro i G hif hok hW hf
      have e37 : G.1 52 37 = h.1 5 3 := hW.2.2.2.2.1.trans p1
      have e74 : G.1 74 i = h.1 39 i := by rw [hW.2.1 74 (by omega)]; exact (p3 i (by omega)).1
      obtain ⟨w1, w2, w3⟩ := wk_in hR (by omega) (by omega) i (by omega) hok
      have k0 : (0 : Int) ≤ (i : Int) := by omega
      have k1 : (i : Int) < 12 := by omega
      refine zrun_sound t_X9_goPlan C E [32] 60 _ _ _ _ ?_
      refine And.intro (by omega) (And.intro (by omega) (And.intro (fun z => absurd z (by omega)) (fun _ => ?_)))
      refine And.intro k0 (And.intro k1 ?_)
      refine zcall_i (d' := d - 1) hd1 (zC_as (by simp only [tnat, e74]) (c_X9_doesMove (by omega) h G c w _ _ _ i (h.1 39 i) hI hc hw hW w1 w2 w3 (p3 i (by omega)).2)) ?_
      rintro o G2 (⟨hmv, rfl, hf2, hW2⟩ | ⟨hmv, rfl, rfl⟩)
      · refine And.intro (by decide) (And.intro (fun _ => ?_) (fun q => absurd q (by decide)))
        refine zJ_le (ih (i + 1) G2 (by omega) (fun j hj => ?_) hW2 (fr_trans hf (fr_sub hf2 (fun c i q => by simp [frD, frM] at q ⊢; omega)))) (And.intro rfl (And.intro rfl (And.intro rfl (And.intro rfl (And.intro rfl trivial))))) rfl rfl
        by_cases e : j = i
        · subst e
          exact hmv
        · exact hok j (by omega)
      · refine And.intro (by decide) (And.intro (fun q => absurd rfl q) (fun _ => ?_))
        exact And.intro hf ⟨i, i, rfl, ⟨hok, Or.inr ⟨rfl, by omega, hmv⟩⟩, hW⟩
  refine zrun_sound t_X9_goPlan C E [32] 60 _ _ _ _ ?_
  refine zcall_i (d' := d - 1) hd1 hlay ?_
  rintro _ G ⟨rfl, hf, hL⟩
  refine And.intro ⟨a1, by omega⟩ (And.intro (by decide) (And.intro ⟨a1, by omega⟩ (And.intro (by decide) ?_)))
  have hfM : fr frM h G := fr_sub hf (fun c i q => by simp [frL, frM] at q ⊢; omega)
  refine zJ_le (loop (h.1 5 3).toNat 0 (setI (setI (setI G 52 39 ((a / 10000).toNat : Int)) 52 40 ((a % 10000).toNat : Int)) 52 41 0) (by omega) (fun j hj => absurd hj (by omega)) ⟨hL, fun x hx => ?_, (hf 52 31 rfl).1.trans m1, (hf 52 34 rfl).1.trans m3, (hf 52 37 rfl).1, (hf 52 21 rfl).1, rfl, rfl, rfl⟩ (fr_setI (fr_setI (fr_setI hfM rfl) rfl) rfl)) (And.intro rfl (And.intro rfl (And.intro rfl (And.intro rfl (And.intro rfl trivial))))) rfl (by rw [show ((a / 10000).toNat : Int) = a / 10000 by omega, show ((a % 10000).toNat : Int) = a % 10000 by omega])
  rw [setI_ne (by omega), setI_ne (by omega), setI_ne (by omega)]
  exact funext fun i => (hf x i (by simp [frL]; omega)).1
