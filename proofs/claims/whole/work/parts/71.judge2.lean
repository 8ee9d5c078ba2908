set_option maxHeartbeats 1000000 in
theorem c_X9_judge {d : Nat} (hd : 8 ≤ d) (h : zH) (a c e f : Int) (ha : inR a) (hc : inR c) (he : inR e) (hf : inR f) (hI : Inv2 h) :
    zC d k_X9_judge [sR 52, sI a, sI c, sI e, sI f] h (fun o g => fr frM h g ∧ ∃ r : Int, o = some (sI r) ∧ judgeA h a c e f r) := by
  have hV := hI.1.1
  have hE := hI.1.2.1
  obtain ⟨hv1, hv2, hv3, hv4, hv5⟩ := id hV.1
  obtain ⟨x1, x2, x3, x4, x5, x6⟩ := id hE.1
  have hd1 : d - 1 + 1 ≤ d := by omega
  have r0 : fr frM h h := fr_rfl _ _
  have g1 := c_X9_isFrom (d := d - 1) (by omega) h a ha (by omega)
  have g2 := c_X9_isSt (d := d - 1) (by omega) h c hc (by omega)
  have g3 := c_X9_isWind (d := d - 1) (by omega) h e he (by omega)
  rw [x3] at g1
  rw [x1] at g2
  rw [x2] at g3
  refine zC_of (by decide +kernel) (Nat.le_of_ble_eq_true rfl) (fun X C E => zrun_sound t_X9_judge C E [] 80 _ _ _ _ ?_)
  refine zcall_i (d' := d - 1) hd1 g1 ?_
  rintro _ _ ⟨rfl, rfl⟩
  refine And.intro g_in (And.intro (fun c1 => And.intro r0 ⟨_, rfl, Or.inl ⟨fun z => g_f c1 z.1.1, rfl⟩⟩) (fun c1 => ?_))
  refine zcall_i (d' := d - 1) hd1 g2 ?_
  rintro _ _ ⟨rfl, rfl⟩
  refine And.intro g_in (And.intro (fun c2 => And.intro r0 ⟨_, rfl, Or.inl ⟨fun z => g_f c2 z.1.2.1, rfl⟩⟩) (fun c2 => ?_))
  refine zcall_i (d' := d - 1) hd1 g3 ?_
  rintro _ _ ⟨rfl, rfl⟩
  refine And.intro g_in (And.intro (fun c3 => And.intro r0 ⟨_, rfl, Or.inl ⟨fun z => g_f c3 z.1.2.2, rfl⟩⟩) (fun c3 => ?_))
  refine zcall_i (d' := d - 1) hd1 (c_X9_within h (i2l f) 0 2 f 0 2 (i2l_toInt hf) (by decide) (by decide)) ?_
  rintro _ _ ⟨rfl, rfl⟩
  refine And.intro g_in (And.intro (fun c4 => ?_) (fun c4 => And.intro r0 ⟨_, rfl, Or.inl ⟨fun z => g_f c4 z.2, rfl⟩⟩))
  have q1 := g_t c1
  replace q1 : okF h a := q1
  have q2 := g_t c2
  replace q2 : okT h c := q2
  have q3 := g_t c3
  have q4 := g_t c4
  have q : okJ h a c e ∧ 0 ≤ f ∧ f ≤ 2 := ⟨⟨q1, q2, q3⟩, q4⟩
  have es : shl32 1 e = ((2 ^ e.toNat : Nat) : Int) := by
    have := shl1_w (w := e.toNat) (by omega)
    rw [show ((e.toNat : Nat) : Int) = e by omega] at this
    exact this
  refine zcall_i (d' := d - 1) hd1 (c_X9_goPlan (by omega) h a c _ e.toNat hI q1 q2 (by omega) es) ?_
  rintro _ g ⟨hf2, x, k, rfl, hx, hW⟩
  refine And.intro hf (And.intro (fun z => ?_) (fun z => ?_))
  · refine And.intro hf (And.intro (by decide) (And.intro (fun z2 => ?_) (fun z2 => ?_)))
    · exact And.intro hf2 ⟨_, rfl, Or.inr ⟨q, x, k, hx, by rw [if_neg z, if_neg z2]; exact hW.2.2.2.2.2.2.1⟩⟩
    · exact And.intro hf2 ⟨_, rfl, Or.inr ⟨q, x, k, hx, by rw [if_neg z, if_pos z2]; exact hW.2.2.2.2.2.2.2.1⟩⟩
  · exact And.intro hf2 ⟨_, rfl, Or.inr ⟨q, x, k, hx, by rw [if_pos z]⟩⟩
theorem pr_judge {d : Nat} (hd : 8 ≤ d) {a c e f : Int} (ha : inR a) (hc : inR c) (he : inR e) (hf : inR f) : Pair2 d k_X8_judge k_X9_judge [sI a, sI c, sI e, sI f] := fun h hI => by
  refine zC_mono (c_X8_judge (by omega) h a c e f ha hc he hf hI.1.1 hI.1.2.2.1 hI.1.2.2.2.2.1) ?_
  rintro o g ⟨hf1, hs, r, rfl, hr⟩
  have hI2 := Inv_W hI hs hf1
  refine ⟨r, rfl, zC_mono (c_X9_judge hd g a c e f ha hc he hf hI2) ?_⟩
  rintro o g' ⟨hf2, r', rfl, hr'⟩
  rw [judgeA_u hr (judgeA_k (kpJ_W hf1) hr')]
  exact ⟨rfl, Inv_M hI2 hf2⟩
set_option maxHeartbeats 2000000 in
theorem c_X9_wet {d : Nat} (hd : 8 ≤ d) (h : zH) (a c e : Int) (ha : inR a) (hc : inR c) (he : inR e) (hI : Inv2 h) :
    zC d k_X9_wet [sR 52, sI a, sI c, sI e] h (fun o g => fr frM h g ∧ ∃ r : Int, o = some (sI r) ∧ wetA h a c e r) := by
  have hV := hI.1.1
  have hE := hI.1.2.1
  obtain ⟨⟨hv1, hv2, hv3, hv4, hv5⟩, hVt, hVw, hVp, hVy, hVh, hVs⟩ := id hV
  obtain ⟨⟨x1, x2, x3, x4, x5, x6⟩, e1, e2, e3, e4, e5, e6⟩ := id hE
  have hd1 : d - 1 + 1 ≤ d := by omega
  have r0 : fr frM h h := fr_rfl _ _
  have g1 := c_X9_isFrom (d := d - 1) (by omega) h a ha (by omega)
  have g2 := c_X9_isSt (d := d - 1) (by omega) h c hc (by omega)
  have g3 := c_X9_isWind (d := d - 1) (by omega) h e he (by omega)
  rw [x3] at g1
  rw [x1] at g2
  rw [x2] at g3
  refine zC_of (by decide +kernel) (Nat.le_of_ble_eq_true rfl) (fun X C EE => ?_)
  have main : okJ h a c e → ∀ (g : zH) (x : Int) (k p m y : Nat), fr frM h g → plR h a c e.toNat x k → ¬ x = -2 → plS h a c k = (p, m, y) → p < (h.1 2 8).toNat → m < 1440 → y ≤ 3 → WM h g c e.toNat p m y → zJ X 49 [some (sR 52), some (sI a), some (sI c), some (sI e), some (sI m)] [] g := by
    intro q g x k p m y hfg hx hx2 hS hp hm hy hW
    obtain ⟨q1, q2, q3⟩ := id q
    have hW2 := hW
    obtain ⟨hL, he', g31, g34, g37, g21, g39, g40, g41⟩ := hW2
    have eN : g.1 52 21 = h.1 2 10 := g21.trans x4
    have fin : ∀ r : Int, wetR h.1 (c / 10).toNat (hi1 h c e.toNat) (h.1 2 10).toNat p m y r → ∃ r' : Int, some (sI r) = some (sI r') ∧ wetA h a c e r' := fun r hr => ⟨r, rfl, Or.inr ⟨q, x, k, hx, Or.inr ⟨hx2, by rw [hS]; exact hr⟩⟩⟩
    have ways : ∀ T : Nat, T < 1439 → m ≤ T → ¬ wtP (hi1 h c e.toNat) (h.1 25 p) T → (∀ t : Nat, m ≤ t → t < T → wtP (hi1 h c e.toNat) (h.1 25 p) t) → ∀ (f w : Nat), w + f = (h.1 2 10).toNat → (∀ v : Nat, v < w → ¬ ((h.1 26 v = p ∨ h.1 27 v = p) ∧ goP (h.1 30 v) (h.1 31 v) (takeF (h.1 28 v) (h.1 32 (c / 10).toNat) y) (hi1 h c e.toNat) (h.1 29 v) T)) → zJ X 82 [some (sR 52), some (sI a), some (sI c), some (sI e), some (sI T), some (sI w)] [] g := by
      intro T hT hmT hn hall f
      induction f with
      | zero =>
        intro w hw hno
        refine zrun_sound t_X9_wet C EE [] 60 _ _ _ _ ?_
        refine And.intro (by omega) (And.intro (by omega) (And.intro (fun _ => ?_) (fun z => absurd (by omega) z)))
        exact And.intro hfg (fin T ⟨T, ⟨hmT, by omega⟩, hn, hall, Or.inr (Or.inr ⟨hT, fun ⟨v, v1, v2⟩ => hno v (by omega) v2, rfl⟩)⟩)
      | succ f ih =>
        intro w hw hno
        have ey := hVy w (by omega)
        have e66 : g.1 66 w = h.1 26 w := by rw [he' 66 (by omega)]; exact (e5 w (by omega)).1
        have e67 : g.1 67 w = h.1 27 w := by rw [he' 67 (by omega)]; exact (e5 w (by omega)).2.1
        have nxt : ¬ ((h.1 26 w = p ∨ h.1 27 w = p) ∧ goP (h.1 30 w) (h.1 31 w) (takeF (h.1 28 w) (h.1 32 (c / 10).toNat) y) (hi1 h c e.toNat) (h.1 29 w) T) → zJ X 122 [some (sR 52), some (sI a), some (sI c), some (sI e), some (sI T), some (sI w)] [] g := by
          intro hnw
          refine zrun_sound t_X9_wet C EE [82] 60 _ _ _ _ ?_
          refine zJ_le (ih (w + 1) (by omega) (fun v hv => ?_)) (And.intro rfl (And.intro rfl (And.intro rfl (And.intro rfl (And.intro rfl (And.intro rfl trivial)))))) rfl rfl
          by_cases ev : v = w
          · subst ev
            exact hnw
          · exact hno v (by omega)
        have oth := c_X9_otherEnd (d := d - 1) g w p (by omega) (by omega) (by rw [e66]; omega) (by rw [e67]; omega)
        have ofE : otherF (g.1 66) (g.1 67) w p = if h.1 26 w = p then h.1 27 w else if h.1 27 w = p then h.1 26 w else -1 := by
          unfold otherF
          rw [e66, e67]
        rw [ofE] at oth
        refine zrun_sound t_X9_wet C EE [122] 60 _ _ _ _ ?_
        refine And.intro (by omega) (And.intro (by omega) (And.intro (fun z => absurd z (by omega)) (fun _ => ?_)))
        refine zcall_i (d' := d - 1) hd1 (zC_as (by simp only [g39]) oth) ?_
        rintro _ _ ⟨rfl, rfl⟩
        by_cases lead : h.1 26 w = p ∨ h.1 27 w = p
        · have oR : 0 ≤ (if h.1 26 w = p then h.1 27 w else if h.1 27 w = p then h.1 26 w else -1) ∧ (if h.1 26 w = p then h.1 27 w else if h.1 27 w = p then h.1 26 w else -1) ≤ 12 := by
            by_cases z : h.1 26 w = p
            · rw [if_pos z]
              omega
            · rw [if_neg z, if_pos (by rcases lead with z2 | z2; exact absurd z2 z; exact z2)]
              omega
          refine And.intro ⟨by omega, by omega⟩ (And.intro (fun z => absurd z (by omega)) (fun _ => ?_))
          refine zcall_i (d' := d - 1) hd1 (zC_as (by simp only [g41]) (c_goesM (by omega) h g c e.toNat p m y w T y hI q2 (by omega) hW (by omega) (by omega) hy)) ?_
          rintro o g' ⟨rfl, ⟨rfl, z2⟩ | ⟨rfl, z2⟩⟩
          · refine And.intro (by decide) (And.intro (fun z => absurd z (by decide)) (fun _ => ?_))
            exact And.intro hfg (fin (-2) ⟨T, ⟨hmT, by omega⟩, hn, hall, Or.inr (Or.inl ⟨hT, ⟨w, by omega, lead, z2⟩, rfl⟩)⟩)
          · refine And.intro (by decide) (And.intro (fun _ => ?_) (fun z => absurd rfl z))
            exact nxt (fun z => z2 z.2)
        · have oE : (if h.1 26 w = p then h.1 27 w else if h.1 27 w = p then h.1 26 w else -1) = -1 := by
            rw [if_neg (fun z => lead (Or.inl z)), if_neg (fun z => lead (Or.inr z))]
          rw [oE]
          refine And.intro (by decide) (And.intro (fun _ => ?_) (fun z => absurd (by decide) z))
          exact nxt (fun z => lead z.1)
    have wait : ∀ (f t : Nat), t + f = 1440 → m ≤ t → (∀ t' : Nat, m ≤ t' → t' < t → wtP (hi1 h c e.toNat) (h.1 25 p) t') → t < 1440 → zJ X 49 [some (sR 52), some (sI a), some (sI c), some (sI e), some (sI t)] [] g := by
      intro f
      induction f with
      | zero =>
        intro t ht h1 h2 h3
        omega
      | succ f ih =>
        intro t ht h1 h2 h3
        refine zrun_sound t_X9_wet C EE [49, 82] 60 _ _ _ _ ?_
        refine zcall_i (d' := d - 1) hd1 (zC_as (by simp only [g39]) (c_waitsM h g c e.toNat p m y p t hI q2 (by omega) hW hp h3)) ?_
        rintro o g' ⟨rfl, ⟨rfl, z⟩ | ⟨rfl, z⟩⟩
        · refine And.intro (by decide) (And.intro (fun z => absurd z (by decide)) (fun _ => ?_))
          have := z.1
          refine zJ_le (ih (t + 1) (by omega) (by omega) (fun t' t1 t2 => ?_) (by omega)) (And.intro rfl (And.intro rfl (And.intro rfl (And.intro rfl (And.intro rfl trivial))))) rfl rfl
          by_cases e : t' = t
          · subst e
            exact z
          · exact h2 t' t1 (by omega)
        · refine And.intro (by decide) (And.intro (fun _ => ?_) (fun z => absurd rfl z))
          refine And.intro (by omega) (And.intro (by decide) (And.intro (fun z2 => ?_) (fun z2 => ?_)))
          · exact zJ_le (ways t (by omega) h1 z h2 (h.1 2 10).toNat 0 (by omega) (fun v hv => absurd hv (by omega))) (And.intro rfl (And.intro rfl (And.intro rfl (And.intro rfl (And.intro rfl (And.intro rfl trivial)))))) rfl rfl
          · exact And.intro hfg (fin (-2) ⟨t, ⟨h1, by omega⟩, z, h2, Or.inl ⟨by omega, rfl⟩⟩)
    exact wait (1440 - m) m (by omega) (by omega) (fun t' t1 t2 => absurd t2 (by omega)) hm
  refine zrun_sound t_X9_wet C EE [49] 80 _ _ _ _ ?_
  refine zcall_i (d' := d - 1) hd1 g1 ?_
  rintro _ _ ⟨rfl, rfl⟩
  refine And.intro g_in (And.intro (fun c1 => And.intro r0 ⟨_, rfl, Or.inl ⟨fun z => g_f c1 z.1, rfl⟩⟩) (fun c1 => ?_))
  refine zcall_i (d' := d - 1) hd1 g2 ?_
  rintro _ _ ⟨rfl, rfl⟩
  refine And.intro g_in (And.intro (fun c2 => And.intro r0 ⟨_, rfl, Or.inl ⟨fun z => g_f c2 z.2.1, rfl⟩⟩) (fun c2 => ?_))
  refine zcall_i (d' := d - 1) hd1 g3 ?_
  rintro _ _ ⟨rfl, rfl⟩
  refine And.intro g_in (And.intro (fun c3 => ?_) (fun c3 => And.intro r0 ⟨_, rfl, Or.inl ⟨fun z => g_f c3 z.2.2, rfl⟩⟩))
  have q1 := g_t c1
  replace q1 : okF h a := q1
  have q2 := g_t c2
  replace q2 : okT h c := q2
  have q3 := g_t c3
  have q : okJ h a c e := ⟨q1, q2, q3⟩
  obtain ⟨oc1, oc2, oc3⟩ := id q2
  obtain ⟨oa1, oa2, oa3⟩ := id q1
  have es : shl32 1 e = ((2 ^ e.toNat : Nat) : Int) := by
    have := shl1_w (w := e.toNat) (by omega)
    rw [show ((e.toNat : Nat) : Int) = e by omega] at this
    exact this
  refine zcall_i (d' := d - 1) hd1 (c_X9_goPlan (by omega) h a c _ e.toNat hI q1 q2 (by omega) es) ?_
  rintro _ g ⟨hf2, x, k, rfl, hx, hW⟩
  have hP := hI.1.2.2.2.2.1
  have hR := WR_of (σ := (c / 10).toNat) hV hP (by omega)
  have kn : k ≤ (h.1 5 3).toNat := by
    rcases hx.2 with z | z <;> omega
  have xr : inR x := by
    rcases hx.2 with z | z <;> have := hP.2.1 <;> omega
  have win := wk_in hR (by omega) (by omega) k kn hx.1
  refine And.intro xr (And.intro (by decide) (And.intro (fun z => ?_) (fun z => ?_)))
  · exact zJ_le (main q g x k _ _ _ hf2 hx z rfl win.1 win.2.1 win.2.2 hW) (And.intro rfl (And.intro rfl (And.intro rfl (And.intro rfl (And.intro (congrArg sI hW.2.2.2.2.2.2.2.1.symm) trivial))))) rfl rfl
  · exact And.intro hf2 ⟨_, rfl, Or.inr ⟨q, x, k, hx, Or.inl ⟨z, rfl⟩⟩⟩
theorem pr_wet {d : Nat} (hd : 8 ≤ d) {a c e : Int} (ha : inR a) (hc : inR c) (he : inR e) : Pair2 d k_X8_wet k_X9_wet [sI a, sI c, sI e] := fun h hI => by
  refine zC_mono (c_X8_wet (by omega) h a c e ha hc he hI.1.1 hI.1.2.2.1 hI.1.2.2.2.2.1) ?_
  rintro o g ⟨hf1, hs, r, rfl, hr⟩
  have hI2 := Inv_W hI hs hf1
  refine ⟨r, rfl, zC_mono (c_X9_wet hd g a c e ha hc he hI2) ?_⟩
  rintro o g' ⟨hf2, r', rfl, hr'⟩
  rw [wetA_u hr (wetA_k (kpJ_W hf1) hr')]
  exact ⟨rfl, Inv_M hI2 hf2⟩
set_option maxHeartbeats 2000000 in
theorem c_X9_chance {d : Nat} (hd : 8 ≤ d) (h : zH) (a c : Int) (ha : inR a) (hc : inR c) (hI : Inv2 h) :
    zC d k_X9_chance [sR 52, sI a, sI c] h (fun o g => fr frM h g ∧ ∃ r : Int, o = some (sI r) ∧ chanceA h a c r) := by
  have hV := hI.1.1
  have hE := hI.1.2.1
  obtain ⟨hv1, hv2, hv3, hv4, hv5⟩ := id hV.1
  obtain ⟨x1, x2, x3, x4, x5, x6⟩ := id hE.1
  obtain ⟨w1, w2, w3⟩ := aw_ok hV
  have hd1 : d - 1 + 1 ≤ d := by omega
  have r0 : fr frM h h := fr_rfl _ _
  have g1 := c_X9_isFrom (d := d - 1) (by omega) h a ha (by omega)
  have g2 := c_X9_isSt (d := d - 1) (by omega) h c hc (by omega)
  rw [x3] at g1
  rw [x1] at g2
  have ce : ∀ w, w < (h.1 2 4).toNat → h.1 65 w = h.1 24 w := fun w hw => (hE.2.2.2.1 w (by omega)).2.2
  obtain ⟨s, s1, s2, s3⟩ := bitsF_nat (goesW h a c) (h.1 2 4).toNat (by omega)
  have b1 := fun n hn => chF_b (f := h.1 24) (s := s) n (fun w hw => Vw_c hV w (Nat.lt_of_lt_of_le hw hn))
  have ca := ch_aw hV
  refine zC_of (by decide +kernel) (Nat.le_of_ble_eq_true rfl) (fun X C E => ?_)
  have loop : okF h a → okT h c → ∀ (f w : Nat) (H : zH), w + f = (h.1 2 4).toNat → fr frM h H → zJ X 23 [some (sR 52), some (sI a), some (sI c), some (sI (chF (h.1 24) s w)), some (sI w)] [] H := by
    intro oa oc f
    induction f with
    | zero =>
      intro w H hw hf
      have e16 : H.1 52 16 = h.1 2 4 := ((hf 52 16 rfl).1).trans x2
      have e65 : H.1 65 = h.1 65 := funext fun i => (hf 65 i rfl).1
      have : w = (h.1 2 4).toNat := by omega
      subst this
      have hall := c_X9_allWinds (d := d - 1) H (by omega)
      rw [e16, w3] at hall
      have hch := c_X9_chancesOf (d := d - 1) H (aw h) (h.1 2 4).toNat (aw32 hV) (by omega) (by omega)
      rw [e65, chF_c (g := h.1 24) _ ce] at hch
      have bs := b1 (h.1 2 4).toNat (Nat.le_refl _)
      refine zrun_sound t_X9_chance C E [] 60 _ _ _ _ ?_
      refine And.intro (by omega) (And.intro (by omega) (And.intro (fun _ => ?_) (fun z => absurd (by omega) z)))
      refine zcall_i (d' := d - 1) hd1 hall ?_
      rintro _ _ ⟨rfl, rfl⟩
      refine zcall_i (d' := d - 1) hd1 hch ?_
      rintro _ _ ⟨rfl, rfl⟩
      refine And.intro (by omega) (And.intro (by omega) ?_)
      refine And.intro hf ⟨_, rfl, Or.inr ⟨⟨oa, oc⟩, s, s2, s3, ?_⟩⟩
      unfold thF
      rw [Int.mul_comm]
    | succ f ih =>
      intro w H hw hf
      have e16 : H.1 52 16 = h.1 2 4 := ((hf 52 16 rfl).1).trans x2
      have hIH := Inv_M hI hf
      have kj := kpJ_M hf
      have oa' : okF H a := by rw [(kpJ_ok kj).2.1]; exact oa
      have oc' : okT H c := by rw [(kpJ_ok kj).2.2]; exact oc
      obtain ⟨k1, k2, k3⟩ := kpJ_pl kj a c w
      have e24 : H.1 2 4 = h.1 2 4 := (hf 2 4 rfl).1
      refine zrun_sound t_X9_chance C E [23, 59] 80 _ _ _ _ ?_
      refine And.intro (by omega) (And.intro (by omega) (And.intro (fun z => absurd z (by omega)) (fun _ => ?_)))
      refine zcall_i (d' := d - 1) hd1 (c_X9_goPlan (by omega) H a c _ w hIH oa' oc' (by rw [e24]; omega) (shl1_w (by omega))) ?_
      rintro _ g ⟨hf2, x, k, rfl, hx, -⟩
      rw [k1] at hx
      have x2' := plR_2 hx
      have xr : inR x := by
        rcases hx.2 with z | z <;> have := hI.1.2.2.2.2.1.2.1 <;> omega
      have nx := ih (w + 1) g (by omega) (fr_trans hf hf2)
      have cs : chF (h.1 24) s (w + 1) = if s / 2 ^ w % 2 = 1 then chF (h.1 24) s w + h.1 24 w else chF (h.1 24) s w := rfl
      have at59 : ∀ v : Int, chF (h.1 24) s w + v = chF (h.1 24) s (w + 1) → zJ X 59 [some (sR 52), some (sI a), some (sI c), some (sI (chF (h.1 24) s w)), some (sI w)] [sI v, sI (chF (h.1 24) s w)] g := by
        intro v hv
        refine zrun_sound t_X9_chance C E [23] 60 _ _ _ _ ?_
        exact zJ_le nx (And.intro rfl (And.intro rfl (And.intro rfl (And.intro (congrArg sI hv.symm) (And.intro rfl trivial))))) rfl rfl
      refine And.intro xr (And.intro (by decide) (And.intro (fun z => ?_) (fun z => ?_)))
      · refine at59 0 ?_
        rw [cs, if_neg (fun q => z (x2'.mpr ((s3 w (by omega)).mp q))), Int.add_zero]
      · have k0 : (0 : Int) ≤ (w : Int) := by omega
        have k1 : (w : Int) < 5 := by omega
        refine And.intro k0 (And.intro k1 ?_)
        refine at59 _ ?_
        have e65 : g.1 65 w = h.1 24 w := by
          rw [(hf2 65 w rfl).1, (hf 65 w rfl).1, ce w (by omega)]
        show chF (h.1 24) s w + g.1 65 w = _
        rw [cs, if_pos ((s3 w (by omega)).mpr (x2'.mp z)), e65]
  refine zrun_sound t_X9_chance C E [23] 60 _ _ _ _ ?_
  refine zcall_i (d' := d - 1) hd1 g1 ?_
  rintro _ _ ⟨rfl, rfl⟩
  refine And.intro g_in (And.intro (fun c1 => And.intro r0 ⟨_, rfl, Or.inl ⟨fun z => g_f c1 z.1, rfl⟩⟩) (fun c1 => ?_))
  refine zcall_i (d' := d - 1) hd1 g2 ?_
  rintro _ _ ⟨rfl, rfl⟩
  refine And.intro g_in (And.intro (fun c2 => ?_) (fun c2 => And.intro r0 ⟨_, rfl, Or.inl ⟨fun z => g_f c2 z.2, rfl⟩⟩))
  have q1 := g_t c1
  replace q1 : okF h a := q1
  have q2 := g_t c2
  replace q2 : okT h c := q2
  exact zJ_le (loop q1 q2 (h.1 2 4).toNat 0 h (by omega) r0) (And.intro rfl (And.intro rfl (And.intro rfl (And.intro rfl (And.intro rfl trivial))))) rfl rfl
theorem pr_chance {d : Nat} (hd : 8 ≤ d) {a c : Int} (ha : inR a) (hc : inR c) : Pair2 d k_X8_chance k_X9_chance [sI a, sI c] := fun h hI => by
  refine zC_mono (c_X8_chance (by omega) h a c ha hc hI.1.1 hI.1.2.2.1 hI.1.2.2.2.2.1) ?_
  rintro o g ⟨hf1, hs, r, rfl, hr⟩
  have hI2 := Inv_W hI hs hf1
  refine ⟨r, rfl, zC_mono (c_X9_chance hd g a c ha hc hI2) ?_⟩
  rintro o g' ⟨hf2, r', rfl, hr'⟩
  rw [chanceA_u hr (chanceA_k (kpJ_W hf1) (funext fun i => (hf1 24 i rfl).1) hr')]
  exact ⟨rfl, Inv_M hI2 hf2⟩
