/-! ===== worth, higher ===== -/
def ok4 (h : zH) (a b c e : Int) : Prop := okY h a ∧ okF h b ∧ okP h c ∧ okT h e
theorem kpR_ok4 {h g : zH} (k : kpR h g) (a b c e : Int) : ok4 g a b c e = ok4 h a b c e := by
  obtain ⟨k1, k2, k3, k4⟩ := kpR_ok k
  unfold ok4 okY
  rw [k1, k2, k3, k4]
noncomputable def dyV (h : zH) (b c e F M Y : Int) : Int := dayO (soonV (SZ h e (aw h) F M Y (-1)) (b / 10000).toNat (b % 10000).toNat c.toNat 1439)
theorem kpR_dyV {h g : zH} (k : kpR h g) (b c e F M Y : Int) : dyV g b c e F M Y = dyV h b c e F M Y := by
  unfold dyV
  rw [kpR_SZ k, kpR_aw k]
theorem dyV_b (h : zH) (b c e F M Y : Int) : 0 ≤ dyV h b c e F M Y ∧ dyV h b c e F M Y ≤ 1440 := dayO_b _ _ _ _
def worthA (h : zH) (a b c e r : Int) : Prop := (¬ ok4 h a b c e ∧ r = -1) ∨ (ok4 h a b c e ∧ r = dyV h b c e (-1) (-1) 0 - dyV h b c e a (-1) 0)
theorem worthA_u {h : zH} {a b c e r r' : Int} (x : worthA h a b c e r) (y : worthA h a b c e r') : r = r' := by
  rcases x with ⟨x1, x2⟩ | ⟨x1, x2⟩ <;> rcases y with ⟨y1, y2⟩ | ⟨y1, y2⟩ <;> first | exact absurd x1 y1 | exact absurd y1 x1 | omega
theorem worthA_k {h g : zH} (k : kpR h g) {a b c e r : Int} (x : worthA g a b c e r) : worthA h a b c e r := by
  unfold worthA at *
  rw [kpR_ok4 k, kpR_dyV k, kpR_dyV k] at x
  exact x
theorem fr_hours {g g4 : zH} {w : Nat} (hf : fr frS (setI (setI g 30 w 0) 31 w 1439) g4) : fr frS g (setI (setI g4 30 w (g.1 30 w)) 31 w (g.1 31 w)) := by
  intro c i q
  have k := hf c i q
  refine ⟨?_, k.2⟩
  rw [setI_at, setI_at, k.1, setI_at, setI_at]
  by_cases e1 : c = 31 ∧ i = w
  · rw [if_pos e1, e1.1, e1.2]
  · rw [if_neg e1, if_neg e1]
    by_cases e2 : c = 30 ∧ i = w
    · rw [if_pos e2, e2.1, e2.2]
    · rw [if_neg e2, if_neg e2]
theorem fr_height {g g4 : zH} {w : Nat} {v : Int} (hf : fr frS (setI g 29 w v) g4) : fr frS g (setI g4 29 w (g.1 29 w)) := by
  intro c i q
  have k := hf c i q
  refine ⟨?_, k.2⟩
  rw [setI_at, k.1, setI_at]
  by_cases e2 : c = 29 ∧ i = w
  · rw [if_pos e2, e2.1, e2.2]
  · rw [if_neg e2, if_neg e2]
set_option maxHeartbeats 2000000 in
theorem c_X8_worth {d : Nat} (hd : 8 ≤ d) (h : zH) (a b c e : Int) (ha : inR a) (hb : inR b) (hc : inR c) (he : inR e) (hV : VV h) (hI : Isea h) :
    zC d k_X8_worth [sR 0, sI a, sI b, sI c, sI e] h (fun o g => fr frK h g ∧ Isea g ∧ ∃ r : Int, o = some (sI r) ∧ worthA h a b c e r) := by
  obtain ⟨hv1, hv2, hv3, hv4, hv5⟩ := id hV.1
  obtain ⟨w1, w2, w3⟩ := aw_ok hV
  refine zC_of (by decide +kernel) (Nat.le_of_ble_eq_true rfl) (fun X C E => zrun_sound t_X8_worth C E [] 80 _ _ _ _ ?_)
  refine zcall_i (d' := d - 1) (by omega) (c_X8_isWay (by omega) h a ha hv4) ?_
  rintro _ _ ⟨rfl, rfl⟩
  refine And.intro g_in (And.intro (fun c1 => And.intro (fr_rfl _ _) (And.intro hI ⟨_, rfl, Or.inl ⟨fun z => g_f c1 z.1, rfl⟩⟩)) (fun c1 => ?_))
  refine zcall_i (d' := d - 1) (by omega) (c_X8_isFrom (by omega) h b hb hv3) ?_
  rintro _ _ ⟨rfl, rfl⟩
  refine And.intro g_in (And.intro (fun c2 => And.intro (fr_rfl _ _) (And.intro hI ⟨_, rfl, Or.inl ⟨fun z => g_f c2 z.2.1, rfl⟩⟩)) (fun c2 => ?_))
  refine zcall_i (d' := d - 1) (by omega) (c_X8_isPlace (by omega) h c hc hv3) ?_
  rintro _ _ ⟨rfl, rfl⟩
  refine And.intro g_in (And.intro (fun c3 => And.intro (fr_rfl _ _) (And.intro hI ⟨_, rfl, Or.inl ⟨fun z => g_f c3 z.2.2.1, rfl⟩⟩)) (fun c3 => ?_))
  refine zcall_i (d' := d - 1) (by omega) (c_X8_isSortAndTide (by omega) h e he hv1) ?_
  rintro _ _ ⟨rfl, rfl⟩
  refine And.intro g_in (And.intro (fun c4 => ?_) (fun c4 => And.intro (fr_rfl _ _) (And.intro hI ⟨_, rfl, Or.inl ⟨fun z => g_f c4 z.2.2.2, rfl⟩⟩)))
  have q1 := g_t c1
  replace q1 : okY h a := q1
  have q2 := g_t c2
  replace q2 : okF h b := q2
  have q3 := g_t c3
  replace q3 : okP h c := q3
  have q4 := g_t c4
  replace q4 : okT h e := q4
  have k0 : 0 ≤ a := q1.1
  have k1 : a < 24 := by have := q1.2; omega
  have kw : a.toNat < (h.1 2 10).toNat := by have := q1.2; omega
  have hd1 : d - 1 + 1 ≤ d := by omega
  have hd6 : 6 ≤ d - 1 := by omega
  refine zcall_i (d' := d - 1) hd1 (c_X2_allWinds h (by omega)) ?_
  rintro _ _ ⟨rfl, rfl⟩
  refine zcall_i (d' := d - 1) hd1 (c_prepX (by omega) h e _ (aw h) hV hI q4 w3 ⟨w1, w2⟩) ?_
  rintro _ g ⟨rfl, hf, hs, hq⟩
  refine zcall_i (d' := d - 1) hd1 (c_X8_soonOrDay hd6 h g b c e (aw h) (-1) (-1) 0 (-1) hV hq q2 q3) ?_
  rintro _ g2 ⟨hf2, rfl⟩
  have hq2 := QZ_hours (w := a.toNat) (QZ_S hq hf2)
  rw [show ((a.toNat : Nat) : Int) = a by omega] at hq2
  refine And.intro k0 (And.intro k1 (And.intro k0 (And.intro k1 (And.intro k0 (And.intro k1 (And.intro k0 (And.intro k1 ?_)))))))
  refine zcall_i (d' := d - 1) hd1 (c_X8_soonOrDay hd6 h _ b c e (aw h) a (-1) 0 (-1) hV hq2 q2 q3) ?_
  rintro _ g4 ⟨hf4, rfl⟩
  refine And.intro k0 (And.intro k1 (And.intro k0 (And.intro k1 ?_)))
  have hf5 := fr_hours hf4
  exact And.intro (fr_trans (fr_trans hf (frK_S hf2)) (frK_S hf5)) (And.intro (Isea_S (Isea_S hs hf2) hf5) ⟨_, rfl, Or.inr ⟨⟨q1, q2, q3, q4⟩, rfl⟩⟩)
/-- what the reference's askings of this kind begin with -/
theorem ok4_M {d : Nat} (hd : 3 ≤ d) (h : zH) (a b c e : Int) (ha : inR a) (hb : inR b) (hc : inR c) (he : inR e) (hV : VV h) (hE : Ieq h) : zC (d - 1) k_X9_isWay [sR 52, sI a] h (fun o g => h = g ∧ o = some (sI (if 0 ≤ a ∧ a < h.1 2 10 then 1 else 0))) ∧ zC (d - 1) k_X9_isFrom [sR 52, sI b] h (fun o g => h = g ∧ o = some (sI (if 0 ≤ b ∧ b / 10000 < h.1 2 8 ∧ b % 10000 ≤ 1439 then 1 else 0))) ∧ zC (d - 1) k_X9_isPlace [sR 52, sI c] h (fun o g => h = g ∧ o = some (sI (if 0 ≤ c ∧ c < h.1 2 8 then 1 else 0))) ∧ zC (d - 1) k_X9_isSt [sR 52, sI e] h (fun o g => h = g ∧ o = some (sI (if 0 ≤ e ∧ e / 10 ≤ 3 ∧ e % 10 < h.1 2 0 then 1 else 0))) := by
  obtain ⟨hv1, hv2, hv3, hv4, hv5⟩ := id hV.1
  obtain ⟨x1, x2, x3, x4, x5, x6⟩ := id hE.1
  have g0 := c_X9_isWay (d := d - 1) (by omega) h a ha (by omega)
  have g1 := c_X9_isFrom (d := d - 1) (by omega) h b hb (by omega)
  have g2 := c_X9_isPlace (d := d - 1) (by omega) h c hc (by omega)
  have g3 := c_X9_isSt (d := d - 1) (by omega) h e he (by omega)
  rw [x4] at g0
  rw [x3] at g1 g2
  rw [x1] at g3
  exact ⟨g0, g1, g2, g3⟩
set_option maxHeartbeats 2000000 in
theorem c_X9_worth {d : Nat} (hd : 8 ≤ d) (h : zH) (a b c e : Int) (ha : inR a) (hb : inR b) (hc : inR c) (he : inR e) (hI : Inv2 h) :
    zC d k_X9_worth [sR 52, sI a, sI b, sI c, sI e] h (fun o g => Inv2 g ∧ ∃ r : Int, o = some (sI r) ∧ worthA h a b c e r) := by
  have hV := hI.1.1
  have hE := hI.1.2.1
  obtain ⟨hv1, hv2, hv3, hv4, hv5⟩ := id hV.1
  obtain ⟨m1, m2, m3⟩ := id hI.1.2.2.2.2.2.2.2.2.2
  have m4 := hI.2
  obtain ⟨g0, g1, g2, g3⟩ := ok4_M (d := d) (by omega) h a b c e ha hb hc he hV hE
  refine zC_of (by decide +kernel) (Nat.le_of_ble_eq_true rfl) (fun X C E => zrun_sound t_X9_worth C E [] 80 _ _ _ _ ?_)
  refine zcall_i (d' := d - 1) (by omega) g0 ?_
  rintro _ _ ⟨rfl, rfl⟩
  refine And.intro g_in (And.intro (fun c1 => And.intro hI ⟨_, rfl, Or.inl ⟨fun z => g_f c1 z.1, rfl⟩⟩) (fun c1 => ?_))
  refine zcall_i (d' := d - 1) (by omega) g1 ?_
  rintro _ _ ⟨rfl, rfl⟩
  refine And.intro g_in (And.intro (fun c2 => And.intro hI ⟨_, rfl, Or.inl ⟨fun z => g_f c2 z.2.1, rfl⟩⟩) (fun c2 => ?_))
  refine zcall_i (d' := d - 1) (by omega) g2 ?_
  rintro _ _ ⟨rfl, rfl⟩
  refine And.intro g_in (And.intro (fun c3 => And.intro hI ⟨_, rfl, Or.inl ⟨fun z => g_f c3 z.2.2.1, rfl⟩⟩) (fun c3 => ?_))
  refine zcall_i (d' := d - 1) (by omega) g3 ?_
  rintro _ _ ⟨rfl, rfl⟩
  refine And.intro g_in (And.intro (fun c4 => ?_) (fun c4 => And.intro hI ⟨_, rfl, Or.inl ⟨fun z => g_f c4 z.2.2.2, rfl⟩⟩))
  have q1 := g_t c1
  replace q1 : okY h a := q1
  have q2 := g_t c2
  replace q2 : okF h b := q2
  have q3 := g_t c3
  replace q3 : okP h c := q3
  have q4 := g_t c4
  replace q4 : okT h e := q4
  have k0 : 0 ≤ a := q1.1
  have k1 : a < 24 := by have := q1.2; omega
  have hd1 : d - 1 + 1 ≤ d := by omega
  refine zcall_i (d' := d - 1) hd1 (c_neverK (by omega) h h b c e (-1) (-1) (h.1 52 33) (-1) (kpR_0 h) hV hE (Imw_of ⟨m1, m2, m3⟩ m4) q2 q3 q4 m1 m2 rfl m3) ?_
  rintro _ g ⟨hf, rfl⟩
  have kk : kpR h (setI g 52 31 a) := kpR_i (kpR_R hf) (Or.inl rfl)
  have i2 : (setI g 52 31 a).1 52 32 = -1 := (hf 52 32 rfl).1.trans m2
  have i3 : (setI g 52 31 a).1 52 34 = -1 := (hf 52 34 rfl).1.trans m3
  have i4 : (setI g 52 31 a).1 52 33 = h.1 52 33 := (hf 52 33 rfl).1
  have hW : Imw (setI g 52 31 a) := by
    refine ⟨?_, by omega, by omega, by omega⟩
    show -1 ≤ a ∧ a ≤ 24
    omega
  refine zcall_i (d' := d - 1) hd1 (c_neverK (by omega) h _ b c e a (-1) (h.1 52 33) (-1) kk hV hE hW q2 q3 q4 rfl i2 i4 i3) ?_
  rintro _ g5 ⟨hf5, rfl⟩
  have kk5 : kpR h (setI g5 52 31 (-1)) := kpR_i (kpR_t kk (kpR_R hf5)) (Or.inl rfl)
  have s4 : Isea g := kpR_sea hf hI.1.2.2.1
  have s4' : Isea (setI g 52 31 a) := s4
  have s5 : Isea g5 := kpR_sea hf5 s4'
  refine And.intro (kpR_I kk5 hI s5 rfl ((hf5 52 32 rfl).1.trans i2) ((hf5 52 34 rfl).1.trans i3) ?_) ⟨_, rfl, Or.inr ⟨⟨q1, q2, q3, q4⟩, ?_⟩⟩
  · show 0 ≤ g5.1 52 33 ∧ g5.1 52 33 ≤ 200
    rw [(hf5 52 33 rfl).1, i4]
    exact m4
  · unfold dyV
    rw [SZ_Y (Y := h.1 52 33) (Y' := 0), SZ_Y (Y := h.1 52 33) (Y' := 0)]
theorem pr_worth {d : Nat} (hd : 8 ≤ d) {a b c e : Int} (ha : inR a) (hb : inR b) (hc : inR c) (he : inR e) : Pair2 d k_X8_worth k_X9_worth [sI a, sI b, sI c, sI e] := fun h hI => by
  refine zC_mono (c_X8_worth hd h a b c e ha hb hc he hI.1.1 hI.1.2.2.1) ?_
  rintro o g ⟨hf, hs, r, rfl, hr⟩
  refine ⟨r, rfl, zC_mono (c_X9_worth hd g a b c e ha hb hc he (Inv_K hI hs hf)) ?_⟩
  rintro o g' ⟨hI', r', rfl, hr'⟩
  rw [worthA_u hr (worthA_k (kpR_K hf) hr')]
  exact ⟨rfl, hI'⟩
/-! a higher way shuts nothing -/
theorem SZ_up {h : zH} {c : Int} {s : Nat} {F M Y Y' W : Int} (hy : Y ≤ Y') : ∀ p m y p' m' y', SZ h c s F M Y W p m y p' m' y' → SZ h c s F M Y' W p m y p' m' y' := by
  intro p m y p' m' y'
  unfold SZ SQ stS wyS goP
  rintro (x | ⟨w, hw, ⟨g1, g2, g3⟩, r⟩)
  · exact Or.inl x
  · refine Or.inr ⟨w, hw, ⟨g1, g2, fun j j1 j2 => ?_⟩, r⟩
    have := g3 j j1 j2
    unfold beX at *
    split at this
    · rename_i q
      rw [if_pos q]
      omega
    · rename_i q
      rw [if_neg q]
      omega
theorem SZ_ok {h : zH} {c : Int} {s : Nat} {F M Y W : Int} (hV : VV h) (hc : okT h c) : Sok (SZ h c s F M Y W) (h.1 2 8).toNat := by
  obtain ⟨⟨hv1, hv2, hv3, hv4, hv5⟩, -, -, -, hVy, -, hVs⟩ := hV
  obtain ⟨c1, c2, c3⟩ := hc
  intro p m y p' m' y' hp hy hs
  rcases hs with ⟨rfl, rfl, rfl, hw⟩ | ⟨w, hw, hg, hm, hy', he⟩
  · have := hw.2.1
    exact ⟨by omega, by omega, hp, hy⟩
  · have e := hVy w (by omega)
    have tb : 1 ≤ tkC h (c / 10).toNat w y ∧ tkC h (c / 10).toNat w y ≤ 387 := (takeF_b e.2.2.2 (hVs (c / 10).toNat (by omega)) (by omega)).2
    have := hg.2.1
    exact ⟨by omega, by omega, by omega, by omega⟩
theorem dyV_up {h : zH} {b c e M Y Y' : Int} (hV : VV h) (he : okT h e) (hb : okF h b) (hy : Y ≤ Y') : dyV h b c e (-1) M Y' ≤ dyV h b c e (-1) M Y := by
  obtain ⟨b1, b2, b3⟩ := hb
  exact dayO_le (P := (h.1 2 8).toNat) (fun p m y p' m' y' _ _ z => SZ_up hy p m y p' m' y' z) (SZ_ok hV he) (by omega)
/-- sooner, the way raised by l -/
def Snr (h : zH) (a b c e l : Int) : Prop := dyV h b c e (-1) a l < dyV h b c e (-1) (-1) 0
def higherA (h : zH) (a b c e r : Int) : Prop := (¬ ok4 h a b c e ∧ r = -1) ∨ (ok4 h a b c e ∧ ¬ Snr h a b c e 200 ∧ r = -2) ∨ (ok4 h a b c e ∧ Snr h a b c e 200 ∧ (1 ≤ r ∧ r ≤ 200) ∧ Snr h a b c e r ∧ ∀ l : Int, 1 ≤ l → l < r → ¬ Snr h a b c e l)
theorem higherA_u {h : zH} {a b c e r r' : Int} (x : higherA h a b c e r) (y : higherA h a b c e r') : r = r' := by
  rcases x with ⟨x1, x2⟩ | ⟨x1, x2, x3⟩ | ⟨x1, x2, x3, x4, x5⟩ <;> rcases y with ⟨y1, y2⟩ | ⟨y1, y2, y3⟩ | ⟨y1, y2, y3, y4, y5⟩
  · omega
  · exact absurd y1 x1
  · exact absurd y1 x1
  · exact absurd x1 y1
  · omega
  · exact absurd y2 x2
  · exact absurd x1 y1
  · exact absurd x2 y2
  · rcases (by omega : r < r' ∨ r = r' ∨ r' < r) with q | q | q
    · exact absurd x4 (y5 r x3.1 q)
    · exact q
    · exact absurd y4 (x5 r' y3.1 q)
theorem higherA_k {h g : zH} (k : kpR h g) {a b c e r : Int} (x : higherA g a b c e r) : higherA h a b c e r := by
  have hS : ∀ l : Int, Snr g a b c e l = Snr h a b c e l := fun l => by
    unfold Snr
    rw [kpR_dyV k, kpR_dyV k]
  unfold higherA at *
  simp only [hS] at x
  rw [kpR_ok4 k] at x
  exact x
theorem c_X8_soonLifted {d : Nat} (hd : 7 ≤ d) (h g : zH) (a b c e l : Int) (s : Nat) (hV : VV h) (hq : QZ h g e s (-1) (-1) 0 (-1)) (qa : okY h a) (ha : okF h b) (hb : okP h c) (hl : 0 ≤ l ∧ l ≤ 200) :
    zC d k_X8_soonLifted [sR 0, sI a, sI b, sI c, sI l] g (fun o g2 => fr frS g g2 ∧ o = some (sI (dayO (soonV (SZ h e s (-1) a l (-1)) (b / 10000).toNat (b % 10000).toNat c.toNat 1439)))) := by
  obtain ⟨hv1, hv2, hv3, hv4, hv5⟩ := id hV.1
  have k0 : 0 ≤ a := qa.1
  have k1 : a < 24 := by have := qa.2; omega
  have kw : a.toNat < (h.1 2 10).toNat := by have := qa.2; omega
  have hh := (hV.2.2.2.2.2.1 a.toNat (by omega)).1
  have e29 : g.1 29 a.toNat = h.1 29 a.toNat := by rw [hq.2.2.2.2.2.1 _ kw, beX_no]
  have hq2 := QZ_lift (l := l) hq (by omega) kw
  rw [show ((a.toNat : Nat) : Int) = a by omega] at hq2
  refine zC_of (by decide +kernel) (Nat.le_of_ble_eq_true rfl) (fun X C E => zrun_sound t_X8_soonLifted C E [] 80 _ _ _ _ ?_)
  refine And.intro k0 (And.intro k1 (And.intro k0 (And.intro k1 ?_)))
  refine zcall_i (d' := d - 1) (by omega) (c_X8_soonOrDay (by omega) h _ b c e s (-1) a l (-1) hV hq2 ha hb) ?_
  rintro _ g4 ⟨hf4, rfl⟩
  exact And.intro k0 (And.intro k1 (And.intro (fr_height hf4) rfl))
set_option maxHeartbeats 2000000 in
theorem c_X8_higher {d : Nat} (hd : 9 ≤ d) (h : zH) (a b c e : Int) (ha : inR a) (hb : inR b) (hc : inR c) (he : inR e) (hV : VV h) (hI : Isea h) :
    zC d k_X8_higher [sR 0, sI a, sI b, sI c, sI e] h (fun o g => fr frK h g ∧ Isea g ∧ ∃ r : Int, o = some (sI r) ∧ higherA h a b c e r) := by
  obtain ⟨hv1, hv2, hv3, hv4, hv5⟩ := id hV.1
  obtain ⟨w1, w2, w3⟩ := aw_ok hV
  have hd1 : d - 1 + 1 ≤ d := by omega
  have hd6 : 6 ≤ d - 1 := by omega
  have hd7 : 7 ≤ d - 1 := by omega
  have db := dyV_b h b c e
  refine zC_of (by decide +kernel) (Nat.le_of_ble_eq_true rfl) (fun X C E => ?_)
  have loop : okY h a → okF h b → okP h c → okT h e → Snr h a b c e 200 → ∀ (f : Nat) (lo hi : Int) (H : zH), hi - lo ≤ f → 1 ≤ lo → lo ≤ hi → hi ≤ 200 → Snr h a b c e hi → (∀ l : Int, 1 ≤ l → l < lo → ¬ Snr h a b c e l) → fr frK h H → Isea H → QZ h H e (aw h) (-1) (-1) 0 (-1) → zJ X 85 [some (sR 0), some (sI a), some (sI b), some (sI c), some (sI e), some (sI (dyV h b c e (-1) (-1) 0)), some (sI lo), some (sI hi)] [] H := by
    intro oa ob oc oe o200 f
    have stop : ∀ (lo : Int) (H : zH), 1 ≤ lo → lo ≤ 200 → Snr h a b c e lo → (∀ l : Int, 1 ≤ l → l < lo → ¬ Snr h a b c e l) → fr frK h H → Isea H → zJ X 85 [some (sR 0), some (sI a), some (sI b), some (sI c), some (sI e), some (sI (dyV h b c e (-1) (-1) 0)), some (sI lo), some (sI lo)] [] H := by
      intro lo H l1 l2 l3 l4 hf hs
      refine zrun_sound t_X8_higher C E [] 60 _ _ _ _ ?_
      refine And.intro (by omega) (And.intro (by omega) (And.intro (fun _ => ?_) (fun z => absurd (by omega) z)))
      exact And.intro hf (And.intro hs ⟨_, rfl, Or.inr (Or.inr ⟨⟨oa, ob, oc, oe⟩, o200, ⟨l1, l2⟩, l3, l4⟩)⟩)
    induction f with
    | zero =>
      intro lo hi H hfu l1 l2 l3 l4 l5 hf hs hq
      have : lo = hi := by omega
      subst this
      exact stop lo H l1 l3 l4 l5 hf hs
    | succ f ih =>
      intro lo hi H hfu l1 l2 l3 l4 l5 hf hs hq
      by_cases hlt : lo = hi
      · subst hlt
        exact stop lo H l1 l3 l4 l5 hf hs
      · refine zrun_sound t_X8_higher C E [85] 60 _ _ _ _ ?_
        refine And.intro (by omega) (And.intro (by omega) (And.intro (fun z => absurd z (by omega)) (fun _ => ?_)))
        refine And.intro (by omega) (And.intro (by omega) ?_)
        obtain ⟨mid, hm⟩ : ∃ mid, mid = (lo + hi) / 2 := ⟨_, rfl⟩
        have m1 : lo ≤ mid := by omega
        have m2 : mid < hi := by omega
        rw [← hm]
        refine zcall_i (d' := d - 1) hd1 (c_X8_soonLifted hd7 h H a b c e mid (aw h) hV hq oa ob oc ⟨by omega, by omega⟩) ?_
        rintro _ g2 ⟨hf2, rfl⟩
        have hfg := fr_trans hf (frK_S hf2)
        have hsg := Isea_S hs hf2
        have hqg := QZ_S hq hf2
        have db2 := db (-1) a mid
        unfold dyV at db2
        refine And.intro (by omega) (And.intro (by have := db (-1) (-1) 0; omega) (And.intro (fun z => ?_) (fun z => ?_)))
        · have hn : ¬ Snr h a b c e mid := fun q => absurd q (Int.not_lt.mpr z)
          have hup : ∀ l : Int, l ≤ mid → ¬ Snr h a b c e l := fun l hl q => hn (Int.lt_of_le_of_lt (dyV_up hV oe ob hl) q)
          exact zJ_le (ih (mid + 1) hi g2 (by omega) (by omega) (by omega) l3 l4 (fun l h1 h2 => hup l (by omega)) hfg hsg hqg) (And.intro rfl (And.intro rfl (And.intro rfl (And.intro rfl (And.intro rfl (And.intro rfl (And.intro rfl (And.intro rfl trivial)))))))) rfl rfl
        · have hy : Snr h a b c e mid := Int.not_le.mp z
          exact zJ_le (ih lo mid g2 (by omega) l1 m1 (by omega) hy l5 hfg hsg hqg) (And.intro rfl (And.intro rfl (And.intro rfl (And.intro rfl (And.intro rfl (And.intro rfl (And.intro rfl (And.intro rfl trivial)))))))) rfl rfl
  refine zrun_sound t_X8_higher C E [85] 80 _ _ _ _ ?_
  refine zcall_i (d' := d - 1) hd1 (c_X8_isWay (by omega) h a ha hv4) ?_
  rintro _ _ ⟨rfl, rfl⟩
  refine And.intro g_in (And.intro (fun c1 => And.intro (fr_rfl _ _) (And.intro hI ⟨_, rfl, Or.inl ⟨fun z => g_f c1 z.1, rfl⟩⟩)) (fun c1 => ?_))
  refine zcall_i (d' := d - 1) hd1 (c_X8_isFrom (by omega) h b hb hv3) ?_
  rintro _ _ ⟨rfl, rfl⟩
  refine And.intro g_in (And.intro (fun c2 => And.intro (fr_rfl _ _) (And.intro hI ⟨_, rfl, Or.inl ⟨fun z => g_f c2 z.2.1, rfl⟩⟩)) (fun c2 => ?_))
  refine zcall_i (d' := d - 1) hd1 (c_X8_isPlace (by omega) h c hc hv3) ?_
  rintro _ _ ⟨rfl, rfl⟩
  refine And.intro g_in (And.intro (fun c3 => And.intro (fr_rfl _ _) (And.intro hI ⟨_, rfl, Or.inl ⟨fun z => g_f c3 z.2.2.1, rfl⟩⟩)) (fun c3 => ?_))
  refine zcall_i (d' := d - 1) hd1 (c_X8_isSortAndTide (by omega) h e he hv1) ?_
  rintro _ _ ⟨rfl, rfl⟩
  refine And.intro g_in (And.intro (fun c4 => ?_) (fun c4 => And.intro (fr_rfl _ _) (And.intro hI ⟨_, rfl, Or.inl ⟨fun z => g_f c4 z.2.2.2, rfl⟩⟩)))
  have q1 := g_t c1
  replace q1 : okY h a := q1
  have q2 := g_t c2
  replace q2 : okF h b := q2
  have q3 := g_t c3
  replace q3 : okP h c := q3
  have q4 := g_t c4
  replace q4 : okT h e := q4
  refine zcall_i (d' := d - 1) hd1 (c_X2_allWinds h (by omega)) ?_
  rintro _ _ ⟨rfl, rfl⟩
  refine zcall_i (d' := d - 1) hd1 (c_prepX (by omega) h e _ (aw h) hV hI q4 w3 ⟨w1, w2⟩) ?_
  rintro _ g ⟨rfl, hf, hs, hq⟩
  refine zcall_i (d' := d - 1) hd1 (c_X8_soonOrDay hd6 h g b c e (aw h) (-1) (-1) 0 (-1) hV hq q2 q3) ?_
  rintro _ g2 ⟨hf2, rfl⟩
  have hq2 := QZ_S hq hf2
  refine zcall_i (d' := d - 1) hd1 (c_X8_soonLifted hd7 h g2 a b c e 200 (aw h) hV hq2 q1 q2 q3 ⟨by omega, by omega⟩) ?_
  rintro _ g3 ⟨hf3, rfl⟩
  have hf4 := fr_trans (fr_trans hf (frK_S hf2)) (frK_S hf3)
  have hs4 := Isea_S (Isea_S hs hf2) hf3
  have db1 := db (-1) a 200
  have db2 := db (-1) (-1) 0
  unfold dyV at db1 db2
  refine And.intro (by omega) (And.intro (by omega) (And.intro (fun z => ?_) (fun z => ?_)))
  · exact zJ_le (loop q1 q2 q3 q4 z 199 1 200 g3 (by omega) (by omega) (by omega) (by omega) z (fun l h1 h2 => absurd h2 (by omega)) hf4 hs4 (QZ_S hq2 hf3)) (And.intro rfl (And.intro rfl (And.intro rfl (And.intro rfl (And.intro rfl (And.intro rfl (And.intro rfl (And.intro rfl trivial)))))))) rfl rfl
  · exact And.intro hf4 (And.intro hs4 ⟨_, rfl, Or.inr (Or.inl ⟨⟨q1, q2, q3, q4⟩, z, rfl⟩)⟩)
/-- one asking: raised by l, is it sooner -/
theorem c_X9_isSooner {d : Nat} (hd : 7 ≤ d) (h H : zH) (a b c e l now : Int) (k : kpR h H) (hI : Inv2 h) (hs : Isea H) (n1 : H.1 52 31 = -1) (n3 : H.1 52 34 = -1) (qa : okY h a) (qb : okF h b) (qc : okP h c) (qe : okT h e) (hl : 0 ≤ l ∧ l ≤ 200) (hn : inR now) :
    zC d k_X9_isSooner [sR 52, sI a, sI l, sI b, sI c, sI e, sI now] H (fun o g => kpR h g ∧ Isea g ∧ g.1 52 31 = -1 ∧ g.1 52 32 = -1 ∧ g.1 52 34 = -1 ∧ (0 ≤ g.1 52 33 ∧ g.1 52 33 ≤ 200) ∧ isB o (dyV h b c e (-1) a l < now)) := by
  obtain ⟨hv1, hv2, hv3, hv4, hv5⟩ := id hI.1.1.1
  have qa1 := qa.1
  have qa2 := qa.2
  have db := dyV_b h b c e (-1) a l
  have k2 : kpR h (setI (setI H 52 32 a) 52 33 l) := kpR_i (kpR_i k (Or.inr (Or.inl rfl))) (Or.inr (Or.inr (Or.inl rfl)))
  have hW : Imw (setI (setI H 52 32 a) 52 33 l) := by
    refine ⟨?_, ?_, hl, ?_⟩
    · show -1 ≤ H.1 52 31 ∧ H.1 52 31 ≤ 24
      omega
    · show -1 ≤ a ∧ a ≤ 24
      omega
    · show -1 ≤ H.1 52 34 ∧ H.1 52 34 ≤ 12
      omega
  refine zC_of (by decide +kernel) (Nat.le_of_ble_eq_true rfl) (fun X C E => zrun_sound t_X9_isSooner C E [] 60 _ _ _ _ ?_)
  refine zcall_i (d' := d - 1) (by omega) (c_neverK (by omega) h _ b c e (-1) a l (-1) k2 hI.1.1 hI.1.2.1 hW qb qc qe n1 rfl rfl n3) ?_
  rintro _ g ⟨hf, rfl⟩
  have kk : kpR h (setI g 52 32 (-1)) := kpR_i (kpR_t k2 (kpR_R hf)) (Or.inr (Or.inl rfl))
  have hsg : Isea g := kpR_sea hf hs
  have hsg2 : Isea (setI g 52 32 (-1)) := hsg
  have i1 : (setI g 52 32 (-1)).1 52 31 = -1 := (hf 52 31 rfl).1.trans n1
  have i3 : (setI g 52 32 (-1)).1 52 34 = -1 := (hf 52 34 rfl).1.trans n3
  have i4 : 0 ≤ (setI g 52 32 (-1)).1 52 33 ∧ (setI g 52 32 (-1)).1 52 33 ≤ 200 := by
    show 0 ≤ g.1 52 33 ∧ g.1 52 33 ≤ 200
    rw [(hf 52 33 rfl).1]
    exact hl
  unfold dyV at db
  refine And.intro (by omega) (And.intro hn (And.intro (fun z => ?_) (fun z => ?_)))
  · exact And.intro (Or.inl rfl) ⟨kk, hsg2, i1, rfl, i3, i4, Or.inr ⟨rfl, Int.not_lt.mpr z⟩⟩
  · exact And.intro (Or.inr rfl) ⟨kk, hsg2, i1, rfl, i3, i4, Or.inl ⟨rfl, Int.not_le.mp z⟩⟩
set_option maxHeartbeats 2000000 in
theorem c_X9_higher {d : Nat} (hd : 9 ≤ d) (h : zH) (a b c e : Int) (ha : inR a) (hb : inR b) (hc : inR c) (he : inR e) (hI : Inv2 h) :
    zC d k_X9_higher [sR 52, sI a, sI b, sI c, sI e] h (fun o g => Inv2 g ∧ ∃ r : Int, o = some (sI r) ∧ higherA h a b c e r) := by
  have hV := hI.1.1
  have hE := hI.1.2.1
  obtain ⟨hv1, hv2, hv3, hv4, hv5⟩ := id hV.1
  obtain ⟨m1, m2, m3⟩ := id hI.1.2.2.2.2.2.2.2.2.2
  have m4 := hI.2
  have hd1 : d - 1 + 1 ≤ d := by omega
  have hd7 : 7 ≤ d - 1 := by omega
  have db := dyV_b h b c e
  have inow : inR (dyV h b c e (-1) (-1) 0) := by have := db (-1) (-1) 0; omega
  obtain ⟨g0, g1, g2, g3⟩ := ok4_M (d := d) (by omega) h a b c e ha hb hc he hV hE
  refine zC_of (by decide +kernel) (Nat.le_of_ble_eq_true rfl) (fun X C E => ?_)
  have loop : okY h a → okF h b → okP h c → okT h e → Snr h a b c e 200 → ∀ (f : Nat) (lo hi : Int) (H : zH), hi - lo ≤ f + 1 → 0 ≤ lo → lo < hi → hi ≤ 200 → Snr h a b c e hi → (∀ l : Int, 1 ≤ l → l ≤ lo → ¬ Snr h a b c e l) → kpR h H → Isea H → H.1 52 31 = -1 → H.1 52 32 = -1 → H.1 52 34 = -1 → (0 ≤ H.1 52 33 ∧ H.1 52 33 ≤ 200) → zJ X 73 [some (sR 52), some (sI a), some (sI b), some (sI c), some (sI e), some (sI (dyV h b c e (-1) (-1) 0)), some (sI lo), some (sI hi)] [] H := by
    intro oa ob oc oe o200 f
    have stop : ∀ (lo hi : Int) (H : zH), 0 ≤ lo → hi = lo + 1 → hi ≤ 200 → Snr h a b c e hi → (∀ l : Int, 1 ≤ l → l ≤ lo → ¬ Snr h a b c e l) → kpR h H → Isea H → H.1 52 31 = -1 → H.1 52 32 = -1 → H.1 52 34 = -1 → (0 ≤ H.1 52 33 ∧ H.1 52 33 ≤ 200) → zJ X 73 [some (sR 52), some (sI a), some (sI b), some (sI c), some (sI e), some (sI (dyV h b c e (-1) (-1) 0)), some (sI lo), some (sI hi)] [] H := by
      intro lo hi H l1 l2 l3 l4 l5 k hs n1 n2 n3 n4
      refine zrun_sound t_X9_higher C E [] 60 _ _ _ _ ?_
      refine And.intro (by omega) (And.intro (by omega) (And.intro (fun _ => ?_) (fun z => absurd (by omega) z)))
      exact And.intro (kpR_I k hI hs n1 n2 n3 n4) ⟨_, rfl, Or.inr (Or.inr ⟨⟨oa, ob, oc, oe⟩, o200, ⟨by omega, l3⟩, l4, fun l h1 h2 => l5 l h1 (by omega)⟩)⟩
    induction f with
    | zero =>
      intro lo hi H hfu l1 l2 l3 l4 l5 k hs n1 n2 n3 n4
      exact stop lo hi H l1 (by omega) l3 l4 l5 k hs n1 n2 n3 n4
    | succ f ih =>
      intro lo hi H hfu l1 l2 l3 l4 l5 k hs n1 n2 n3 n4
      by_cases hlt : hi = lo + 1
      · exact stop lo hi H l1 hlt l3 l4 l5 k hs n1 n2 n3 n4
      · refine zrun_sound t_X9_higher C E [73] 60 _ _ _ _ ?_
        refine And.intro (by omega) (And.intro (by omega) (And.intro (fun z => absurd z (by omega)) (fun _ => ?_)))
        refine And.intro (by omega) (And.intro (by omega) ?_)
        obtain ⟨mid, hm⟩ : ∃ mid, mid = (lo + hi) / 2 := ⟨_, rfl⟩
        have p1 : lo < mid := by omega
        have p2 : mid < hi := by omega
        rw [← hm]
        refine zcall_i (d' := d - 1) hd1 (c_X9_isSooner hd7 h H a b c e mid _ k hI hs n1 n3 oa ob oc oe ⟨by omega, by omega⟩ inow) ?_
        rintro o g ⟨k', hs', n1', n2', n3', n4', ⟨rfl, z⟩ | ⟨rfl, z⟩⟩
        · refine And.intro (by decide) (And.intro (fun q => absurd q (by decide)) (fun _ => ?_))
          exact zJ_le (ih lo mid g (by omega) l1 p1 (by omega) z l5 k' hs' n1' n2' n3' n4') (And.intro rfl (And.intro rfl (And.intro rfl (And.intro rfl (And.intro rfl (And.intro rfl (And.intro rfl (And.intro rfl trivial)))))))) rfl rfl
        · refine And.intro (by decide) (And.intro (fun _ => ?_) (fun q => absurd rfl q))
          have hup : ∀ l : Int, 1 ≤ l → l ≤ mid → ¬ Snr h a b c e l := fun l _ hl q => z (Int.lt_of_le_of_lt (dyV_up hV oe ob hl) q)
          exact zJ_le (ih mid hi g (by omega) (by omega) p2 l3 l4 hup k' hs' n1' n2' n3' n4') (And.intro rfl (And.intro rfl (And.intro rfl (And.intro rfl (And.intro rfl (And.intro rfl (And.intro rfl (And.intro rfl trivial)))))))) rfl rfl
  refine zrun_sound t_X9_higher C E [73] 80 _ _ _ _ ?_
  refine zcall_i (d' := d - 1) hd1 g0 ?_
  rintro _ _ ⟨rfl, rfl⟩
  refine And.intro g_in (And.intro (fun c1 => And.intro hI ⟨_, rfl, Or.inl ⟨fun z => g_f c1 z.1, rfl⟩⟩) (fun c1 => ?_))
  refine zcall_i (d' := d - 1) hd1 g1 ?_
  rintro _ _ ⟨rfl, rfl⟩
  refine And.intro g_in (And.intro (fun c2 => And.intro hI ⟨_, rfl, Or.inl ⟨fun z => g_f c2 z.2.1, rfl⟩⟩) (fun c2 => ?_))
  refine zcall_i (d' := d - 1) hd1 g2 ?_
  rintro _ _ ⟨rfl, rfl⟩
  refine And.intro g_in (And.intro (fun c3 => And.intro hI ⟨_, rfl, Or.inl ⟨fun z => g_f c3 z.2.2.1, rfl⟩⟩) (fun c3 => ?_))
  refine zcall_i (d' := d - 1) hd1 g3 ?_
  rintro _ _ ⟨rfl, rfl⟩
  refine And.intro g_in (And.intro (fun c4 => ?_) (fun c4 => And.intro hI ⟨_, rfl, Or.inl ⟨fun z => g_f c4 z.2.2.2, rfl⟩⟩))
  have q1 := g_t c1
  replace q1 : okY h a := q1
  have q2 := g_t c2
  replace q2 : okF h b := q2
  have q3 := g_t c3
  replace q3 : okP h c := q3
  have q4 := g_t c4
  replace q4 : okT h e := q4
  refine zcall_i (d' := d - 1) hd1 (c_neverK (by omega) h h b c e (-1) (-1) (h.1 52 33) (-1) (kpR_0 h) hV hE (Imw_of ⟨m1, m2, m3⟩ m4) q2 q3 q4 m1 m2 rfl m3) ?_
  rintro _ g ⟨hf, rfl⟩
  rw [SZ_Y (Y := h.1 52 33) (Y' := 0)]
  refine zcall_i (d' := d - 1) hd1 (c_X9_isSooner hd7 h g a b c e 200 _ (kpR_R hf) hI (kpR_sea hf hI.1.2.2.1) ((hf 52 31 rfl).1.trans m1) ((hf 52 34 rfl).1.trans m3) q1 q2 q3 q4 ⟨by omega, by omega⟩ inow) ?_
  rintro o g5 ⟨k', hs', n1', n2', n3', n4', ⟨rfl, z⟩ | ⟨rfl, z⟩⟩
  · refine And.intro (by decide) (And.intro (fun _ => ?_) (fun q => absurd q (by decide)))
    exact zJ_le (loop q1 q2 q3 q4 z 199 0 200 g5 (by omega) (by omega) (by omega) (by omega) z (fun l h1 h2 => absurd h2 (by omega)) k' hs' n1' n2' n3' n4') (And.intro rfl (And.intro rfl (And.intro rfl (And.intro rfl (And.intro rfl (And.intro rfl (And.intro rfl (And.intro rfl trivial)))))))) rfl rfl
  · refine And.intro (by decide) (And.intro (fun q => absurd rfl q) (fun _ => ?_))
    exact And.intro (kpR_I k' hI hs' n1' n2' n3' n4') ⟨_, rfl, Or.inr (Or.inl ⟨⟨q1, q2, q3, q4⟩, z, rfl⟩)⟩
theorem pr_higher {d : Nat} (hd : 9 ≤ d) {a b c e : Int} (ha : inR a) (hb : inR b) (hc : inR c) (he : inR e) : Pair2 d k_X8_higher k_X9_higher [sI a, sI b, sI c, sI e] := fun h hI => by
  refine zC_mono (c_X8_higher hd h a b c e ha hb hc he hI.1.1 hI.1.2.2.1) ?_
  rintro o g ⟨hf, hs, r, rfl, hr⟩
  refine ⟨r, rfl, zC_mono (c_X9_higher hd g a b c e ha hb hc he (Inv_K hI hs hf)) ?_⟩
  rintro o g' ⟨hI', r', rfl, hr'⟩
  rw [higherA_u hr (higherA_k (kpR_K hf) hr')]
  exact ⟨rfl, hI'⟩
