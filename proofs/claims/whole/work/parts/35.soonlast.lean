theorem SR_okB {h : zH} {σ P N : Nat} {hi be : Nat → Int} (hB : RB h σ P N) : Sok (SR h σ N hi be) P := by
  obtain ⟨a1, a2, a3, a4, a5, a6, a7, a8, a9, a10, a11⟩ := hB
  intro p m y p' m' y' hp hy hs
  rcases hs with ⟨rfl, rfl, rfl, hw⟩ | ⟨w, hw, hg, hm, hy', he⟩
  · have := hw.2.1
    exact ⟨by omega, by omega, hp, hy⟩
  · have tb : 1 ≤ tkR h σ w y ∧ tkR h σ w y ≤ 387 := (takeF_b (a7 w hw) a8 (by omega)).2
    have e := a6 w hw
    have := hg.2.1
    exact ⟨by omega, by omega, by omega, by omega⟩
theorem nat_of {x : Int} (hx : 0 ≤ x) : ∃ k : Nat, x = k ∧ x.toNat = k := ⟨x.toNat, by omega, rfl⟩
theorem winds_n {h : zH} {e : Int} (hw : okW h e) : ∃ s n : Nat, e = s ∧ e.toNat = s ∧ (h.1 2 4).toNat = n ∧ 1 ≤ s ∧ s < 2 ^ n := by
  obtain ⟨s, hs, hs2⟩ := nat_of (x := e) (by have := hw.1; omega)
  refine ⟨s, _, hs, hs2, rfl, ?_, ?_⟩
  · have := hw.1
    omega
  · have := hw.2
    rw [hs] at this
    exact Int.ofNat_lt.mp this
/-- what one asks of both: the numbers -/
theorem SD_of {h : zH} {c e : Int} {σ t s n N : Nat} (e1 : (c / 10).toNat = σ) (e2 : (c % 10).toNat = t) (e3 : e.toNat = s) (e4 : (h.1 2 4).toNat = n) (e5 : (h.1 2 10).toNat = N) : SD h c e = SQ h σ t s n N (h.1 30) (h.1 31) (h.1 29) (-1) := by
  unfold SD
  rw [e1, e2, e3, e4, e5]
set_option maxHeartbeats 4000000 in
theorem c_X8_soon {d : Nat} (hd : 6 ≤ d) (h : zH) (a b c e : Int) (ha : inR a) (hb : inR b) (hc : inR c) (he : inR e) (hV : VV h) (hI : Isea h) :
    zC d k_X8_soon [sR 0, sI a, sI b, sI c, sI e] h (fun o g => fr frK h g ∧ Isea g ∧ ∃ r : Int, o = some (sI r) ∧ soonA h a b c e r) := by
  obtain ⟨hv1, hv2, hv3, hv4, hv5⟩ := id hV.1
  refine zC_of (by decide +kernel) (Nat.le_of_ble_eq_true rfl) (fun X C E => zrun_sound t_X8_soon C E [] 60 _ _ _ _ ?_)
  refine zcall_i (d' := d - 1) (by omega) (c_X8_isFrom (by omega) h a ha hv3) ?_
  rintro _ _ ⟨rfl, rfl⟩
  refine And.intro g_in (And.intro (fun c1 => And.intro (fr_rfl _ _) (And.intro hI ⟨_, rfl, Or.inl ⟨fun z => g_f c1 z.1, rfl⟩⟩)) (fun c1 => ?_))
  refine zcall_i (d' := d - 1) (by omega) (c_X8_isPlace (by omega) h b hb hv3) ?_
  rintro _ _ ⟨rfl, rfl⟩
  refine And.intro g_in (And.intro (fun c2 => And.intro (fr_rfl _ _) (And.intro hI ⟨_, rfl, Or.inl ⟨fun z => g_f c2 z.2.1, rfl⟩⟩)) (fun c2 => ?_))
  refine zcall_i (d' := d - 1) (by omega) (c_X8_isSortAndTide (by omega) h c hc hv1) ?_
  rintro _ _ ⟨rfl, rfl⟩
  refine And.intro g_in (And.intro (fun c3 => And.intro (fr_rfl _ _) (And.intro hI ⟨_, rfl, Or.inl ⟨fun z => g_f c3 z.2.2.1, rfl⟩⟩)) (fun c3 => ?_))
  refine zcall_i (d' := d - 1) (by omega) (c_X8_isWinds (by omega) h e he (by omega)) ?_
  rintro _ _ ⟨rfl, rfl⟩
  refine And.intro g_in (And.intro (fun c4 => ?_) (fun c4 => And.intro (fr_rfl _ _) (And.intro hI ⟨_, rfl, Or.inl ⟨fun z => g_f c4 z.2.2.2, rfl⟩⟩)))
  have q1 := g_t c1
  replace q1 : okF h a := q1
  have q2 := g_t c2
  replace q2 : okP h b := q2
  have q3 := g_t c3
  replace q3 : okT h c := q3
  have q4 := g_t c4
  replace q4 : okW h e := q4
  obtain ⟨s, n, es, es2, en, hs⟩ := winds_n q4
  obtain ⟨P, eP, -⟩ := nat_of hv3.1
  obtain ⟨N, eN, eN2⟩ := nat_of hv4.1
  obtain ⟨p0, ep, ep2⟩ := nat_of (x := a / 10000) (by have := q1.1; omega)
  obtain ⟨m0, em, em2⟩ := nat_of (x := a % 10000) (by omega)
  obtain ⟨σ, eσ, eσ2⟩ := nat_of (x := c / 10) (by have := q3.1; omega)
  obtain ⟨t, et, et2⟩ := nat_of (x := c % 10) (by omega)
  obtain ⟨to, eto, eto2⟩ := nat_of q2.1
  obtain ⟨q11, q12, q13⟩ := q1
  obtain ⟨q21, q22⟩ := q2
  obtain ⟨q31, q32, q33⟩ := q3
  refine zcall_i (d' := d - 1) (by omega) (c_prep (by omega) h c e σ t s n P N hV hI (by omega) eσ et (by omega) (by omega) es hs eP eN) ?_
  rintro _ g ⟨rfl, hq⟩
  have hsn := c_X5_soonest (d := d - 1) (by omega) g σ P N a p0 m0 to 1439 hq.2.1 ⟨q11, by omega⟩ ep em (by omega) (by omega) (by omega) (by omega)
  rw [← eto] at hsn
  refine zcall_i (d' := d - 1) (by omega) hsn ?_
  rintro _ g2 ⟨hf2, r, rfl, hr⟩
  refine And.intro (fr_trans (frK_P hq.1) (frK_S hf2)) (And.intro (Isea_S hq.2.2.2.1 hf2) ⟨_, rfl, Or.inr ⟨⟨⟨q11, q12, q13⟩, ⟨q21, q22⟩, ⟨q31, q32, q33⟩, q4⟩, ?_⟩⟩)
  rw [SD_of eσ2 et2 es2 en eN2, ep2, em2, eto2]
  exact soonR_c (PQ_S hq) (SC_ok hq.2.1) (by omega) hr
set_option maxHeartbeats 4000000 in
theorem c_X8_last {d : Nat} (hd : 6 ≤ d) (h : zH) (a c e : Int) (ha : inR a) (hc : inR c) (he : inR e) (hV : VV h) (hI : Isea h) :
    zC d k_X8_last [sR 0, sI a, sI c, sI e] h (fun o g => fr frK h g ∧ Isea g ∧ ∃ r : Int, o = some (sI r) ∧ lastA h a c e r) := by
  obtain ⟨hv1, hv2, hv3, hv4, hv5⟩ := id hV.1
  refine zC_of (by decide +kernel) (Nat.le_of_ble_eq_true rfl) (fun X C E => zrun_sound t_X8_last C E [] 60 _ _ _ _ ?_)
  refine zcall_i (d' := d - 1) (by omega) (c_X8_isPair (by omega) h a ha hv3) ?_
  rintro _ _ ⟨rfl, rfl⟩
  refine And.intro g_in (And.intro (fun c1 => And.intro (fr_rfl _ _) (And.intro hI ⟨_, rfl, Or.inl ⟨fun z => g_f c1 z.1, rfl⟩⟩)) (fun c1 => ?_))
  refine zcall_i (d' := d - 1) (by omega) (c_X8_isSortAndTide (by omega) h c hc hv1) ?_
  rintro _ _ ⟨rfl, rfl⟩
  refine And.intro g_in (And.intro (fun c3 => And.intro (fr_rfl _ _) (And.intro hI ⟨_, rfl, Or.inl ⟨fun z => g_f c3 z.2.1, rfl⟩⟩)) (fun c3 => ?_))
  refine zcall_i (d' := d - 1) (by omega) (c_X8_isWinds (by omega) h e he (by omega)) ?_
  rintro _ _ ⟨rfl, rfl⟩
  refine And.intro g_in (And.intro (fun c4 => ?_) (fun c4 => And.intro (fr_rfl _ _) (And.intro hI ⟨_, rfl, Or.inl ⟨fun z => g_f c4 z.2.2, rfl⟩⟩)))
  have q1 := g_t c1
  replace q1 : ok2 h a := q1
  have q3 := g_t c3
  replace q3 : okT h c := q3
  have q4 := g_t c4
  replace q4 : okW h e := q4
  obtain ⟨s, n, es, es2, en, hs⟩ := winds_n q4
  obtain ⟨P, eP, -⟩ := nat_of hv3.1
  obtain ⟨N, eN, eN2⟩ := nat_of hv4.1
  obtain ⟨f0, ef, ef2⟩ := nat_of (x := a / 100) (by have := q1.1; omega)
  obtain ⟨to, eto, eto2⟩ := nat_of (x := a % 100) (by omega)
  obtain ⟨σ, eσ, eσ2⟩ := nat_of (x := c / 10) (by have := q3.1; omega)
  obtain ⟨t, et, et2⟩ := nat_of (x := c % 10) (by omega)
  obtain ⟨dn, edn, edn2⟩ := nat_of (x := h.1 2 18) (by omega)
  obtain ⟨dk, edk, edk2⟩ := nat_of (x := h.1 2 19) (by omega)
  obtain ⟨q11, q12, q13, q14⟩ := q1
  obtain ⟨q31, q32, q33⟩ := q3
  refine zcall_i (d' := d - 1) (by omega) (c_prep (by omega) h c e σ t s n P N hV hI (by omega) eσ et (by omega) (by omega) es hs eP eN) ?_
  rintro _ g ⟨rfl, hq⟩
  have hsn := c_X5_latest (d := d - 1) (by omega) g σ P N f0 to dn dk hq.2.1 (by rw [(hq.1 2 18 rfl).1]; exact edn) (by rw [(hq.1 2 19 rfl).1]; exact edk) (by omega) (by omega) (by omega) (by omega)
  rw [← ef, ← eto] at hsn
  refine And.intro (by omega) (And.intro (by omega) ?_)
  refine And.intro (by omega) (And.intro (by omega) ?_)
  refine zcall_i (d' := d - 1) (by omega) hsn ?_
  rintro _ g2 ⟨hf2, r, rfl, hr⟩
  refine And.intro (fr_trans (frK_P hq.1) (frK_S hf2)) (And.intro (Isea_S hq.2.2.2.1 hf2) ⟨_, rfl, Or.inr ⟨⟨⟨q11, q12, q13, q14⟩, ⟨q31, q32, q33⟩, q4⟩, ?_⟩⟩)
  rw [SD_of eσ2 et2 es2 en eN2, ef2, eto2, edn2, edk2]
  exact lastR_c (PQ_S hq) (SC_ok hq.2.1) (by omega) (by omega) hr
set_option maxHeartbeats 4000000 in
theorem c_X9_soon {d : Nat} (hd : 6 ≤ d) (h : zH) (a b c e : Int) (ha : inR a) (hb : inR b) (hc : inR c) (he : inR e) (hV : VV h) (hE : Ieq h) (hM : Imisc h) (hY : 0 ≤ h.1 52 33 ∧ h.1 52 33 ≤ 200) :
    zC d k_X9_soon [sR 52, sI a, sI b, sI c, sI e] h (fun o g => fr frR h g ∧ ∃ r : Int, o = some (sI r) ∧ soonA h a b c e r) := by
  obtain ⟨hv1, hv2, hv3, hv4, hv5⟩ := id hV.1
  obtain ⟨x1, x2, x3, x4, x5, x6⟩ := id hE.1
  have g1 := c_X9_isFrom (d := d - 1) (by omega) h a ha (by omega)
  have g2 := c_X9_isPlace (d := d - 1) (by omega) h b hb (by omega)
  have g3 := c_X9_isSt (d := d - 1) (by omega) h c hc (by omega)
  have g4 := c_X9_areWinds (d := d - 1) h e he (by omega)
  rw [x3] at g1 g2
  rw [x1] at g3
  rw [x2] at g4
  refine zC_of (by decide +kernel) (Nat.le_of_ble_eq_true rfl) (fun X C E => zrun_sound t_X9_soon C E [] 60 _ _ _ _ ?_)
  refine zcall_i (d' := d - 1) (by omega) g1 ?_
  rintro _ _ ⟨rfl, rfl⟩
  refine And.intro g_in (And.intro (fun c1 => And.intro (fr_rfl _ _) ⟨_, rfl, Or.inl ⟨fun z => g_f c1 z.1, rfl⟩⟩) (fun c1 => ?_))
  refine zcall_i (d' := d - 1) (by omega) g2 ?_
  rintro _ _ ⟨rfl, rfl⟩
  refine And.intro g_in (And.intro (fun c2 => And.intro (fr_rfl _ _) ⟨_, rfl, Or.inl ⟨fun z => g_f c2 z.2.1, rfl⟩⟩) (fun c2 => ?_))
  refine zcall_i (d' := d - 1) (by omega) g3 ?_
  rintro _ _ ⟨rfl, rfl⟩
  refine And.intro g_in (And.intro (fun c3 => And.intro (fr_rfl _ _) ⟨_, rfl, Or.inl ⟨fun z => g_f c3 z.2.2.1, rfl⟩⟩) (fun c3 => ?_))
  refine zcall_i (d' := d - 1) (by omega) g4 ?_
  rintro _ _ ⟨rfl, rfl⟩
  refine And.intro g_in (And.intro (fun c4 => ?_) (fun c4 => And.intro (fr_rfl _ _) ⟨_, rfl, Or.inl ⟨fun z => g_f c4 z.2.2.2, rfl⟩⟩))
  have q1 := g_t c1
  replace q1 : okF h a := q1
  have q2 := g_t c2
  replace q2 : okP h b := q2
  have q3 := g_t c3
  replace q3 : okT h c := q3
  have q4 := g_t c4
  replace q4 : okW h e := q4
  obtain ⟨s, n, es, es2, en, hs⟩ := winds_n q4
  obtain ⟨P, eP, -⟩ := nat_of hv3.1
  obtain ⟨N, eN, eN2⟩ := nat_of hv4.1
  obtain ⟨p0, ep, ep2⟩ := nat_of (x := a / 10000) (by have := q1.1; omega)
  obtain ⟨m0, em, em2⟩ := nat_of (x := a % 10000) (by omega)
  obtain ⟨σ, eσ, eσ2⟩ := nat_of (x := c / 10) (by have := q3.1; omega)
  obtain ⟨t, et, et2⟩ := nat_of (x := c % 10) (by omega)
  obtain ⟨to, eto, eto2⟩ := nat_of q2.1
  have hw := Imw_of hM hY
  obtain ⟨q11, q12, q13⟩ := q1
  obtain ⟨q21, q22⟩ := q2
  obtain ⟨q31, q32, q33⟩ := q3
  have hs32 : s < 32 := Nat.lt_of_lt_of_le hs.2 (Nat.pow_le_pow_right (by omega) (show n ≤ 5 by omega))
  have hR := c_X9_reach (d := d - 1) (by omega) h a c p0 m0 σ t s n P N ⟨q11, by omega⟩ ep em (by omega) (by omega) (by omega) eσ et (VR_of hV hE hw (by omega) (by omega) eP eN) (RB_of hV hE hw (by omega) eP eN) hs32
  rw [← es] at hR
  refine zcall_i (d' := d - 1) (by omega) hR ?_
  rintro _ g ⟨rfl, hf, hrp, ht⟩
  have hsm := SR_D hV hE hM (σ := σ) (by omega) (t := t) (by omega) (n := n) (by omega) eN eP hs
  have hok : Sok (SR h σ N (hiR h t s n) (beR h)) P := by
    have := SR_ok hrp
    rw [SR_L hf] at this
    exact this
  have hsn := c_X9_soonAt (d := d - 1) (by omega) g _ to p0 m0 P hok (by omega) (by omega) (by omega) (by omega) ht
  rw [← eto] at hsn
  refine zcall_i (d' := d - 1) (by omega) hsn ?_
  rintro _ g2 ⟨rfl, r, rfl, hr⟩
  refine And.intro hf ⟨_, rfl, Or.inr ⟨⟨⟨q11, q12, q13⟩, ⟨q21, q22⟩, ⟨q31, q32, q33⟩, q4⟩, ?_⟩⟩
  rw [SD_of eσ2 et2 es2 en eN2, ep2, em2, eto2]
  exact soonR_c hsm hok (by omega) hr
set_option maxHeartbeats 4000000 in
theorem c_X9_last {d : Nat} (hd : 6 ≤ d) (h : zH) (a c e : Int) (ha : inR a) (hc : inR c) (he : inR e) (hV : VV h) (hE : Ieq h) (hM : Imisc h) (hY : 0 ≤ h.1 52 33 ∧ h.1 52 33 ≤ 200) :
    zC d k_X9_last [sR 52, sI a, sI c, sI e] h (fun o g => fr frR h g ∧ ∃ r : Int, o = some (sI r) ∧ lastA h a c e r) := by
  obtain ⟨hv1, hv2, hv3, hv4, hv5⟩ := id hV.1
  obtain ⟨x1, x2, x3, x4, x5, x6⟩ := id hE.1
  have g1 := c_X9_areTwo (d := d - 1) (by omega) h a ha (by omega)
  have g3 := c_X9_isSt (d := d - 1) (by omega) h c hc (by omega)
  have g4 := c_X9_areWinds (d := d - 1) h e he (by omega)
  rw [x3] at g1
  rw [x1] at g3
  rw [x2] at g4
  refine zC_of (by decide +kernel) (Nat.le_of_ble_eq_true rfl) (fun X C E => zrun_sound t_X9_last C E [] 60 _ _ _ _ ?_)
  refine zcall_i (d' := d - 1) (by omega) g1 ?_
  rintro _ _ ⟨rfl, rfl⟩
  refine And.intro g_in (And.intro (fun c1 => And.intro (fr_rfl _ _) ⟨_, rfl, Or.inl ⟨fun z => g_f c1 z.1, rfl⟩⟩) (fun c1 => ?_))
  refine zcall_i (d' := d - 1) (by omega) g3 ?_
  rintro _ _ ⟨rfl, rfl⟩
  refine And.intro g_in (And.intro (fun c3 => And.intro (fr_rfl _ _) ⟨_, rfl, Or.inl ⟨fun z => g_f c3 z.2.1, rfl⟩⟩) (fun c3 => ?_))
  refine zcall_i (d' := d - 1) (by omega) g4 ?_
  rintro _ _ ⟨rfl, rfl⟩
  refine And.intro g_in (And.intro (fun c4 => And.intro (fr_rfl _ _) ⟨_, rfl, Or.inl ⟨fun z => g_f c4 z.2.2, rfl⟩⟩) (fun c4 => ?_))
  have q1 := g_t c1
  replace q1 : ok2 h a := q1
  have q3 := g_t c3
  replace q3 : okT h c := q3
  have q4 := g_t c4
  replace q4 : okW h e := q4
  obtain ⟨s, n, es, es2, en, hs⟩ := winds_n q4
  obtain ⟨P, eP, -⟩ := nat_of hv3.1
  obtain ⟨N, eN, eN2⟩ := nat_of hv4.1
  obtain ⟨f0, ef, ef2⟩ := nat_of (x := a / 100) (by have := q1.1; omega)
  obtain ⟨to, eto, eto2⟩ := nat_of (x := a % 100) (by omega)
  obtain ⟨σ, eσ, eσ2⟩ := nat_of (x := c / 10) (by have := q3.1; omega)
  obtain ⟨t, et, et2⟩ := nat_of (x := c % 10) (by omega)
  obtain ⟨dn, edn, edn2⟩ := nat_of (x := h.1 2 18) (by omega)
  obtain ⟨dk, edk, edk2⟩ := nat_of (x := h.1 2 19) (by omega)
  have hw := Imw_of hM hY
  obtain ⟨q11, q12, q13, q14⟩ := q1
  obtain ⟨q31, q32, q33⟩ := q3
  have hs32 : s < 32 := Nat.lt_of_lt_of_le hs.2 (Nat.pow_le_pow_right (by omega) (show n ≤ 5 by omega))
  have hB := RB_of hV hE hw (σ := σ) (by omega) eP eN
  have hVR := VR_of hV hE hw (t := t) (by omega) (n := n) (by omega) eP eN
  have hR := c_X9_lastFrom (d := d - 1) (by omega) h a c f0 to σ t s n P N dn dk ⟨q11, by omega⟩ ef eto (by omega) (by omega) (by omega) eσ et hVR hB hs32 (by omega) (by omega) (by omega) (by omega)
  rw [← es] at hR
  refine zcall_i (d' := d - 1) (by omega) hR ?_
  rintro _ g ⟨hf, r, rfl, hr⟩
  have hsm := SR_D hV hE hM (σ := σ) (by omega) (t := t) (by omega) (n := n) (by omega) eN eP hs
  refine And.intro hf ⟨_, rfl, Or.inr ⟨⟨⟨q11, q12, q13, q14⟩, ⟨q31, q32, q33⟩, q4⟩, ?_⟩⟩
  rw [SD_of eσ2 et2 es2 en eN2, ef2, eto2, edn2, edk2]
  exact lastR_c hsm (SR_okB hB) (by omega) (by omega) hr
