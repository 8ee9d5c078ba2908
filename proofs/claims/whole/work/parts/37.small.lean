/-! ===== the smaller questions ===== -/
def takesA (h : zH) (a b c r : Int) : Prop := (¬ (okY h a ∧ (0 ≤ b ∧ b ≤ 3) ∧ 0 ≤ c ∧ c ≤ 3) ∧ r = -1) ∨ ((okY h a ∧ (0 ≤ b ∧ b ≤ 3) ∧ 0 ≤ c ∧ c ≤ 3) ∧ r = takeF (h.1 28 a.toNat) (h.1 32 b.toNat) c)
theorem takesA_u {h : zH} {a b c r r' : Int} (x : takesA h a b c r) (y : takesA h a b c r') : r = r' := by
  rcases x with ⟨x1, x2⟩ | ⟨x1, x2⟩
  · rcases y with ⟨y1, y2⟩ | ⟨y1, y2⟩
    · omega
    · exact absurd y1 x1
  · rcases y with ⟨y1, y2⟩ | ⟨y1, y2⟩
    · exact absurd x1 y1
    · rw [x2, y2]
theorem c_X8_takes {d : Nat} (hd : 4 ≤ d) (h : zH) (a b c : Int) (ha : inR a) (hb : inR b) (hc : inR c) (hV : VV h) : zC d k_X8_takes [sR 0, sI a, sI b, sI c] h (fun o g => h = g ∧ ∃ r : Int, o = some (sI r) ∧ takesA h a b c r) := by
  obtain ⟨⟨hv1, hv2, hv3, hv4, hv5⟩, -, -, -, hVy, -, hVs⟩ := id hV
  refine zC_of (by decide +kernel) (Nat.le_of_ble_eq_true rfl) (fun X C E => zrun_sound t_X8_takes C E [] 60 _ _ _ _ ?_)
  refine zcall_i (d' := d - 1) (by omega) (c_X8_isWay (by omega) h a ha hv4) ?_
  rintro _ _ ⟨rfl, rfl⟩
  refine And.intro g_in (And.intro (fun c1 => And.intro rfl ⟨_, rfl, Or.inl ⟨fun z => g_f c1 z.1, rfl⟩⟩) (fun c1 => ?_))
  refine zcall_i (d' := d - 1) (by omega) (c_X8_isSort (by omega) h b hb) ?_
  rintro _ _ ⟨rfl, rfl⟩
  refine And.intro g_in (And.intro (fun c2 => And.intro rfl ⟨_, rfl, Or.inl ⟨fun z => g_f c2 z.2.1, rfl⟩⟩) (fun c2 => ?_))
  refine zcall_i (d' := d - 1) (by omega) (c_X8_within h c 0 3 hc (by omega) (by omega)) ?_
  rintro _ _ ⟨rfl, rfl⟩
  refine And.intro g_in (And.intro (fun c3 => ?_) (fun c3 => And.intro rfl ⟨_, rfl, Or.inl ⟨fun z => g_f c3 z.2.2, rfl⟩⟩))
  have q1 := g_t c1
  have q2 := g_t c2
  have q3 := g_t c3
  obtain ⟨w, ew, ew2⟩ := nat_of q1.1
  obtain ⟨σ, es, es2⟩ := nat_of q2.1
  have ht := c_X2_taking (d := d - 1) h w σ c (by omega) (by omega) q3 (hVy w (by omega)).2.2.2 (hVs σ (by omega))
  rw [← ew, ← es] at ht
  refine zcall_i (d' := d - 1) (by omega) ht ?_
  rintro _ _ ⟨rfl, rfl⟩
  exact And.intro rfl ⟨_, rfl, Or.inr ⟨⟨q1, q2, q3⟩, by rw [ew2, es2]⟩⟩
theorem c_X9_takes {d : Nat} (hd : 4 ≤ d) (h : zH) (a b c : Int) (ha : inR a) (hb : inR b) (hc : inR c) (hV : VV h) (hE : Ieq h) : zC d k_X9_takes [sR 52, sI a, sI b, sI c] h (fun o g => h = g ∧ ∃ r : Int, o = some (sI r) ∧ takesA h a b c r) := by
  obtain ⟨⟨hv1, hv2, hv3, hv4, hv5⟩, -, -, -, hVy, -, hVs⟩ := id hV
  obtain ⟨⟨x1, x2, x3, x4, -⟩, -, -, -, -, e5, e6⟩ := id hE
  have g1 := c_X9_isWay (d := d - 1) (by omega) h a ha (by omega)
  rw [x4] at g1
  refine zC_of (by decide +kernel) (Nat.le_of_ble_eq_true rfl) (fun X C E => zrun_sound t_X9_takes C E [] 60 _ _ _ _ ?_)
  refine zcall_i (d' := d - 1) (by omega) g1 ?_
  rintro _ _ ⟨rfl, rfl⟩
  refine And.intro g_in (And.intro (fun c1 => And.intro rfl ⟨_, rfl, Or.inl ⟨fun z => g_f c1 z.1, rfl⟩⟩) (fun c1 => ?_))
  refine zcall_i (d' := d - 1) (by omega) (c_X9_isSort (by omega) h b hb) ?_
  rintro _ _ ⟨rfl, rfl⟩
  refine And.intro g_in (And.intro (fun c2 => And.intro rfl ⟨_, rfl, Or.inl ⟨fun z => g_f c2 z.2.1, rfl⟩⟩) (fun c2 => ?_))
  refine zcall_i (d' := d - 1) (by omega) (c_X9_within h (i2l c) 0 3 c 0 3 (i2l_toInt hc) (by decide) (by decide)) ?_
  rintro _ _ ⟨rfl, rfl⟩
  refine And.intro g_in (And.intro (fun c3 => And.intro rfl ⟨_, rfl, Or.inl ⟨fun z => g_f c3 z.2.2, rfl⟩⟩) (fun c3 => ?_))
  have q1 := g_t c1
  have q2 := g_t c2
  have q3 := g_t c3
  obtain ⟨w, ew, ew2⟩ := nat_of q1.1
  obtain ⟨σ, es, es2⟩ := nat_of q2.1
  have k1 := (e5 w (by omega)).2.2.1
  have k2 := e6 σ (by omega)
  have ht := c_X9_takesOf (d := d - 1) h w σ c (by omega) (by omega) q3 (by rw [k1]; exact (hVy w (by omega)).2.2.2) (by rw [k2]; exact hVs σ (by omega))
  rw [← ew, ← es, k1, k2] at ht
  refine zcall_i (d' := d - 1) (by omega) ht ?_
  rintro _ _ ⟨rfl, rfl⟩
  exact And.intro rfl ⟨_, rfl, Or.inr ⟨⟨q1, q2, q3⟩, by rw [ew2, es2]⟩⟩
theorem pr_takes {d : Nat} (hd : 4 ≤ d) {a b c : Int} (ha : inR a) (hb : inR b) (hc : inR c) : Pair d k_X8_takes k_X9_takes [sI a, sI b, sI c] := fun h hI => by
  refine zC_mono (c_X8_takes hd h a b c ha hb hc hI.1.1) ?_
  rintro o g ⟨rfl, r, rfl, hr⟩
  refine ⟨r, rfl, hI, zC_mono (c_X9_takes hd h a b c ha hb hc hI.1.1 hI.1.2.1) ?_⟩
  rintro o g' ⟨rfl, r', rfl, hr'⟩
  rw [takesA_u hr hr']
  exact ⟨rfl, hI⟩
def seaA (h : zH) (a b c r : Int) : Prop := (¬ ((0 ≤ a ∧ a < h.1 2 0) ∧ (0 ≤ b ∧ b < h.1 2 4) ∧ 0 ≤ c ∧ c ≤ 1439) ∧ r = -2000000000) ∨ (((0 ≤ a ∧ a < h.1 2 0) ∧ (0 ≤ b ∧ b < h.1 2 4) ∧ 0 ≤ c ∧ c ≤ 1439) ∧ r = seaF (h.1 19) (h.1 20) (h.1 21) (h.1 22) (h.1 23) a.toNat b.toNat c)
theorem seaA_u {h : zH} {a b c r r' : Int} (x : seaA h a b c r) (y : seaA h a b c r') : r = r' := by
  rcases x with ⟨x1, x2⟩ | ⟨x1, x2⟩
  · rcases y with ⟨y1, y2⟩ | ⟨y1, y2⟩
    · omega
    · exact absurd y1 x1
  · rcases y with ⟨y1, y2⟩ | ⟨y1, y2⟩
    · exact absurd x1 y1
    · rw [x2, y2]
theorem c_X8_sea {d : Nat} (hd : 4 ≤ d) (h : zH) (a b c : Int) (ha : inR a) (hb : inR b) (hc : inR c) (hV : VV h) : zC d k_X8_sea [sR 0, sI a, sI b, sI c] h (fun o g => h = g ∧ ∃ r : Int, o = some (sI r) ∧ seaA h a b c r) := by
  obtain ⟨⟨hv1, hv2, hv3, hv4, hv5⟩, hVt, hVw, -⟩ := id hV
  refine zC_of (by decide +kernel) (Nat.le_of_ble_eq_true rfl) (fun X C E => zrun_sound t_X8_sea C E [] 60 _ _ _ _ ?_)
  refine zcall_i (d' := d - 1) (by omega) (c_X8_within h a 0 _ ha (by omega) (by omega)) ?_
  rintro _ _ ⟨rfl, rfl⟩
  refine And.intro g_in (And.intro (fun c1 => And.intro rfl ⟨_, rfl, Or.inl ⟨fun z => g_f c1 (by omega), rfl⟩⟩) (fun c1 => ?_))
  refine zcall_i (d' := d - 1) (by omega) (c_X8_within h b 0 _ hb (by omega) (by omega)) ?_
  rintro _ _ ⟨rfl, rfl⟩
  refine And.intro g_in (And.intro (fun c2 => And.intro rfl ⟨_, rfl, Or.inl ⟨fun z => g_f c2 (by omega), rfl⟩⟩) (fun c2 => ?_))
  refine zcall_i (d' := d - 1) (by omega) (c_X8_isMinute (by omega) h c hc) ?_
  rintro _ _ ⟨rfl, rfl⟩
  refine And.intro g_in (And.intro (fun c3 => ?_) (fun c3 => And.intro rfl ⟨_, rfl, Or.inl ⟨fun z => g_f c3 z.2.2, rfl⟩⟩))
  have q1 := g_t c1
  have q2 := g_t c2
  have q3 := g_t c3
  obtain ⟨t, et, et2⟩ := nat_of q1.1
  obtain ⟨w, ew, ew2⟩ := nat_of q2.1
  have ht := c_X2_seaAt (d := d - 1) (by omega) h t w c (by omega) (by omega) q3 (hVt t (by omega)) (hVw w (by omega)).2.1
  rw [← et, ← ew] at ht
  refine zcall_i (d' := d - 1) (by omega) ht ?_
  rintro _ _ ⟨rfl, rfl⟩
  exact And.intro rfl ⟨_, rfl, Or.inr ⟨⟨by omega, by omega, q3⟩, by rw [et2, ew2]⟩⟩
theorem c_X9_sea {d : Nat} (hd : 4 ≤ d) (h : zH) (a b c : Int) (ha : inR a) (hb : inR b) (hc : inR c) (hV : VV h) (hE : Ieq h) : zC d k_X9_sea [sR 52, sI a, sI b, sI c] h (fun o g => h = g ∧ ∃ r : Int, o = some (sI r) ∧ seaA h a b c r) := by
  obtain ⟨⟨hv1, hv2, hv3, hv4, hv5⟩, hVt, hVw, -⟩ := id hV
  obtain ⟨⟨x1, x2, x3, x4, -⟩, e1, e2, e3, -⟩ := id hE
  have g1 := c_X9_isTide (d := d - 1) (by omega) h a ha (by omega)
  have g2 := c_X9_isWind (d := d - 1) (by omega) h b hb (by omega)
  rw [x1] at g1
  rw [x2] at g2
  refine zC_of (by decide +kernel) (Nat.le_of_ble_eq_true rfl) (fun X C E => zrun_sound t_X9_sea C E [] 60 _ _ _ _ ?_)
  refine zcall_i (d' := d - 1) (by omega) g1 ?_
  rintro _ _ ⟨rfl, rfl⟩
  refine And.intro g_in (And.intro (fun c1 => And.intro rfl ⟨_, rfl, Or.inl ⟨fun z => g_f c1 z.1, rfl⟩⟩) (fun c1 => ?_))
  refine zcall_i (d' := d - 1) (by omega) g2 ?_
  rintro _ _ ⟨rfl, rfl⟩
  refine And.intro g_in (And.intro (fun c2 => And.intro rfl ⟨_, rfl, Or.inl ⟨fun z => g_f c2 z.2.1, rfl⟩⟩) (fun c2 => ?_))
  refine zcall_i (d' := d - 1) (by omega) (c_X9_isMinute (by omega) h c hc) ?_
  rintro _ _ ⟨rfl, rfl⟩
  refine And.intro g_in (And.intro (fun c3 => And.intro rfl ⟨_, rfl, Or.inl ⟨fun z => g_f c3 z.2.2, rfl⟩⟩) (fun c3 => ?_))
  have q1 := g_t c1
  have q2 := g_t c2
  have q3 := g_t c3
  obtain ⟨t, et, et2⟩ := nat_of q1.1
  obtain ⟨w, ew, ew2⟩ := nat_of q2.1
  have same := seaF_c (li' := h.1 63) (ea' := h.1 64) (li := h.1 22) (ea := h.1 23) (w := w) (m := c) (by omega) (hVt t (by omega)) (e1 t (by omega)).symm (fun i hi => (e2 i hi).1.symm) (fun i hi => (e2 i hi).2.symm) (e3 w (by omega)).1.symm (e3 w (by omega)).2.1.symm
  have ht := c_X9_seaAt (d := d - 1) (by omega) h t w c (by omega) (by omega) q3 (TOK_c (by omega) (hVt t (by omega)) (e1 t (by omega)).symm (fun i hi => (e2 i hi).1.symm) (fun i hi => (e2 i hi).2.symm)) (by rw [(e3 w (by omega)).2.1]; exact (hVw w (by omega)).2.1)
  rw [← same, ← et, ← ew] at ht
  refine zcall_i (d' := d - 1) (by omega) ht ?_
  rintro _ _ ⟨rfl, rfl⟩
  exact And.intro rfl ⟨_, rfl, Or.inr ⟨⟨q1, q2, q3⟩, by rw [et2, ew2]⟩⟩
theorem pr_sea {d : Nat} (hd : 4 ≤ d) {a b c : Int} (ha : inR a) (hb : inR b) (hc : inR c) : Pair d k_X8_sea k_X9_sea [sI a, sI b, sI c] := fun h hI => by
  refine zC_mono (c_X8_sea hd h a b c ha hb hc hI.1.1) ?_
  rintro o g ⟨rfl, r, rfl, hr⟩
  refine ⟨r, rfl, hI, zC_mono (c_X9_sea hd h a b c ha hb hc hI.1.1 hI.1.2.1) ?_⟩
  rintro o g' ⟨rfl, r', rfl, hr'⟩
  rw [seaA_u hr hr']
  exact ⟨rfl, hI⟩
