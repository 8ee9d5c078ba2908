theorem c_X8_reachedByDark {d : Nat} (hd : 6 ≤ d) (h H : zH) (a b c s' : Int) (s : Nat) (hf : fr frK h H) (hs0 : Isea H) (hV : VV h) (ha : okF h a) (hb : okP h b) (hc : okT h c) (es : s' = s) (hs : 1 ≤ s ∧ s < 2 ^ (h.1 2 4).toNat) :
    zC d k_X8_reachedByDark [sR 0, sI a, sI b, sI c, sI s'] H (fun o g => fr frK h g ∧ Isea g ∧ isB o (bD h a b c s)) := by
  have k := kpR_K hf
  have hV' := kpR_V k hV
  obtain ⟨hv1, hv2, hv3, hv4, hv5⟩ := id hV'.1
  obtain ⟨k1, k2, k3, k4⟩ := kpR_ok k
  have eB : bD H a b c s = bD h a b c s := by rw [kpR_bD k]
  rw [← eB]
  refine zC_of (by decide +kernel) (Nat.le_of_ble_eq_true rfl) (fun X C E => zrun_sound t_X8_reachedByDark C E [] 60 _ _ _ _ ?_)
  refine zcall_i (d' := d - 1) (by omega) (c_prepX (by omega) H c s' s hV' hs0 (by rw [k3]; exact hc) es (by rw [k4]; exact hs)) ?_
  rintro _ g ⟨rfl, hf1, hs1, hq⟩
  have e19 : g.1 2 19 = ((H.1 2 19).toNat : Int) := by
    rw [(hf1 2 19 rfl).1]
    omega
  refine zcall_i (d' := d - 1) (by omega) (c_soonX (by omega) H g a b c _ s (H.1 2 19).toNat (-1) (-1) 0 (-1) hV' hq (by rw [k1]; exact ha) (by rw [k2]; exact hb) e19 (by omega)) ?_
  rintro _ g2 ⟨hf2, rfl⟩
  have bd := soonV_b (SZ H c s (-1) (-1) 0 (-1)) (a / 10000).toNat (a % 10000).toNat b.toNat (H.1 2 19).toNat
  have no := @soonV_no (SZ H c s (-1) (-1) 0 (-1)) (a / 10000).toNat (a % 10000).toNat b.toNat (H.1 2 19).toNat
  have hf3 := fr_trans hf (fr_trans hf1 (frK_S hf2))
  have hs3 := Isea_S hs1 hf2
  refine And.intro (by omega) (And.intro (by decide) (And.intro (fun z => ?_) (fun z => ?_)))
  · exact And.intro (Or.inl rfl) (And.intro hf3 (And.intro hs3 (Or.inr ⟨rfl, no.mp z⟩)))
  · exact And.intro (Or.inr rfl) (And.intro hf3 (And.intro hs3 (Or.inl ⟨rfl, Classical.not_not.mp (fun q => z (no.mpr q))⟩)))
theorem or_pw : ∀ n : Nat, n < 5 → ∀ b : Nat, b < 2 ^ n → or32 (b : Int) (shl32 1 (n : Int)) = ((b + 2 ^ n : Nat) : Int) := by decide
theorem bit_add {b n w : Nat} (hb : b < 2 ^ n) (hw : w ≤ n) : (b + 2 ^ n) / 2 ^ w % 2 = 1 ↔ (w = n ∨ (w < n ∧ b / 2 ^ w % 2 = 1)) := by
  rcases Nat.lt_or_ge w n with q | q
  · obtain ⟨k, rfl⟩ : ∃ k, n = w + (k + 1) := ⟨n - w - 1, by omega⟩
    have e : 2 ^ (w + (k + 1)) = 2 ^ w * (2 * 2 ^ k) := by rw [Nat.pow_add, Nat.pow_succ, Nat.mul_comm (2 ^ k) 2]
    rw [e, Nat.add_mul_div_left _ _ (Nat.pow_pos (by decide))]
    omega
  · have : w = n := by omega
    subst this
    rw [Nat.add_div_right _ (Nat.pow_pos (by decide)), Nat.div_eq_of_lt hb]
    exact ⟨fun _ => Or.inl rfl, fun _ => by decide⟩
theorem bitsF_nat (φ : Nat → Prop) : ∀ n : Nat, n ≤ 5 → ∃ b : Nat, bitsF φ n = b ∧ b < 2 ^ n ∧ ∀ w, w < n → (b / 2 ^ w % 2 = 1 ↔ φ w)
  | 0, _ => ⟨0, rfl, by decide, fun w hw => absurd hw (by omega)⟩
  | n + 1, hn => by
    obtain ⟨b, h1, h2, h3⟩ := bitsF_nat φ n (by omega)
    by_cases q : φ n
    · refine ⟨b + 2 ^ n, ?_, by rw [Nat.pow_succ]; omega, fun w hw => ?_⟩
      · rw [bitsF_1 q, h1, or_pw n (by omega) b h2]
      · rw [bit_add h2 (by omega)]
        by_cases e : w = n
        · subst e
          exact ⟨fun _ => q, fun _ => Or.inl rfl⟩
        · have := h3 w (by omega)
          exact ⟨fun z => this.mp (by rcases z with z | z; exact absurd z e; exact z.2), fun z => Or.inr ⟨by omega, this.mpr z⟩⟩
    · refine ⟨b, by rw [bitsF_0 q, h1], by rw [Nat.pow_succ]; omega, fun w hw => ?_⟩
      by_cases e : w = n
      · subst e
        rw [Nat.div_eq_of_lt h2]
        exact ⟨fun z => absurd z (by decide), fun z => absurd z q⟩
      · exact h3 w (by omega)
theorem lt_bit {s n i : Nat} (hs : s < 2 ^ n) (hi : s / 2 ^ i % 2 = 1) : i < n := by
  rcases Nat.lt_or_ge i n with q | q
  · exact q
  · rw [Nat.div_eq_of_lt (Nat.lt_of_lt_of_le hs (Nat.pow_le_pow_right (by decide) q))] at hi
    omega
theorem sb_le {s u : Nat} (h : sbS s u) (hs : s < 32) (hu : u < 32) : s ≤ u := by
  have tab : ∀ s : Nat, s < 32 → ∀ u : Nat, u < 32 → (∀ i : Nat, i < 5 → s / 2 ^ i % 2 = 1 → u / 2 ^ i % 2 = 1) → s ≤ u := by decide +kernel
  exact tab s hs u hu h
set_option maxHeartbeats 2000000 in
theorem c_X8_bestSet {d : Nat} (hd : 8 ≤ d) (h : zH) (a b c : Int) (hV : VV h) (hI : Isea h) (ha : okF h a) (hb : okP h b) (hc : okT h c) :
    zC d k_X8_bestSet [sR 0, sI a, sI b, sI c] h (fun o g => fr frK h g ∧ Isea g ∧ ∃ s : Nat, o = some (sI s) ∧ bsR h a b c s) := by
  obtain ⟨hv1, hv2, hv3, hv4, hv5⟩ := id hV.1
  obtain ⟨w1, w2, w3⟩ := aw_ok hV
  have a32 := aw32 hV
  have hd1 : d - 1 + 1 ≤ d := by omega
  have hd6 : 6 ≤ d - 1 := by omega
  refine zC_of (by decide +kernel) (Nat.le_of_ble_eq_true rfl) (fun X C E => ?_)
  obtain ⟨u, hu1, hu2, hu3⟩ := bitsF_nat (fun w => bD h a b c (2 ^ w)) (h.1 2 4).toNat (by omega)
  have u32 : u < 32 := Nat.lt_of_lt_of_le hu2 (Nat.pow_le_pow_right (by omega) (show (h.1 2 4).toNat ≤ 5 by omega))
  -- what goes lies in u
  have inU : ∀ s : Nat, 1 ≤ s → s ≤ aw h → bD h a b c s → sbS s u := by
    intro s s1 s2 hs i hi hbi
    have hin := lt_bit (show s < 2 ^ (h.1 2 4).toNat by omega) hbi
    exact (hu3 i hin).mpr (bD_wind hV ha hc hin hbi hs)
  have search : ∀ (f i : Nat) (t : Int) (H : zH), i + f = 32 → cntF (tb t) 32 = i → tb t 0 = false → (∀ s : Nat, 1 ≤ s → s < 32 → tb t s = true → ¬ bD h a b c s) → fr frK h H → Isea H → zJ X 53 [some (sR 0), some (sI a), some (sI b), some (sI c), some (sI u), some (sI t), some (sI i)] [] H := by
    intro f
    induction f with
    | zero =>
      intro i t H hi hcn h0 hall hf hs
      have q : cntF (tb t) 32 ≤ ((31 : Nat) : Int) := cntF_less h0 31
      omega
    | succ f ih =>
      intro i t H hi hcn h0 hall hf hs
      have k := kpR_K hf
      refine zrun_sound t_X8_bestSet C E [53, 87] 80 _ _ _ _ ?_
      refine And.intro (by omega) (And.intro (by omega) (And.intro (fun z => absurd z (by omega)) (fun _ => ?_)))
      refine zcall_i (d' := d - 1) hd1 (c_X8_likeliest (by omega) H u t u32 (kpR_V k hV)) ?_
      rintro _ _ ⟨rfl, r, rfl, l1, l2, l3⟩
      simp only [(kpR_th k).1] at l2 l3
      have r32 : r < 32 := by omega
      have fits : ∀ s : Nat, 1 ≤ s → s ≤ aw h → bD h a b c s → s < u + 1 ∧ sbS s u ∧ tb t s = false := by
        intro s s1 s2 hsb
        have q1 := inU s s1 s2 hsb
        have q2 := sb_le q1 (by omega) u32
        refine ⟨by omega, q1, ?_⟩
        cases q : tb t s with
        | false => rfl
        | true => exact absurd hsb (hall s s1 (by omega) q)
      have done : (r = 0 ∨ (1 ≤ r ∧ bD h a b c r)) → ∀ H2 : zH, fr frK h H2 → Isea H2 → zJ X 87 [some (sR 0), some (sI a), some (sI b), some (sI c), some (sI u), some (sI t), some (sI i), some (sI r)] [] H2 := by
        intro hr H2 hf2 hs2
        refine zrun_sound t_X8_bestSet C E [] 60 _ _ _ _ ?_
        refine And.intro hf2 (And.intro hs2 ⟨r, rfl, ?_, fun s s1 s2 s3 => ?_, fun s s1 s2 s3 => ?_⟩)
        · rcases hr with hr | ⟨hr, hr2⟩
          · exact Or.inl hr
          · rcases l1 with z | ⟨z1, z2, z3, z4⟩
            · exact Or.inl z
            · exact Or.inr ⟨hr, by omega, hr2⟩
        · obtain ⟨f1, f2, f3⟩ := fits s s1 s2 s3
          exact l2 s s1 f1 f2 f3
        · have sle : s ≤ aw h := by
            rcases l1 with z | ⟨z1, z2, z3, z4⟩
            · omega
            · omega
          obtain ⟨f1, f2, f3⟩ := fits s s1 sle s3
          exact l3 s s1 s2 f2 f3
      refine And.intro (by omega) (And.intro (fun z => ?_) (fun z => ?_))
      · exact zJ_le (done (Or.inl (by omega)) H hf hs) (And.intro rfl (And.intro rfl (And.intro rfl (And.intro rfl (And.intro rfl (And.intro rfl (And.intro rfl (And.intro rfl trivial)))))))) rfl rfl
      · have r1 : 1 ≤ r := by omega
        obtain ⟨-, ru, rs, rt⟩ : 1 ≤ r ∧ r < u + 1 ∧ sbS r u ∧ tb t r = false := by
          rcases l1 with z2 | z2
          · omega
          · exact z2
        refine zcall_i (d' := d - 1) hd1 (c_X8_reachedByDark hd6 h H a b c r r hf hs hV ha hb hc rfl ⟨r1, by omega⟩) ?_
        rintro o g ⟨hf2, hs2, ⟨rfl, z2⟩ | ⟨rfl, z2⟩⟩
        · refine And.intro (by decide) (And.intro (fun q => absurd q (by decide)) (fun _ => ?_))
          exact zJ_le (done (Or.inr ⟨r1, z2⟩) g hf2 hs2) (And.intro rfl (And.intro rfl (And.intro rfl (And.intro rfl (And.intro rfl (And.intro rfl (And.intro rfl (And.intro rfl trivial)))))))) rfl rfl
        · refine And.intro (by decide) (And.intro (fun _ => ?_) (fun q => absurd rfl q))
          have orE : ∀ s : Nat, s < 32 → tb (or32 t (shl32 1 (r : Int))) s = (tb t s || decide (s = r)) := fun s hs => tb_or t r32 hs
          have hcn2 : cntF (tb (or32 t (shl32 1 (r : Int)))) 32 = ((i + 1 : Nat) : Int) := by
            have e1 : cntF (fun s => tb t s || decide (s = r)) 32 = cntF (tb t) 32 + (if r < 32 then 1 else 0) := cntF_add rt (fun s => rfl) 32
            have e2 : ∀ n : Nat, n ≤ 32 → cntF (tb (or32 t (shl32 1 (r : Int)))) n = cntF (fun s => tb t s || decide (s = r)) n := by
              intro n
              induction n with
              | zero => intro _; rfl
              | succ n ih2 =>
                intro hn
                rw [cntF_s, cntF_s, ih2 (by omega), orE n (by omega)]
            rw [e2 32 (by omega), e1, hcn, if_pos r32]
            omega
          refine zJ_le (ih (i + 1) _ g (by omega) hcn2 ?_ (fun s s1 s2 s3 => ?_) hf2 hs2) (And.intro rfl (And.intro rfl (And.intro rfl (And.intro rfl (And.intro rfl (And.intro rfl (And.intro rfl trivial))))))) rfl rfl
          · rw [orE 0 (by omega), h0]
            exact decide_eq_false (by omega)
          · rw [orE s s2] at s3
            by_cases e : s = r
            · subst e
              exact z2
            · rw [decide_eq_false e, Bool.or_false] at s3
              exact hall s s1 s2 s3
  have hope : ∀ (f w : Nat) (H : zH), w + f = (h.1 2 4).toNat → fr frK h H → Isea H → zJ X 6 [some (sR 0), some (sI a), some (sI b), some (sI c), some (sI (bitsF (fun w => bD h a b c (2 ^ w)) w)), some (sI w)] [] H := by
    intro f
    induction f with
    | zero =>
      intro w H hw hf hs
      have e4 : H.1 2 4 = h.1 2 4 := (hf 2 4 rfl).1
      have : w = (h.1 2 4).toNat := by omega
      subst this
      refine zrun_sound t_X8_bestSet C E [53] 60 _ _ _ _ ?_
      refine And.intro (by omega) (And.intro (by omega) (And.intro (fun _ => ?_) (fun z => absurd (by omega) z)))
      have hz : cntF (tb 0) 32 = ((0 : Nat) : Int) := by decide +kernel
      exact zJ_le (search 32 0 0 H (by omega) hz (tb_0 0 (by omega)) (fun s s1 s2 s3 => by rw [tb_0 s s2] at s3; cases s3) hf hs) (And.intro rfl (And.intro rfl (And.intro rfl (And.intro rfl (And.intro (congrArg sI hu1.symm) (And.intro rfl (And.intro rfl trivial))))))) rfl rfl
    | succ f ih =>
      intro w H hw hf hs
      have e4 : H.1 2 4 = h.1 2 4 := (hf 2 4 rfl).1
      refine zrun_sound t_X8_bestSet C E [6] 60 _ _ _ _ ?_
      refine And.intro (by omega) (And.intro (by omega) (And.intro (fun z => absurd z (by omega)) (fun _ => ?_)))
      refine zcall_i (d' := d - 1) hd1 (c_X8_reachedByDark hd6 h H a b c _ (2 ^ w) hf hs hV ha hb hc (shl1_w (by omega)) (pw_ok (by omega))) ?_
      rintro o g ⟨hf2, hs2, ho⟩
      have nx := ih (w + 1) g (by omega) hf2 hs2
      rcases ho with ⟨rfl, z⟩ | ⟨rfl, z⟩
      · refine And.intro (by decide) (And.intro (fun q => absurd q (by decide)) (fun _ => ?_))
        rw [bitsF_1 (φ := fun w => bD h a b c (2 ^ w)) z] at nx
        exact zJ_le nx (And.intro rfl (And.intro rfl (And.intro rfl (And.intro rfl (And.intro rfl (And.intro rfl trivial)))))) rfl rfl
      · refine And.intro (by decide) (And.intro (fun _ => ?_) (fun q => absurd rfl q))
        rw [bitsF_0 (φ := fun w => bD h a b c (2 ^ w)) z] at nx
        exact zJ_le nx (And.intro rfl (And.intro rfl (And.intro rfl (And.intro rfl (And.intro rfl (And.intro rfl trivial)))))) rfl rfl
  refine zrun_sound t_X8_bestSet C E [6] 60 _ _ _ _ ?_
  exact zJ_le (hope (h.1 2 4).toNat 0 h (by omega) (fr_rfl _ _) hI) (And.intro rfl (And.intro rfl (And.intro rfl (And.intro rfl (And.intro rfl (And.intro rfl trivial)))))) rfl rfl
set_option maxHeartbeats 1000000 in
theorem c_X8_best {d : Nat} (hd : 9 ≤ d) (h : zH) (a b c e : Int) (ha : inR a) (hb : inR b) (hc : inR c) (he : inR e) (hV : VV h) (hI : Isea h) :
    zC d k_X8_best [sR 0, sI a, sI b, sI c, sI e] h (fun o g => fr frK h g ∧ Isea g ∧ ∃ r : Int, o = some (sI r) ∧ bestA h a b c e r) := by
  obtain ⟨hv1, hv2, hv3, hv4, hv5⟩ := id hV.1
  have a32 := aw32 hV
  have hd1 : d - 1 + 1 ≤ d := by omega
  refine zC_of (by decide +kernel) (Nat.le_of_ble_eq_true rfl) (fun X C E => zrun_sound t_X8_best C E [] 60 _ _ _ _ ?_)
  refine zcall_i (d' := d - 1) hd1 (c_X8_isFrom (by omega) h a ha hv3) ?_
  rintro _ _ ⟨rfl, rfl⟩
  refine And.intro g_in (And.intro (fun c1 => And.intro (fr_rfl _ _) (And.intro hI ⟨_, rfl, Or.inl ⟨fun z => g_f c1 z.1, rfl⟩⟩)) (fun c1 => ?_))
  refine zcall_i (d' := d - 1) hd1 (c_X8_isPlace (by omega) h b hb hv3) ?_
  rintro _ _ ⟨rfl, rfl⟩
  refine And.intro g_in (And.intro (fun c2 => And.intro (fr_rfl _ _) (And.intro hI ⟨_, rfl, Or.inl ⟨fun z => g_f c2 z.2.1, rfl⟩⟩)) (fun c2 => ?_))
  refine zcall_i (d' := d - 1) hd1 (c_X8_isSortAndTide (by omega) h c hc hv1) ?_
  rintro _ _ ⟨rfl, rfl⟩
  refine And.intro g_in (And.intro (fun c3 => And.intro (fr_rfl _ _) (And.intro hI ⟨_, rfl, Or.inl ⟨fun z => g_f c3 z.2.2.1, rfl⟩⟩)) (fun c3 => ?_))
  refine zcall_i (d' := d - 1) hd1 (c_X8_within h e 0 1 he (by omega) (by omega)) ?_
  rintro _ _ ⟨rfl, rfl⟩
  refine And.intro g_in (And.intro (fun c4 => ?_) (fun c4 => And.intro (fr_rfl _ _) (And.intro hI ⟨_, rfl, Or.inl ⟨fun z => g_f c4 z.2.2.2, rfl⟩⟩)))
  have q1 := g_t c1
  replace q1 : okF h a := q1
  have q2 := g_t c2
  replace q2 : okP h b := q2
  have q3 := g_t c3
  replace q3 : okT h c := q3
  have q4 := g_t c4
  refine zcall_i (d' := d - 1) hd1 (c_X8_bestSet (by omega) h a b c hV hI q1 q2 q3) ?_
  rintro _ g ⟨hf, hs, s, rfl, hbs⟩
  have k := kpR_K hf
  have s32 : s < 32 := by
    rcases hbs.1 with z | ⟨z1, z2, z3⟩ <;> omega
  refine And.intro he (And.intro (by omega) (And.intro (fun z => ?_) (fun z => ?_)))
  · refine zcall_i (d' := d - 1) hd1 (c_X2_thousandths (by omega) g s s32 (kpR_V k hV)) ?_
    rintro _ _ ⟨rfl, rfl⟩
    exact And.intro hf (And.intro hs ⟨_, rfl, Or.inr ⟨⟨q1, q2, q3, q4⟩, s, hbs, by rw [if_neg z, (kpR_th k).2]⟩⟩)
  · exact And.intro hf (And.intro hs ⟨_, rfl, Or.inr ⟨⟨q1, q2, q3, q4⟩, s, hbs, by rw [if_pos z]⟩⟩)
set_option maxHeartbeats 2000000 in
theorem c_X9_best {d : Nat} (hd : 9 ≤ d) (h : zH) (a b c e : Int) (ha : inR a) (hb : inR b) (hc : inR c) (he : inR e) (hI : Inv2 h) :
    zC d k_X9_best [sR 52, sI a, sI b, sI c, sI e] h (fun o g => Inv2 g ∧ ∃ r : Int, o = some (sI r) ∧ bestA h a b c e r) := by
  have hV := hI.1.1
  have hE := hI.1.2.1
  obtain ⟨hv1, hv2, hv3, hv4, hv5⟩ := id hV.1
  obtain ⟨w1, w2, w3⟩ := aw_ok hV
  obtain ⟨x1, x2, x3, x4, x5, x6⟩ := id hE.1
  obtain ⟨m1, m2, m3⟩ := id hI.1.2.2.2.2.2.2.2.2.2
  have m4 := hI.2
  have a32 := aw32 hV
  have hd1 : d - 1 + 1 ≤ d := by omega
  have b1 := fun s => chF_b (s := s) _ (Vw_c hV)
  have g1 := c_X9_isFrom (d := d - 1) (by omega) h a ha (by omega)
  have g2 := c_X9_isPlace (d := d - 1) (by omega) h b hb (by omega)
  have g3 := c_X9_isSt (d := d - 1) (by omega) h c hc (by omega)
  rw [x3] at g1 g2
  rw [x1] at g3
  have p16 : ∀ {H : zH}, kpR h H → H.1 52 16 = h.1 2 4 := fun k => (k.2.2 16 (by omega) (by omega) (by omega) (by omega) (by omega)).trans x2
  have hall : ∀ H : zH, kpR h H → zC (d - 1) k_X9_allWinds [sR 52] H (fun o g => H = g ∧ o = some (sI (aw h))) := fun H k => by
    have e16 := p16 k
    have := c_X9_allWinds (d := d - 1) H (by omega)
    rw [e16, w3] at this
    exact this
  have hch : ∀ (H : zH) (s : Nat), kpR h H → s < 32 → zC (d - 1) k_X9_chancesOf [sR 52, sI s] H (fun o g => H = g ∧ o = some (sI (ch h s))) := fun H s k hs => by
    have e16 := p16 k
    have := c_X9_chancesOf (d := d - 1) H s (h.1 2 4).toNat hs (by omega) (by omega)
    rw [ch_M k hE hV s] at this
    exact this
  have fin : ∀ {H : zH}, kpR h H ∧ Isea H ∧ H.1 52 31 = -1 ∧ H.1 52 32 = -1 ∧ H.1 52 34 = -1 ∧ (0 ≤ H.1 52 33 ∧ H.1 52 33 ≤ 200) → Inv2 H := fun ⟨k, s, n1, n2, n3, n4⟩ => kpR_I k hI s n1 n2 n3 n4
  refine zC_of (by decide +kernel) (Nat.le_of_ble_eq_true rfl) (fun X C E => ?_)
  have loop : ok3 h a b c e → ∀ (f k r : Nat) (H : zH), k + f = aw h + 1 → 1 ≤ k → (kpR h H ∧ Isea H ∧ H.1 52 31 = -1 ∧ H.1 52 32 = -1 ∧ H.1 52 34 = -1 ∧ (0 ≤ H.1 52 33 ∧ H.1 52 33 ≤ 200)) → (r = 0 ∨ (1 ≤ r ∧ r < k ∧ bD h a b c r)) → (∀ s : Nat, 1 ≤ s → s < k → bD h a b c s → ch h s ≤ ch h r) → (∀ s : Nat, 1 ≤ s → s < r → bD h a b c s → ch h s < ch h r) → zJ X 43 [some (sR 52), some (sI a), some (sI b), some (sI c), some (sI e), some (sI r), some (sI k)] [] H := by
    intro ok f
    induction f with
    | zero =>
      intro k r H hk k1 hH l1 l2 l3
      have : k = aw h + 1 := by omega
      subst this
      have r32 : r < 32 := by omega
      refine zrun_sound t_X9_best C E [] 60 _ _ _ _ ?_
      refine zcall_i (d' := d - 1) hd1 (hall H hH.1) ?_
      rintro _ _ ⟨rfl, rfl⟩
      refine And.intro (by omega) (And.intro (by omega) (And.intro (fun _ => ?_) (fun z => absurd (by omega) z)))
      have hbs : bsR h a b c r := ⟨by rcases l1 with z | ⟨z1, z2, z3⟩; exact Or.inl z; exact Or.inr ⟨z1, by omega, z3⟩, fun s s1 s2 s3 => l2 s s1 (by omega) s3, l3⟩
      refine And.intro he (And.intro (by omega) (And.intro (fun z => ?_) (fun z => ?_)))
      · refine zcall_i (d' := d - 1) hd1 (hch H r hH.1 r32) ?_
        rintro _ _ ⟨rfl, rfl⟩
        refine zcall_i (d' := d - 1) hd1 (hall H hH.1) ?_
        rintro _ _ ⟨rfl, rfl⟩
        refine zcall_i (d' := d - 1) hd1 (hch H (aw h) hH.1 a32) ?_
        rintro _ _ ⟨rfl, rfl⟩
        have ca := ch_aw hV
        have cr := b1 r
        have ca' : 1 ≤ ch h (aw h) ∧ ch h (aw h) ≤ 495 := ca
        have cr' : 0 ≤ ch h r ∧ ch h r ≤ 99 * ((h.1 2 4).toNat : Int) := cr
        refine And.intro (by omega) (And.intro (by omega) ?_)
        refine And.intro (fin hH) ⟨_, rfl, Or.inr ⟨ok, r, hbs, ?_⟩⟩
        rw [if_neg z]
        unfold thF
        rw [Int.mul_comm]
      · exact And.intro (fin hH) ⟨_, rfl, Or.inr ⟨ok, r, hbs, by rw [if_pos z]⟩⟩
    | succ f ih =>
      intro k r H hk k1 hH l1 l2 l3
      have r32 : r < 32 := by omega
      have at83 : ∀ (r' : Nat) (H : zH), (kpR h H ∧ Isea H ∧ H.1 52 31 = -1 ∧ H.1 52 32 = -1 ∧ H.1 52 34 = -1 ∧ (0 ≤ H.1 52 33 ∧ H.1 52 33 ≤ 200)) → (r' = 0 ∨ (1 ≤ r' ∧ r' < k + 1 ∧ bD h a b c r')) → (∀ s : Nat, 1 ≤ s → s < k + 1 → bD h a b c s → ch h s ≤ ch h r') → (∀ s : Nat, 1 ≤ s → s < r' → bD h a b c s → ch h s < ch h r') → zJ X 83 [some (sR 52), some (sI a), some (sI b), some (sI c), some (sI e), some (sI r'), some (sI k)] [] H := by
        intro r' H2 hH2 y1 y2 y3
        refine zrun_sound t_X9_best C E [43] 60 _ _ _ _ ?_
        exact zJ_le (ih (k + 1) r' H2 (by omega) (by omega) hH2 y1 y2 y3) (And.intro rfl (And.intro rfl (And.intro rfl (And.intro rfl (And.intro rfl (And.intro rfl (And.intro rfl trivial))))))) rfl rfl
      have skip : ¬ (ch h r < ch h k ∧ bD h a b c k) → ∀ H : zH, (kpR h H ∧ Isea H ∧ H.1 52 31 = -1 ∧ H.1 52 32 = -1 ∧ H.1 52 34 = -1 ∧ (0 ≤ H.1 52 33 ∧ H.1 52 33 ≤ 200)) → zJ X 83 [some (sR 52), some (sI a), some (sI b), some (sI c), some (sI e), some (sI r), some (sI k)] [] H := by
        intro hn H2 hH2
        refine at83 r H2 hH2 ?_ (fun s s1 s2 s3 => ?_) l3
        · rcases l1 with z | ⟨z1, z2, z3⟩
          · exact Or.inl z
          · exact Or.inr ⟨z1, by omega, z3⟩
        · by_cases e : s = k
          · subst e
            exact Int.not_lt.mp (fun z => hn ⟨z, s3⟩)
          · exact l2 s s1 (by omega) s3
      refine zrun_sound t_X9_best C E [43, 83] 80 _ _ _ _ ?_
      refine zcall_i (d' := d - 1) hd1 (hall H hH.1) ?_
      rintro _ _ ⟨rfl, rfl⟩
      refine And.intro (by omega) (And.intro (by omega) (And.intro (fun z => absurd z (by omega)) (fun _ => ?_)))
      refine zcall_i (d' := d - 1) hd1 (hch H k hH.1 (by omega)) ?_
      rintro _ _ ⟨rfl, rfl⟩
      refine zcall_i (d' := d - 1) hd1 (hch H r hH.1 r32) ?_
      rintro _ _ ⟨rfl, rfl⟩
      have ck : 0 ≤ ch h k ∧ ch h k ≤ 99 * ((h.1 2 4).toNat : Int) := b1 k
      have cr : 0 ≤ ch h r ∧ ch h r ≤ 99 * ((h.1 2 4).toNat : Int) := b1 r
      refine And.intro (by omega) (And.intro (by omega) (And.intro (fun z => ?_) (fun z => ?_)))
      · exact skip (fun q => absurd q.1 (Int.not_lt.mpr z)) H hH
      · have hlt : ch h r < ch h k := Int.not_le.mp z
        obtain ⟨kk, ss, n1, n2, n3, n4⟩ := hH
        refine zcall_i (d' := d - 1) hd1 (c_byDarkK (by omega) h H a b c k k (-1) (-1) (H.1 52 33) (-1) kk hV hE (Imw_of ⟨n1, n2, n3⟩ n4) ok.1 ok.2.1 ok.2.2.1 rfl ⟨k1, by omega⟩ n1 n2 rfl n3) ?_
        rintro o g ⟨hf, ho⟩
        rw [SZ_Y (Y' := 0)] at ho
        have hG : kpR h g ∧ Isea g ∧ g.1 52 31 = -1 ∧ g.1 52 32 = -1 ∧ g.1 52 34 = -1 ∧ (0 ≤ g.1 52 33 ∧ g.1 52 33 ≤ 200) := ⟨kpR_t kk (kpR_R hf), kpR_sea hf ss, (hf 52 31 rfl).1.trans n1, (hf 52 32 rfl).1.trans n2, (hf 52 34 rfl).1.trans n3, by rw [(hf 52 33 rfl).1]; exact n4⟩
        rcases ho with ⟨rfl, z2⟩ | ⟨rfl, z2⟩
        · refine And.intro (by decide) (And.intro (fun q => absurd q (by decide)) (fun _ => ?_))
          refine zJ_le (at83 k g hG (Or.inr ⟨k1, by omega, z2⟩) (fun s s1 s2 s3 => ?_) (fun s s1 s2 s3 => ?_)) (And.intro rfl (And.intro rfl (And.intro rfl (And.intro rfl (And.intro rfl (And.intro rfl (And.intro rfl trivial))))))) rfl rfl
          · by_cases e : s = k
            · subst e
              exact Int.le_refl _
            · have := l2 s s1 (by omega) s3
              omega
          · have := l2 s s1 s2 s3
            omega
        · refine And.intro (by decide) (And.intro (fun _ => ?_) (fun q => absurd rfl q))
          exact skip (fun q => z2 q.2) g hG
  refine zrun_sound t_X9_best C E [43] 60 _ _ _ _ ?_
  refine zcall_i (d' := d - 1) hd1 g1 ?_
  rintro _ _ ⟨rfl, rfl⟩
  refine And.intro g_in (And.intro (fun c1 => And.intro hI ⟨_, rfl, Or.inl ⟨fun z => g_f c1 z.1, rfl⟩⟩) (fun c1 => ?_))
  refine zcall_i (d' := d - 1) hd1 g2 ?_
  rintro _ _ ⟨rfl, rfl⟩
  refine And.intro g_in (And.intro (fun c2 => And.intro hI ⟨_, rfl, Or.inl ⟨fun z => g_f c2 z.2.1, rfl⟩⟩) (fun c2 => ?_))
  refine zcall_i (d' := d - 1) hd1 g3 ?_
  rintro _ _ ⟨rfl, rfl⟩
  refine And.intro g_in (And.intro (fun c3 => And.intro hI ⟨_, rfl, Or.inl ⟨fun z => g_f c3 z.2.2.1, rfl⟩⟩) (fun c3 => ?_))
  refine zcall_i (d' := d - 1) hd1 (c_X9_within h (i2l e) 0 1 e 0 1 (i2l_toInt he) (by decide) (by decide)) ?_
  rintro _ _ ⟨rfl, rfl⟩
  refine And.intro g_in (And.intro (fun c4 => ?_) (fun c4 => And.intro hI ⟨_, rfl, Or.inl ⟨fun z => g_f c4 z.2.2.2, rfl⟩⟩))
  have q1 := g_t c1
  replace q1 : okF h a := q1
  have q2 := g_t c2
  replace q2 : okP h b := q2
  have q3 := g_t c3
  replace q3 : okT h c := q3
  have q4 := g_t c4
  exact zJ_le (loop ⟨q1, q2, q3, q4⟩ (aw h) 1 0 h (by omega) (by omega) ⟨kpR_0 h, hI.1.2.2.1, m1, m2, m3, m4⟩ (Or.inl rfl) (fun s s1 s2 => absurd s2 (by omega)) (fun s s1 s2 => absurd s2 (by omega))) (And.intro rfl (And.intro rfl (And.intro rfl (And.intro rfl (And.intro rfl (And.intro rfl (And.intro rfl trivial))))))) rfl rfl
theorem pr_best {d : Nat} (hd : 9 ≤ d) {a b c e : Int} (ha : inR a) (hb : inR b) (hc : inR c) (he : inR e) : Pair2 d k_X8_best k_X9_best [sI a, sI b, sI c, sI e] := fun h hI => by
  refine zC_mono (c_X8_best hd h a b c e ha hb hc he hI.1.1 hI.1.2.2.1) ?_
  rintro o g ⟨hf, hs, r, rfl, hr⟩
  refine ⟨r, rfl, zC_mono (c_X9_best hd g a b c e ha hb hc he (Inv_K hI hs hf)) ?_⟩
  rintro o g' ⟨hI', r', rfl, hr'⟩
  rw [bestA_u hI.1.1 hr (bestA_k (kpR_K hf) hr')]
  exact ⟨rfl, hI'⟩
