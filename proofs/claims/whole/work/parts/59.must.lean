/-! ===== must ===== -/
noncomputable def bitsF (φ : Nat → Prop) : Nat → Int
  | 0 => 0
  | n + 1 => @ite Int (φ n) (Classical.propDecidable (φ n)) (or32 (bitsF φ n) (shl32 1 (n : Int))) (bitsF φ n)
theorem bitsF_1 {φ : Nat → Prop} {n : Nat} (h : φ n) : bitsF φ (n + 1) = or32 (bitsF φ n) (shl32 1 (n : Int)) := if_pos h
theorem bitsF_0 {φ : Nat → Prop} {n : Nat} (h : ¬ φ n) : bitsF φ (n + 1) = bitsF φ n := if_neg h
theorem bitsF_in (φ : Nat → Prop) : ∀ n, inR (bitsF φ n)
  | 0 => ⟨by show (-2147483648 : Int) ≤ 0; decide, by show (0 : Int) ≤ 2147483647; decide⟩
  | n + 1 => by
    by_cases h : φ n
    · rw [bitsF_1 h]
      exact or32_in _ _
    · rw [bitsF_0 h]
      exact bitsF_in φ n
theorem kpR_K {h g : zH} (hf : fr frK h g) : kpR h g := by
  refine ⟨fun c q => funext fun i => (hf c i ?_).1, fun c q => funext fun i => (hf c i ?_).2, fun i q _ _ _ _ => (hf 52 i ?_).1⟩
  · simp [own52] at q
    simp [frK]
    omega
  · simp [own52] at q
    simp [frK]
    omega
  · simp [frK]
theorem kpR_aw {h g : zH} (k : kpR h g) : aw g = aw h := by
  unfold aw
  rw [k.1 2 rfl]
theorem SM_K {h H : zH} {c : Int} {s : Nat} {F M Y W : Int} (k : kpR h H) (hV : VV h) (hE : Ieq h) (hc : okT h c) (hs : 1 ≤ s ∧ s < 2 ^ (h.1 2 4).toNat) (e1 : H.1 52 31 = F) (e2 : H.1 52 32 = M) (e3 : H.1 52 33 = Y) (e4 : H.1 52 34 = W) : sameS (H.1 2 8).toNat (SM H c s) (SZ h c s F M Y W) := by
  obtain ⟨k1, k2, k3, k4⟩ := kpR_ok k
  have := SM_Z (h := H) (c := c) (s := s) (kpR_V k hV) (kpR_E k hE) (by rw [k3]; exact hc) (by rw [k4]; exact hs)
  rw [e1, e2, e3, e4, kpR_SZ k] at this
  exact this
theorem c_byDarkK {d : Nat} (hd : 5 ≤ d) (h H : zH) (a b c s' : Int) (s : Nat) (F M Y W : Int) (k : kpR h H) (hV : VV h) (hE : Ieq h) (hW : Imw H) (ha : okF h a) (hb : okP h b) (hc : okT h c) (es : s' = s) (hs : 1 ≤ s ∧ s < 2 ^ (h.1 2 4).toNat) (e1 : H.1 52 31 = F) (e2 : H.1 52 32 = M) (e3 : H.1 52 33 = Y) (e4 : H.1 52 34 = W) :
    zC d k_X9_byDark [sR 52, sI a, sI b, sI c, sI s'] H (fun o g => fr frR H g ∧ isB o (rdB (SZ h c s F M Y W) (a / 10000).toNat (a % 10000).toNat b.toNat (h.1 2 19).toNat)) := by
  obtain ⟨k1, k2, k3, k4⟩ := kpR_ok k
  have := c_X9_byDark hd H a b c s' s (SZ h c s F M Y W) (kpR_V k hV) (kpR_E k hE) hW (by rw [k1]; exact ha) (by rw [k2]; exact hb) (by rw [k3]; exact hc) es (by rw [k4]; exact hs) (SM_K k hV hE hc hs e1 e2 e3 e4)
  rw [k4] at this
  exact this
theorem c_neverK {d : Nat} (hd : 5 ≤ d) (h H : zH) (a b c : Int) (F M Y W : Int) (k : kpR h H) (hV : VV h) (hE : Ieq h) (hW : Imw H) (ha : okF h a) (hb : okP h b) (hc : okT h c) (e1 : H.1 52 31 = F) (e2 : H.1 52 32 = M) (e3 : H.1 52 33 = Y) (e4 : H.1 52 34 = W) :
    zC d k_X9_soonOrNever [sR 52, sI a, sI b, sI c] H (fun o g => fr frR H g ∧ o = some (sI (dayO (soonV (SZ h c (aw h) F M Y W) (a / 10000).toNat (a % 10000).toNat b.toNat 1439)))) := by
  obtain ⟨k1, k2, k3, k4⟩ := kpR_ok k
  obtain ⟨w1, w2, -⟩ := aw_ok hV
  refine c_X9_soonOrNever hd H a b c (SZ h c (aw h) F M Y W) (kpR_V k hV) (kpR_E k hE) hW (by rw [k1]; exact ha) (by rw [k2]; exact hb) (by rw [k3]; exact hc) ?_
  rw [kpR_aw k]
  exact SM_K k hV hE hc ⟨w1, w2⟩ e1 e2 e3 e4
def mustA (h : zH) (a b c r : Int) : Prop := (¬ (okF h a ∧ okP h b ∧ okT h c) ∧ r = -1) ∨ ((okF h a ∧ okP h b ∧ okT h c) ∧ ¬ rdB (SB h c (aw h)) (a / 10000).toNat (a % 10000).toNat b.toNat (h.1 2 19).toNat ∧ r = -2) ∨ ((okF h a ∧ okP h b ∧ okT h c) ∧ rdB (SB h c (aw h)) (a / 10000).toNat (a % 10000).toNat b.toNat (h.1 2 19).toNat ∧ r = bitsF (fun p => ¬ rdB (SZ h c (aw h) (-1) (-1) 0 (p : Int)) (a / 10000).toNat (a % 10000).toNat b.toNat (h.1 2 19).toNat) (h.1 2 8).toNat)
theorem mustA_u {h : zH} {a b c r r' : Int} (x : mustA h a b c r) (y : mustA h a b c r') : r = r' := by
  rcases x with ⟨x1, x2⟩ | ⟨x1, x2, x3⟩ | ⟨x1, x2, x3⟩ <;> rcases y with ⟨y1, y2⟩ | ⟨y1, y2, y3⟩ | ⟨y1, y2, y3⟩ <;> first | exact absurd x1 y1 | exact absurd y1 x1 | exact absurd x2 y2 | exact absurd y2 x2 | omega
theorem mustA_k {h g : zH} (k : kpR h g) {a b c r : Int} (x : mustA g a b c r) : mustA h a b c r := by
  obtain ⟨k1, k2, k3, k4⟩ := kpR_ok k
  unfold mustA SB at *
  simp only [kpR_SZ k] at x
  rw [k1, k2, k3, kpR_aw k, k4] at x
  exact x
set_option maxHeartbeats 2000000 in
theorem c_X8_must {d : Nat} (hd : 7 ≤ d) (h : zH) (a b c : Int) (ha : inR a) (hb : inR b) (hc : inR c) (hV : VV h) (hI : Isea h) :
    zC d k_X8_must [sR 0, sI a, sI b, sI c] h (fun o g => fr frK h g ∧ Isea g ∧ ∃ r : Int, o = some (sI r) ∧ mustA h a b c r) := by
  obtain ⟨hv1, hv2, hv3, hv4, hv5⟩ := id hV.1
  obtain ⟨w1, w2, w3⟩ := aw_ok hV
  refine zC_of (by decide +kernel) (Nat.le_of_ble_eq_true rfl) (fun X C E => ?_)
  have loop : okF h a → okP h b → okT h c → rdB (SB h c (aw h)) (a / 10000).toNat (a % 10000).toNat b.toNat (h.1 2 19).toNat → ∀ (f p : Nat) (H : zH) (W : Int), p + f = (h.1 2 8).toNat → fr frK h H → Isea H → QZ h H c (aw h) (-1) (-1) 0 W → zJ X 71 [some (sR 0), some (sI a), some (sI b), some (sI c), some (sI (bitsF (fun p => ¬ rdB (SZ h c (aw h) (-1) (-1) 0 (p : Int)) (a / 10000).toNat (a % 10000).toNat b.toNat (h.1 2 19).toNat) p)), some (sI p)] [] H := by
    intro oa ob oc hB f
    induction f with
    | zero =>
      intro p H W hp hf hs hq
      have e8 : H.1 2 8 = h.1 2 8 := (hf 2 8 rfl).1
      refine zrun_sound t_X8_must C E [] 60 _ _ _ _ ?_
      refine And.intro (by omega) (And.intro (by omega) (And.intro (fun _ => ?_) (fun z => absurd (by omega) z)))
      refine And.intro hf (And.intro hs ⟨_, rfl, Or.inr (Or.inr ⟨⟨oa, ob, oc⟩, hB, ?_⟩)⟩)
      rw [show p = (h.1 2 8).toNat by omega]
    | succ f ih =>
      intro p H W hp hf hs hq
      have e8 : H.1 2 8 = h.1 2 8 := (hf 2 8 rfl).1
      have hd1 : d - 1 + 1 ≤ d := by omega
      have hd5 : 5 ≤ d - 1 := by omega
      refine zrun_sound t_X8_must C E [71] 60 _ _ _ _ ?_
      refine And.intro (by omega) (And.intro (by omega) (And.intro (fun z => absurd z (by omega)) (fun _ => ?_)))
      refine zcall_i (d' := d - 1) hd1 (c_X5_barWaiting H p (by omega)) ?_
      rintro _ _ ⟨rfl, rr, rfl, hr⟩
      have hq2 := QZ_bar hq (by omega) hr
      have hf2 : fr frK h (setL H 4 6 rr) := fr_setL hf rfl
      have e19 : (setL H 4 6 rr).1 2 19 = ((h.1 2 19).toNat : Int) := by
        show H.1 2 19 = _
        rw [(hf 2 19 rfl).1]
        omega
      refine zcall_i (d' := d - 1) hd1 (c_soonX hd5 h _ a b c _ (aw h) (h.1 2 19).toNat (-1) (-1) 0 p hV hq2 oa ob e19 (by omega)) ?_
      rintro _ g2 ⟨hf3, rfl⟩
      have bd := soonV_b (SZ h c (aw h) (-1) (-1) 0 (p : Int)) (a / 10000).toNat (a % 10000).toNat b.toNat (h.1 2 19).toNat
      have no := @soonV_no (SZ h c (aw h) (-1) (-1) 0 (p : Int)) (a / 10000).toNat (a % 10000).toNat b.toNat (h.1 2 19).toNat
      have nx := ih (p + 1) g2 p (by omega) (fr_trans hf2 (frK_S hf3)) (Isea_S (show Isea (setL H 4 6 rr) from hs) hf3) (QZ_S hq2 hf3)
      refine And.intro (by omega) (And.intro (by decide) (And.intro (fun z => ?_) (fun z => ?_)))
      · have hn : ¬ ¬ rdB (SZ h c (aw h) (-1) (-1) 0 (p : Int)) (a / 10000).toNat (a % 10000).toNat b.toNat (h.1 2 19).toNat := fun q => z (no.mpr q)
        rw [bitsF_0 hn] at nx
        exact zJ_le nx (And.intro rfl (And.intro rfl (And.intro rfl (And.intro rfl (And.intro rfl (And.intro rfl trivial)))))) rfl rfl
      · rw [bitsF_1 (φ := fun p => ¬ rdB (SZ h c (aw h) (-1) (-1) 0 (p : Int)) (a / 10000).toNat (a % 10000).toNat b.toNat (h.1 2 19).toNat) (no.mp z)] at nx
        exact zJ_le nx (And.intro rfl (And.intro rfl (And.intro rfl (And.intro rfl (And.intro rfl (And.intro rfl trivial)))))) rfl rfl
  refine zrun_sound t_X8_must C E [71] 60 _ _ _ _ ?_
  refine zcall_i (d' := d - 1) (by omega) (c_X8_isFrom (by omega) h a ha hv3) ?_
  rintro _ _ ⟨rfl, rfl⟩
  refine And.intro g_in (And.intro (fun c1 => And.intro (fr_rfl _ _) (And.intro hI ⟨_, rfl, Or.inl ⟨fun z => g_f c1 z.1, rfl⟩⟩)) (fun c1 => ?_))
  refine zcall_i (d' := d - 1) (by omega) (c_X8_isPlace (by omega) h b hb hv3) ?_
  rintro _ _ ⟨rfl, rfl⟩
  refine And.intro g_in (And.intro (fun c2 => And.intro (fr_rfl _ _) (And.intro hI ⟨_, rfl, Or.inl ⟨fun z => g_f c2 z.2.1, rfl⟩⟩)) (fun c2 => ?_))
  refine zcall_i (d' := d - 1) (by omega) (c_X8_isSortAndTide (by omega) h c hc hv1) ?_
  rintro _ _ ⟨rfl, rfl⟩
  refine And.intro g_in (And.intro (fun c3 => ?_) (fun c3 => And.intro (fr_rfl _ _) (And.intro hI ⟨_, rfl, Or.inl ⟨fun z => g_f c3 z.2.2, rfl⟩⟩)))
  have q1 := g_t c1
  replace q1 : okF h a := q1
  have q2 := g_t c2
  replace q2 : okP h b := q2
  have q3 := g_t c3
  replace q3 : okT h c := q3
  refine zcall_i (d' := d - 1) (by omega) (c_X2_allWinds h (by omega)) ?_
  rintro _ _ ⟨rfl, rfl⟩
  refine zcall_i (d' := d - 1) (by omega) (c_prepX (by omega) h c _ (aw h) hV hI q3 w3 ⟨w1, w2⟩) ?_
  rintro _ g ⟨rfl, hf, hs, hq⟩
  have e19 : g.1 2 19 = ((h.1 2 19).toNat : Int) := by
    rw [(hf 2 19 rfl).1]
    omega
  refine zcall_i (d' := d - 1) (by omega) (c_soonX (by omega) h g a b c _ (aw h) (h.1 2 19).toNat (-1) (-1) 0 (-1) hV hq q1 q2 e19 (by omega)) ?_
  rintro _ g2 ⟨hf3, rfl⟩
  have bd := soonV_b (SZ h c (aw h) (-1) (-1) 0 (-1)) (a / 10000).toNat (a % 10000).toNat b.toNat (h.1 2 19).toNat
  have no := @soonV_no (SZ h c (aw h) (-1) (-1) 0 (-1)) (a / 10000).toNat (a % 10000).toNat b.toNat (h.1 2 19).toNat
  have hf4 := fr_trans hf (frK_S hf3)
  refine And.intro (by omega) (And.intro (by decide) (And.intro (fun z => ?_) (fun z => ?_)))
  · exact zJ_le (loop q1 q2 q3 (Classical.not_not.mp (fun q => z (no.mpr q))) (h.1 2 8).toNat 0 g2 (-1) (by omega) hf4 (Isea_S hs hf3) (QZ_S hq hf3)) (And.intro rfl (And.intro rfl (And.intro rfl (And.intro rfl (And.intro rfl (And.intro rfl trivial)))))) rfl rfl
  · exact And.intro hf4 (And.intro (Isea_S hs hf3) ⟨_, rfl, Or.inr (Or.inl ⟨⟨q1, q2, q3⟩, no.mp z, rfl⟩)⟩)
set_option maxHeartbeats 2000000 in
theorem c_X9_must {d : Nat} (hd : 7 ≤ d) (h : zH) (a b c : Int) (ha : inR a) (hb : inR b) (hc : inR c) (hI : Inv2 h) :
    zC d k_X9_must [sR 52, sI a, sI b, sI c] h (fun o g => Inv2 g ∧ ∃ r : Int, o = some (sI r) ∧ mustA h a b c r) := by
  have hV := hI.1.1
  have hE := hI.1.2.1
  obtain ⟨hv1, hv2, hv3, hv4, hv5⟩ := id hV.1
  obtain ⟨w1, w2, w3⟩ := aw_ok hV
  obtain ⟨x1, x2, x3, x4, x5, x6⟩ := id hE.1
  obtain ⟨m1, m2, m3⟩ := id hI.1.2.2.2.2.2.2.2.2.2
  have m4 := hI.2
  have g1 := c_X9_isFrom (d := d - 1) (by omega) h a ha (by omega)
  have g2 := c_X9_isPlace (d := d - 1) (by omega) h b hb (by omega)
  have g3 := c_X9_isSt (d := d - 1) (by omega) h c hc (by omega)
  have hall : ∀ H : zH, kpR h H → zC (d - 1) k_X9_allWinds [sR 52] H (fun o g => H = g ∧ o = some (sI (aw h))) := fun H k => by
    have e16 : H.1 52 16 = h.1 2 4 := (k.2.2 16 (by omega) (by omega) (by omega) (by omega) (by omega)).trans x2
    have := c_X9_allWinds (d := d - 1) H (by omega)
    rw [e16, w3] at this
    exact this
  rw [x3] at g1 g2
  rw [x1] at g3
  refine zC_of (by decide +kernel) (Nat.le_of_ble_eq_true rfl) (fun X C E => ?_)
  have loop : okF h a → okP h b → okT h c → rdB (SB h c (aw h)) (a / 10000).toNat (a % 10000).toNat b.toNat (h.1 2 19).toNat → ∀ (f p : Nat) (H : zH), p + f = (h.1 2 8).toNat → kpR h H → Isea H → H.1 52 31 = -1 → H.1 52 32 = -1 → (0 ≤ H.1 52 33 ∧ H.1 52 33 ≤ 200) → zJ X 49 [some (sR 52), some (sI a), some (sI b), some (sI c), some (sI (bitsF (fun p => ¬ rdB (SZ h c (aw h) (-1) (-1) 0 (p : Int)) (a / 10000).toNat (a % 10000).toNat b.toNat (h.1 2 19).toNat) p)), some (sI p)] [] H := by
    intro oa ob oc hB f
    induction f with
    | zero =>
      intro p H hp k hs n1 n2 n3
      have e20 : H.1 52 20 = h.1 2 8 := (k.2.2 20 (by omega) (by omega) (by omega) (by omega) (by omega)).trans x3
      refine zrun_sound t_X9_must C E [] 60 _ _ _ _ ?_
      refine And.intro (by omega) (And.intro (by omega) (And.intro (fun _ => ?_) (fun z => absurd (by omega) z)))
      refine And.intro (kpR_I (kpR_i k (Or.inr (Or.inr (Or.inr rfl)))) hI hs n1 n2 rfl n3) ⟨_, rfl, Or.inr (Or.inr ⟨⟨oa, ob, oc⟩, hB, ?_⟩)⟩
      rw [show p = (h.1 2 8).toNat by omega]
    | succ f ih =>
      intro p H hp k hs n1 n2 n3
      have e20 : H.1 52 20 = h.1 2 8 := (k.2.2 20 (by omega) (by omega) (by omega) (by omega) (by omega)).trans x3
      have hd1 : d - 1 + 1 ≤ d := by omega
      have k2 : kpR h (setI H 52 34 p) := kpR_i k (Or.inr (Or.inr (Or.inr rfl)))
      have bi := bitsF_in (fun p => ¬ rdB (SZ h c (aw h) (-1) (-1) 0 (p : Int)) (a / 10000).toNat (a % 10000).toNat b.toNat (h.1 2 19).toNat) p
      refine zrun_sound t_X9_must C E [49] 60 _ _ _ _ ?_
      refine And.intro (by omega) (And.intro (by omega) (And.intro (fun z => absurd z (by omega)) (fun _ => ?_)))
      refine zcall_i (d' := d - 1) hd1 (hall _ k2) ?_
      rintro _ _ ⟨rfl, rfl⟩
      have hW : Imw (setI H 52 34 p) := by
        refine ⟨?_, ?_, n3, ?_⟩
        · show -1 ≤ H.1 52 31 ∧ H.1 52 31 ≤ 24
          omega
        · show -1 ≤ H.1 52 32 ∧ H.1 52 32 ≤ 24
          omega
        · show -1 ≤ (p : Int) ∧ (p : Int) ≤ 12
          omega
      refine zcall_i (d' := d - 1) hd1 (c_byDarkK (by omega) h _ a b c _ (aw h) (-1) (-1) (H.1 52 33) p k2 hV hE hW oa ob oc rfl ⟨w1, w2⟩ n1 n2 rfl rfl) ?_
      rintro o g3 ⟨hf, ho⟩
      rw [SZ_Y (Y' := 0)] at ho
      have nx := ih (p + 1) g3 (by omega) (kpR_t k2 (kpR_R hf)) (kpR_sea hf hs) ((hf 52 31 rfl).1.trans n1) ((hf 52 32 rfl).1.trans n2) (by rw [(hf 52 33 rfl).1]; exact n3)
      rcases ho with ⟨rfl, z⟩ | ⟨rfl, z⟩
      · refine And.intro (by decide) (And.intro (fun q => absurd q (by decide)) (fun _ => ?_))
        rw [bitsF_0 (fun q => q z)] at nx
        refine zJ_le nx (And.intro rfl (And.intro rfl (And.intro rfl (And.intro rfl (And.intro (congrArg sI (or32_0 bi).symm) (And.intro rfl trivial)))))) rfl rfl
      · refine And.intro (by decide) (And.intro (fun _ => ?_) (fun q => absurd rfl q))
        rw [bitsF_1 (φ := fun p => ¬ rdB (SZ h c (aw h) (-1) (-1) 0 (p : Int)) (a / 10000).toNat (a % 10000).toNat b.toNat (h.1 2 19).toNat) z] at nx
        exact zJ_le nx (And.intro rfl (And.intro rfl (And.intro rfl (And.intro rfl (And.intro rfl (And.intro rfl trivial)))))) rfl rfl
  refine zrun_sound t_X9_must C E [49] 60 _ _ _ _ ?_
  refine zcall_i (d' := d - 1) (by omega) g1 ?_
  rintro _ _ ⟨rfl, rfl⟩
  refine And.intro g_in (And.intro (fun c1 => And.intro hI ⟨_, rfl, Or.inl ⟨fun z => g_f c1 z.1, rfl⟩⟩) (fun c1 => ?_))
  refine zcall_i (d' := d - 1) (by omega) g2 ?_
  rintro _ _ ⟨rfl, rfl⟩
  refine And.intro g_in (And.intro (fun c2 => And.intro hI ⟨_, rfl, Or.inl ⟨fun z => g_f c2 z.2.1, rfl⟩⟩) (fun c2 => ?_))
  refine zcall_i (d' := d - 1) (by omega) g3 ?_
  rintro _ _ ⟨rfl, rfl⟩
  refine And.intro g_in (And.intro (fun c3 => ?_) (fun c3 => And.intro hI ⟨_, rfl, Or.inl ⟨fun z => g_f c3 z.2.2, rfl⟩⟩))
  have q1 := g_t c1
  replace q1 : okF h a := q1
  have q2 := g_t c2
  replace q2 : okP h b := q2
  have q3 := g_t c3
  replace q3 : okT h c := q3
  have hW := Imw_of hI.1.2.2.2.2.2.2.2.2.2 hI.2
  refine zcall_i (d' := d - 1) (by omega) (hall h (kpR_0 h)) ?_
  rintro _ _ ⟨rfl, rfl⟩
  refine zcall_i (d' := d - 1) (by omega) (c_byDarkK (by omega) h h a b c _ (aw h) (-1) (-1) (h.1 52 33) (-1) (kpR_0 h) hV hE hW q1 q2 q3 rfl ⟨w1, w2⟩ m1 m2 rfl m3) ?_
  rintro o g4 ⟨hf, ho⟩
  rw [SZ_Y (Y' := 0)] at ho
  have kk := kpR_R hf
  have i1 := (hf 52 31 rfl).1.trans m1
  have i2 := (hf 52 32 rfl).1.trans m2
  have i3 := (hf 52 34 rfl).1.trans m3
  have i4 : 0 ≤ g4.1 52 33 ∧ g4.1 52 33 ≤ 200 := by rw [(hf 52 33 rfl).1]; exact m4
  have hs := kpR_sea hf hI.1.2.2.1
  rcases ho with ⟨rfl, z⟩ | ⟨rfl, z⟩
  · refine And.intro (by decide) (And.intro (fun _ => ?_) (fun q => absurd q (by decide)))
    exact zJ_le (loop q1 q2 q3 z (h.1 2 8).toNat 0 g4 (by omega) kk hs i1 i2 i4) (And.intro rfl (And.intro rfl (And.intro rfl (And.intro rfl (And.intro rfl (And.intro rfl trivial)))))) rfl rfl
  · refine And.intro (by decide) (And.intro (fun q => absurd rfl q) (fun _ => ?_))
    exact And.intro (kpR_I kk hI hs i1 i2 i3 i4) ⟨_, rfl, Or.inr (Or.inl ⟨⟨q1, q2, q3⟩, z, rfl⟩)⟩
theorem pr_must {d : Nat} (hd : 7 ≤ d) {a b c : Int} (ha : inR a) (hb : inR b) (hc : inR c) : Pair2 d k_X8_must k_X9_must [sI a, sI b, sI c] := fun h hI => by
  refine zC_mono (c_X8_must hd h a b c ha hb hc hI.1.1 hI.1.2.2.1) ?_
  rintro o g ⟨hf, hs, r, rfl, hr⟩
  refine ⟨r, rfl, zC_mono (c_X9_must hd g a b c ha hb hc (Inv_K hI hs hf)) ?_⟩
  rintro o g' ⟨hI', r', rfl, hr'⟩
  rw [mustA_u hr (mustA_k (kpR_K hf) hr')]
  exact ⟨rfl, hI'⟩
