/-! ===== days ===== -/
noncomputable def lstV (h : zH) (a b : Int) (t : Nat) : Int := lastV (SB h (10 * b + (t : Int)) (aw h)) (a / 100).toNat (a % 100).toNat (h.1 2 18).toNat (h.1 2 19).toNat
def dyL (r : Nat → Int) : Nat → Int
  | 0 => -2
  | n + 1 => if dyL r n < r n then r n else dyL r n
def dyD (r : Nat → Int) : Nat → Int
  | 0 => -2
  | n + 1 => if dyL r n < r n then (n : Int) else dyD r n
def daysA (h : zH) (a b c r : Int) : Prop := (¬ (ok2 h a ∧ (0 ≤ b ∧ b ≤ 3) ∧ 0 ≤ c ∧ c ≤ 1) ∧ r = -1) ∨ ((ok2 h a ∧ (0 ≤ b ∧ b ≤ 3) ∧ 0 ≤ c ∧ c ≤ 1) ∧ r = if c = 0 then bitsF (fun t => ¬ lstV h a b t = -2) (h.1 2 0).toNat else dyD (lstV h a b) (h.1 2 0).toNat)
theorem daysA_u {h : zH} {a b c r r' : Int} (x : daysA h a b c r) (y : daysA h a b c r') : r = r' := by
  rcases x with ⟨x1, x2⟩ | ⟨x1, x2⟩ <;> rcases y with ⟨y1, y2⟩ | ⟨y1, y2⟩ <;> first | exact absurd x1 y1 | exact absurd y1 x1 | rw [x2, y2]
theorem kpR_lst {h g : zH} (k : kpR h g) (a b : Int) : lstV g a b = lstV h a b := funext fun t => by
  unfold lstV SB
  rw [kpR_SZ k, kpR_aw k, k.1 2 rfl]
theorem daysA_k {h g : zH} (k : kpR h g) {a b c r : Int} (x : daysA g a b c r) : daysA h a b c r := by
  unfold daysA ok2 at *
  simp only [kpR_lst k] at x
  rw [k.1 2 rfl] at x
  exact x
theorem lstV_b (h : zH) (a b : Int) (t : Nat) (hV : VV h) : lstV h a b t = -2 ∨ (0 ≤ lstV h a b t ∧ lstV h a b t ≤ 1439) := by
  obtain ⟨hv1, hv2, hv3, hv4, hv5⟩ := id hV.1
  rcases lastV_b (SB h (10 * b + (t : Int)) (aw h)) (a / 100).toNat (a % 100).toNat (h.1 2 18).toNat (h.1 2 19).toNat with q | q
  · exact Or.inl q
  · refine Or.inr ⟨q.1, ?_⟩
    have := q.2
    unfold lstV
    omega
theorem dyL_b {r : Nat → Int} (hr : ∀ t, r t = -2 ∨ (0 ≤ r t ∧ r t ≤ 1439)) : ∀ n, dyL r n = -2 ∨ (0 ≤ dyL r n ∧ dyL r n ≤ 1439)
  | 0 => Or.inl rfl
  | n + 1 => by
    have := dyL_b hr n
    have := hr n
    unfold dyL
    split <;> omega
theorem dyD_b {r : Nat → Int} : ∀ n : Nat, -2 ≤ dyD r n ∧ dyD r n ≤ n
  | 0 => ⟨Int.le_refl _, by show (-2 : Int) ≤ 0; decide⟩
  | n + 1 => by
    have := dyD_b (r := r) n
    unfold dyD
    split <;> omega
theorem c_lastX {d : Nat} (hd : 5 ≤ d) (h g : zH) (a c : Int) (s : Nat) (hV : VV h) (hf : fr frK h g) (hq : QZ h g c s (-1) (-1) 0 (-1)) (ha : ok2 h a) :
    zC d k_X5_latest [sR 4, sI (a / 100), sI (a % 100)] g (fun o g2 => fr frS g g2 ∧ o = some (sI (lastV (SB h c s) (a / 100).toNat (a % 100).toNat (h.1 2 18).toNat (h.1 2 19).toNat))) := by
  obtain ⟨hv1, hv2, hv3, hv4, hv5⟩ := id hV.1
  obtain ⟨a1, a2, a3, a4⟩ := ha
  have hc := c_X5_latest (d := d) (by omega) g (c / 10).toNat (h.1 2 8).toNat (h.1 2 10).toNat (a / 100).toNat (a % 100).toNat (h.1 2 18).toNat (h.1 2 19).toNat hq.1 (by rw [(hf 2 18 rfl).1]; omega) (by rw [(hf 2 19 rfl).1]; omega) (by omega) (by omega) (by omega) (by omega)
  rw [show (((a / 100).toNat : Nat) : Int) = a / 100 by omega, show (((a % 100).toNat : Nat) : Int) = a % 100 by omega] at hc
  refine zC_mono hc ?_
  rintro o g2 ⟨hf2, r, rfl, hr⟩
  refine ⟨hf2, ?_⟩
  rw [lastV_eq (lastR_c (QZ_same hq) (SC_ok hq.1) (by omega) (by omega) hr)]
set_option maxHeartbeats 2000000 in
theorem c_X8_days {d : Nat} (hd : 7 ≤ d) (h : zH) (a b c : Int) (ha : inR a) (hb : inR b) (hc : inR c) (hV : VV h) (hI : Isea h) :
    zC d k_X8_days [sR 0, sI a, sI b, sI c] h (fun o g => fr frK h g ∧ Isea g ∧ ∃ r : Int, o = some (sI r) ∧ daysA h a b c r) := by
  obtain ⟨hv1, hv2, hv3, hv4, hv5⟩ := id hV.1
  have hd1 : d - 1 + 1 ≤ d := by omega
  have rb := fun t => lstV_b h a b t hV
  refine zC_of (by decide +kernel) (Nat.le_of_ble_eq_true rfl) (fun X C E => ?_)
  have loop : ok2 h a → (0 ≤ b ∧ b ≤ 3) → (0 ≤ c ∧ c ≤ 1) → ∀ (f t : Nat) (H : zH), t + f = (h.1 2 0).toNat → fr frK h H → Isea H → zJ X 40 [some (sR 0), some (sI a), some (sI b), some (sI c), some (sI (bitsF (fun t => ¬ lstV h a b t = -2) t)), some (sI (dyD (lstV h a b) t)), some (sI (dyL (lstV h a b) t)), some (sI t)] [] H := by
    intro oa ob oc f
    induction f with
    | zero =>
      intro t H ht hf hs
      have e0 : H.1 2 0 = h.1 2 0 := (hf 2 0 rfl).1
      have et : t = (h.1 2 0).toNat := by omega
      refine zrun_sound t_X8_days C E [] 60 _ _ _ _ ?_
      refine And.intro (by omega) (And.intro (by omega) (And.intro (fun _ => ?_) (fun z => absurd (by omega) z)))
      refine And.intro hc (And.intro (fun z => ?_) (fun z => ?_))
      · exact And.intro hf (And.intro hs ⟨_, rfl, Or.inr ⟨⟨oa, ob, oc⟩, by rw [if_neg z, et]⟩⟩)
      · exact And.intro hf (And.intro hs ⟨_, rfl, Or.inr ⟨⟨oa, ob, oc⟩, by rw [if_pos z, et]⟩⟩)
    | succ f ih =>
      intro t H ht hf hs
      have kk := kpR_K hf
      have hV' := kpR_V kk hV
      have e0 : H.1 2 0 = h.1 2 0 := (hf 2 0 rfl).1
      obtain ⟨w1, w2, w3⟩ := aw_ok hV'
      have oc' : okT H (10 * b + (t : Int)) := by
        rw [(kpR_ok kk).2.2.1]
        exact ⟨by omega, by omega, by omega⟩
      have hq4 : 0 ≤ H.1 2 4 ∧ H.1 2 4 ≤ 5 := by rw [(hf 2 4 rfl).1]; omega
      refine zrun_sound t_X8_days C E [40, 106] 80 _ _ _ _ ?_
      refine And.intro (by omega) (And.intro (by omega) (And.intro (fun z => absurd z (by omega)) (fun _ => ?_)))
      refine zcall_i (d' := d - 1) hd1 (c_X2_allWinds H hq4) ?_
      rintro _ _ ⟨rfl, rfl⟩
      refine zcall_i (d' := d - 1) hd1 (c_prepX (by omega) H (10 * b + (t : Int)) _ (aw H) hV' hs oc' w3 ⟨w1, w2⟩) ?_
      rintro _ g ⟨rfl, hf1, hs1, hq⟩
      obtain ⟨a1, a2, a3, a4⟩ := id oa
      have oa' : ok2 H a := by
        unfold ok2
        rw [(hf 2 8 rfl).1]
        exact oa
      refine And.intro ⟨a1, by omega⟩ (And.intro (by decide) (And.intro ⟨a1, by omega⟩ (And.intro (by decide) ?_)))
      refine zcall_i (d' := d - 1) hd1 (c_lastX (by omega) H g a (10 * b + (t : Int)) (aw H) hV' hf1 hq oa') ?_
      rintro _ g2 ⟨hf2, rfl⟩
      have eL : lastV (SB H (10 * b + (t : Int)) (aw H)) (a / 100).toNat (a % 100).toNat (H.1 2 18).toNat (H.1 2 19).toNat = lstV h a b t := by
        show lstV H a b t = _
        rw [kpR_lst kk]
      rw [eL]
      have rt := rb t
      have lt := dyL_b rb t
      have nx := ih (t + 1) g2 (by omega) (fr_trans (fr_trans hf hf1) (frK_S hf2)) (Isea_S hs1 hf2)
      have dL : dyL (lstV h a b) (t + 1) = if dyL (lstV h a b) t < lstV h a b t then lstV h a b t else dyL (lstV h a b) t := rfl
      have dD : dyD (lstV h a b) (t + 1) = if dyL (lstV h a b) t < lstV h a b t then (t : Int) else dyD (lstV h a b) t := rfl
      rw [dL, dD] at nx
      have cut : zJ X 106 [some (sR 0), some (sI a), some (sI b), some (sI c), some (sI (bitsF (fun t => ¬ lstV h a b t = -2) (t + 1))), some (sI (dyD (lstV h a b) t)), some (sI (dyL (lstV h a b) t)), some (sI t), some (sI (lstV h a b t))] [] g2 := by
        refine zrun_sound t_X8_days C E [40] 80 _ _ _ _ ?_
        refine And.intro (by omega) (And.intro (by omega) (And.intro (fun z => ?_) (fun z => ?_)))
        · rw [if_neg (Int.not_lt.mpr z), if_neg (Int.not_lt.mpr z)] at nx
          exact zJ_le nx (And.intro rfl (And.intro rfl (And.intro rfl (And.intro rfl (And.intro rfl (And.intro rfl (And.intro rfl (And.intro rfl trivial)))))))) rfl rfl
        · rw [if_pos (Int.not_le.mp z), if_pos (Int.not_le.mp z)] at nx
          exact zJ_le nx (And.intro rfl (And.intro rfl (And.intro rfl (And.intro rfl (And.intro rfl (And.intro rfl (And.intro rfl (And.intro rfl trivial)))))))) rfl rfl
      refine And.intro (by omega) (And.intro (by decide) (And.intro (fun z => ?_) (fun z => ?_)))
      · rw [bitsF_0 (fun q => q z)] at cut
        exact zJ_le cut (And.intro rfl (And.intro rfl (And.intro rfl (And.intro rfl (And.intro rfl (And.intro rfl (And.intro rfl (And.intro rfl (And.intro rfl trivial))))))))) rfl rfl
      · rw [bitsF_1 (φ := fun t => ¬ lstV h a b t = -2) z] at cut
        exact zJ_le cut (And.intro rfl (And.intro rfl (And.intro rfl (And.intro rfl (And.intro rfl (And.intro rfl (And.intro rfl (And.intro rfl (And.intro rfl trivial))))))))) rfl rfl
  refine zrun_sound t_X8_days C E [40] 60 _ _ _ _ ?_
  refine zcall_i (d' := d - 1) hd1 (c_X8_isPair (by omega) h a ha hv3) ?_
  rintro _ _ ⟨rfl, rfl⟩
  refine And.intro g_in (And.intro (fun c1 => And.intro (fr_rfl _ _) (And.intro hI ⟨_, rfl, Or.inl ⟨fun z => g_f c1 z.1, rfl⟩⟩)) (fun c1 => ?_))
  refine zcall_i (d' := d - 1) hd1 (c_X8_isSort (by omega) h b hb) ?_
  rintro _ _ ⟨rfl, rfl⟩
  refine And.intro g_in (And.intro (fun c2 => And.intro (fr_rfl _ _) (And.intro hI ⟨_, rfl, Or.inl ⟨fun z => g_f c2 z.2.1, rfl⟩⟩)) (fun c2 => ?_))
  refine zcall_i (d' := d - 1) hd1 (c_X8_within h c 0 1 hc (by omega) (by omega)) ?_
  rintro _ _ ⟨rfl, rfl⟩
  refine And.intro g_in (And.intro (fun c3 => ?_) (fun c3 => And.intro (fr_rfl _ _) (And.intro hI ⟨_, rfl, Or.inl ⟨fun z => g_f c3 z.2.2, rfl⟩⟩)))
  have q1 := g_t c1
  replace q1 : ok2 h a := q1
  have q2 := g_t c2
  have q3 := g_t c3
  exact zJ_le (loop q1 q2 q3 (h.1 2 0).toNat 0 h (by omega) (fr_rfl _ _) hI) (And.intro rfl (And.intro rfl (And.intro rfl (And.intro rfl (And.intro rfl (And.intro rfl (And.intro rfl (And.intro rfl trivial)))))))) rfl rfl
theorem c_lastK {d : Nat} (hd : 5 ≤ d) (h H : zH) (a c s' : Int) (s : Nat) (k : kpR h H) (hI : Inv2 h) (n1 : H.1 52 31 = -1) (n2 : H.1 52 32 = -1) (n3 : H.1 52 34 = -1) (n4 : 0 ≤ H.1 52 33 ∧ H.1 52 33 ≤ 200) (ha : ok2 h a) (hc : okT h c) (es : s' = s) (hs : 1 ≤ s ∧ s < 2 ^ (h.1 2 4).toNat) :
    zC d k_X9_lastFrom [sR 52, sI a, sI c, sI s'] H (fun o g => fr frR H g ∧ o = some (sI (lastV (SB h c s) (a / 100).toNat (a % 100).toNat (h.1 2 18).toNat (h.1 2 19).toNat))) := by
  have hV := kpR_V k hI.1.1
  have hE := kpR_E k hI.1.2.1
  obtain ⟨hv1, hv2, hv3, hv4, hv5⟩ := id hV.1
  obtain ⟨x1, x2, x3, x4, x5, x6⟩ := id hE.1
  obtain ⟨a1, a2, a3, a4⟩ := ha
  obtain ⟨c1, c2, c3⟩ := id hc
  have e2 := k.1 2 rfl
  rw [e2] at hv1 hv2 hv3 hv4 hv5 x1 x2 x3 x4 x5 x6
  have hW := Imw_of ⟨n1, n2, n3⟩ n4
  have hs32 : s < 32 := Nat.lt_of_lt_of_le hs.2 (Nat.pow_le_pow_right (by omega) (show (h.1 2 4).toNat ≤ 5 by omega))
  have hB : RB H (c / 10).toNat (h.1 2 8).toNat (h.1 2 10).toNat := RB_of hV hE hW (by omega) (by rw [e2]; omega) (by rw [e2]; omega)
  have hR : VR H (c % 10).toNat (h.1 2 4).toNat (h.1 2 8).toNat (h.1 2 10).toNat := VR_of hV hE hW (by rw [e2]; omega) (by rw [e2]; omega) (by rw [e2]; omega) (by rw [e2]; omega)
  have hr := c_X9_lastFrom hd H a c (a / 100).toNat (a % 100).toNat (c / 10).toNat (c % 10).toNat s (h.1 2 4).toNat (h.1 2 8).toNat (h.1 2 10).toNat (h.1 2 18).toNat (h.1 2 19).toNat ⟨a1, by omega⟩ (by omega) (by omega) (by omega) (by omega) ⟨c1, by omega⟩ (by omega) (by omega) hR hB hs32 (by omega) (by omega) (by omega) (by omega)
  rw [← es] at hr
  have sm := SM_K k hI.1.1 hI.1.2.1 hc hs n1 n2 rfl n3
  unfold SM at sm
  rw [SZ_Y (Y' := 0), e2] at sm
  refine zC_mono hr ?_
  rintro o g ⟨hf, r, rfl, hr2⟩
  refine ⟨hf, ?_⟩
  rw [lastV_eq (lastR_c sm (SR_okB hB) (by omega) (by omega) hr2)]
set_option maxHeartbeats 2000000 in
theorem c_X9_days {d : Nat} (hd : 7 ≤ d) (h : zH) (a b c : Int) (ha : inR a) (hb : inR b) (hc : inR c) (hI : Inv2 h) :
    zC d k_X9_days [sR 52, sI a, sI b, sI c] h (fun o g => Inv2 g ∧ ∃ r : Int, o = some (sI r) ∧ daysA h a b c r) := by
  have hV := hI.1.1
  have hE := hI.1.2.1
  obtain ⟨hv1, hv2, hv3, hv4, hv5⟩ := id hV.1
  obtain ⟨w1, w2, w3⟩ := aw_ok hV
  obtain ⟨x1, x2, x3, x4, x5, x6⟩ := id hE.1
  obtain ⟨m1, m2, m3⟩ := id hI.1.2.2.2.2.2.2.2.2.2
  have m4 := hI.2
  have hd1 : d - 1 + 1 ≤ d := by omega
  have rb := fun t => lstV_b h a b t hV
  have g1 := c_X9_areTwo (d := d - 1) (by omega) h a ha (by omega)
  rw [x3] at g1
  have hall : ∀ H : zH, kpR h H → zC (d - 1) k_X9_allWinds [sR 52] H (fun o g => H = g ∧ o = some (sI (aw h))) := fun H k => by
    have e16 : H.1 52 16 = h.1 2 4 := (k.2.2 16 (by omega) (by omega) (by omega) (by omega) (by omega)).trans x2
    have := c_X9_allWinds (d := d - 1) H (by omega)
    rw [e16, w3] at this
    exact this
  refine zC_of (by decide +kernel) (Nat.le_of_ble_eq_true rfl) (fun X C E => ?_)
  have loop : ok2 h a → (0 ≤ b ∧ b ≤ 3) → (0 ≤ c ∧ c ≤ 1) → ∀ (f t : Nat) (H : zH), t + f = (h.1 2 0).toNat → kpR h H → Isea H → H.1 52 31 = -1 → H.1 52 32 = -1 → H.1 52 34 = -1 → (0 ≤ H.1 52 33 ∧ H.1 52 33 ≤ 200) → zJ X 40 [some (sR 52), some (sI a), some (sI b), some (sI c), some (sI (bitsF (fun t => ¬ lstV h a b t = -2) t)), some (sI (dyD (lstV h a b) t)), some (sI (max (-1) (dyL (lstV h a b) t))), some (sI t)] [] H := by
    intro oa ob oc f
    induction f with
    | zero =>
      intro t H ht k hs n1 n2 n3 n4
      have e0 : H.1 52 8 = h.1 2 0 := (k.2.2 8 (by omega) (by omega) (by omega) (by omega) (by omega)).trans x1
      have et : t = (h.1 2 0).toNat := by omega
      refine zrun_sound t_X9_days C E [] 60 _ _ _ _ ?_
      refine And.intro (by omega) (And.intro (by omega) (And.intro (fun _ => ?_) (fun z => absurd (by omega) z)))
      refine And.intro hc (And.intro (fun z => ?_) (fun z => ?_))
      · exact And.intro (kpR_I k hI hs n1 n2 n3 n4) ⟨_, rfl, Or.inr ⟨⟨oa, ob, oc⟩, by rw [if_neg z, et]⟩⟩
      · exact And.intro (kpR_I k hI hs n1 n2 n3 n4) ⟨_, rfl, Or.inr ⟨⟨oa, ob, oc⟩, by rw [if_pos z, et]⟩⟩
    | succ f ih =>
      intro t H ht k hs n1 n2 n3 n4
      have e0 : H.1 52 8 = h.1 2 0 := (k.2.2 8 (by omega) (by omega) (by omega) (by omega) (by omega)).trans x1
      have oc' : okT h (10 * b + (t : Int)) := ⟨by omega, by omega, by omega⟩
      have bi := bitsF_in (fun t => ¬ lstV h a b t = -2) t
      have rt := rb t
      have lt := dyL_b rb t
      refine zrun_sound t_X9_days C E [40, 82] 80 _ _ _ _ ?_
      refine And.intro (by omega) (And.intro (by omega) (And.intro (fun z => absurd z (by omega)) (fun _ => ?_)))
      refine zcall_i (d' := d - 1) hd1 (hall H k) ?_
      rintro _ _ ⟨rfl, rfl⟩
      refine zcall_i (d' := d - 1) hd1 (c_lastK (by omega) h H a (10 * b + (t : Int)) _ (aw h) k hI n1 n2 n3 n4 oa oc' rfl ⟨w1, w2⟩) ?_
      rintro _ g ⟨hf, rfl⟩
      rw [show lastV (SB h (10 * b + (t : Int)) (aw h)) (a / 100).toNat (a % 100).toNat (h.1 2 18).toNat (h.1 2 19).toNat = lstV h a b t from rfl]
      have nx := ih (t + 1) g (by omega) (kpR_t k (kpR_R hf)) (kpR_sea hf hs) ((hf 52 31 rfl).1.trans n1) ((hf 52 32 rfl).1.trans n2) ((hf 52 34 rfl).1.trans n3) (by rw [(hf 52 33 rfl).1]; exact n4)
      have dL : dyL (lstV h a b) (t + 1) = if dyL (lstV h a b) t < lstV h a b t then lstV h a b t else dyL (lstV h a b) t := rfl
      have dD : dyD (lstV h a b) (t + 1) = if dyL (lstV h a b) t < lstV h a b t then (t : Int) else dyD (lstV h a b) t := rfl
      rw [dL, dD] at nx
      have cut : ∀ v : Int, or32 (bitsF (fun t => ¬ lstV h a b t = -2) t) v = bitsF (fun t => ¬ lstV h a b t = -2) (t + 1) → zJ X 82 [some (sR 52), some (sI a), some (sI b), some (sI c), some (sI (bitsF (fun t => ¬ lstV h a b t = -2) t)), some (sI (dyD (lstV h a b) t)), some (sI (max (-1) (dyL (lstV h a b) t))), some (sI t), some (sI (lstV h a b t))] [sI v, sI (bitsF (fun t => ¬ lstV h a b t = -2) t)] g := by
        intro v hv
        refine zrun_sound t_X9_days C E [40] 80 _ _ _ _ ?_
        refine And.intro (by omega) (And.intro (by omega) (And.intro (fun z => ?_) (fun z => ?_)))
        · have hle : ¬ dyL (lstV h a b) t < lstV h a b t := by omega
          rw [if_neg hle, if_neg hle] at nx
          exact zJ_le nx (And.intro rfl (And.intro rfl (And.intro rfl (And.intro rfl (And.intro (congrArg sI hv.symm) (And.intro rfl (And.intro rfl (And.intro rfl trivial)))))))) rfl rfl
        · have hlt : dyL (lstV h a b) t < lstV h a b t := by omega
          rw [if_pos hlt, if_pos hlt] at nx
          exact zJ_le nx (And.intro rfl (And.intro rfl (And.intro rfl (And.intro rfl (And.intro (congrArg sI hv.symm) (And.intro rfl (And.intro (congrArg sI (by omega)) (And.intro rfl trivial)))))))) rfl rfl
      refine And.intro (by omega) (And.intro (fun z => ?_) (fun z => ?_))
      · refine cut 0 ?_
        rw [or32_0 bi, bitsF_0 (fun q => q (by omega))]
      · refine cut _ ?_
        rw [bitsF_1 (φ := fun t => ¬ lstV h a b t = -2) (show ¬ lstV h a b t = -2 by omega)]
  refine zrun_sound t_X9_days C E [40] 60 _ _ _ _ ?_
  refine zcall_i (d' := d - 1) hd1 g1 ?_
  rintro _ _ ⟨rfl, rfl⟩
  refine And.intro g_in (And.intro (fun c1 => And.intro hI ⟨_, rfl, Or.inl ⟨fun z => g_f c1 z.1, rfl⟩⟩) (fun c1 => ?_))
  refine zcall_i (d' := d - 1) hd1 (c_X9_isSort (by omega) h b hb) ?_
  rintro _ _ ⟨rfl, rfl⟩
  refine And.intro g_in (And.intro (fun c2 => And.intro hI ⟨_, rfl, Or.inl ⟨fun z => g_f c2 z.2.1, rfl⟩⟩) (fun c2 => ?_))
  refine zcall_i (d' := d - 1) hd1 (c_X9_within h (i2l c) 0 1 c 0 1 (i2l_toInt hc) (by decide) (by decide)) ?_
  rintro _ _ ⟨rfl, rfl⟩
  refine And.intro g_in (And.intro (fun c3 => ?_) (fun c3 => And.intro hI ⟨_, rfl, Or.inl ⟨fun z => g_f c3 z.2.2, rfl⟩⟩))
  have q1 := g_t c1
  replace q1 : ok2 h a := q1
  have q2 := g_t c2
  have q3 := g_t c3
  exact zJ_le (loop q1 q2 q3 (h.1 2 0).toNat 0 h (by omega) (kpR_0 h) hI.1.2.2.1 m1 m2 m3 m4) (And.intro rfl (And.intro rfl (And.intro rfl (And.intro rfl (And.intro rfl (And.intro rfl (And.intro rfl (And.intro rfl trivial)))))))) rfl rfl
theorem pr_days {d : Nat} (hd : 7 ≤ d) {a b c : Int} (ha : inR a) (hb : inR b) (hc : inR c) : Pair2 d k_X8_days k_X9_days [sI a, sI b, sI c] := fun h hI => by
  refine zC_mono (c_X8_days hd h a b c ha hb hc hI.1.1 hI.1.2.2.1) ?_
  rintro o g ⟨hf, hs, r, rfl, hr⟩
  refine ⟨r, rfl, zC_mono (c_X9_days hd g a b c ha hb hc (Inv_K hI hs hf)) ?_⟩
  rintro o g' ⟨hI', r', rfl, hr'⟩
  rw [daysA_u hr (daysA_k (kpR_K hf) hr')]
  exact ⟨rfl, hI'⟩
